section STN
variable {g : AG} {ad : Nat → Nat} {d : Nat} {σ : SG} {m : Int → Int}
/-- the steps that lead to a half -/
def pth (S : SK) : Nat → Int → List Op
  | 0, _ => []
  | n + 1, k => if S.fr k = -1 then [] else pth S n (S.fr k) ++ [(S.bs k, S.bo k)]
def pthM (S : SK) (k : Int) : List Op := pth S 7 k
theorem pth_more {S : SK} (h : IS m S) : ∀ (n : Nat) (k : Int), ¬ S.ls k = 0 → pc (k / 294) < n → pth S (n + 1) k = pth S n k
  | 0, k, _, hn => by omega
  | n + 1, k, hk, hn => by
    rw [pth]
    conv => rhs; rw [pth]
    by_cases c : S.fr k = -1
    · rw [if_pos c, if_pos c]
    · rw [if_neg c, if_neg c]
      rcases h.par k hk with q | q
      · exact absurd q.1 c
      · rw [pth_more h n (S.fr k) q.1 (by omega)]
theorem pth_eq {S : SK} (h : IS m S) {k : Int} (hk : ¬ S.ls k = 0) : pthM S k = if S.fr k = -1 then [] else pthM S (S.fr k) ++ [(S.bs k, S.bo k)] := by
  have h6 : pc (k / 294) ≤ 6 := st_pc6 (h.rng k hk).2.2.1
  unfold pthM
  rw [← pth_more h 7 k hk (by omega), pth]
theorem pth_len {S : SK} (h : IS m S) : ∀ (n : Nat) (k : Int), ¬ S.ls k = 0 → pc (k / 294) ≤ n → (pthM S k).length ≤ pc (k / 294) := by
  intro n
  induction n with
  | zero =>
    intro k hk hn
    rw [pth_eq h hk]
    rcases h.par k hk with q | q
    · rw [if_pos q.1]; exact Nat.zero_le _
    · omega
  | succ n ih =>
    intro k hk hn
    rw [pth_eq h hk]
    rcases h.par k hk with q | q
    · rw [if_pos q.1]; exact Nat.zero_le _
    · by_cases c : S.fr k = -1
      · rw [if_pos c]; exact Nat.zero_le _
      · rw [if_neg c, List.length_append, List.length_singleton]
        have := ih (S.fr k) q.1 (by omega)
        omega
theorem pth_len6 {S : SK} (h : IS m S) {k : Int} (hk : ¬ S.ls k = 0) : (pthM S k).length ≤ 6 := by
  have h6 : pc (k / 294) ≤ 6 := st_pc6 (h.rng k hk).2.2.1
  have := pth_len h 6 k hk h6
  omega
theorem e_stepsOf {S : SK} {k : Int} (hR : RelS σ S) (hI : IS m S) (hk : ¬ S.ls k = 0) (hS : SR σ) : EI g ad d mX11_stepsOf [.ref (ad 102), vi k] σ ((pthM S k).length) σ := by
  have hkr := hI.rng k hk
  have ik : iR k := iR_of (by omega) (by omega)
  have hl6 := pth_len6 hI hk
  refine EbS rfl pl_X11 rfl rfl (bX11_stepsOf_0 ik hS ?_)
  intros
  have key : ∀ (n : Nat) (i c : Int), pc (i / 294) ≤ n → ¬ S.ls i = 0 → 0 ≤ c → c + (pthM S i).length = (pthM S k).length → aX11_stepsOf_4 g ad d (Ki fun r s => r = ((pthM S k).length : Int) ∧ s = σ) 0 0 σ k c i := by
    intro n
    induction n with
    | zero =>
      intro i c hn hi hc hv
      have hir := hI.rng i hi
      rw [pth_eq hI hi] at hv
      refine bX11_stepsOf_4 ik (iR_of (by omega) (by omega)) (iR_of (by omega) (by omega)) hS ⟨⟨hir.1, hir.2.1⟩, ?_⟩
      rw [hR.fr i hir.1 hir.2.1 hi]
      refine ⟨fun c1 => re_i ⟨?_, rfl⟩, fun c1 => ?_⟩
      · rw [if_pos c1] at hv
        have : c + ((0 : Nat) : Int) = ((pthM S k).length : Int) := hv
        omega
      · rcases hI.par i hi with q | q
        · exact absurd q.1 c1
        · omega
    | succ n ih =>
      intro i c hn hi hc hv
      have hir := hI.rng i hi
      rw [pth_eq hI hi] at hv
      refine bX11_stepsOf_4 ik (iR_of (by omega) (by omega)) (iR_of (by omega) (by omega)) hS ⟨⟨hir.1, hir.2.1⟩, ?_⟩
      rw [hR.fr i hir.1 hir.2.1 hi]
      refine ⟨fun c1 => re_i ⟨?_, rfl⟩, fun c1 => ⟨iR_of (by omega) (by omega), fun _ _ _ _ => ?_⟩⟩
      · rw [if_pos c1] at hv
        have : c + ((0 : Nat) : Int) = ((pthM S k).length : Int) := hv
        omega
      · rcases hI.par i hi with q | q
        · exact absurd q.1 c1
        · rw [if_neg c1, List.length_append, List.length_singleton] at hv
          exact ih (S.fr i) (c + 1) (by omega) q.1 (by omega) (by omega)
  exact key 6 k 0 (st_pc6 hkr.2.2.1) hk (by omega) (by omega)
theorem fk_mem (hW : WF m) {S : SK} (h : ¬ fkM m S = -1) : ¬ S.ls (fkM m S) = 0 := by
  unfold fkM at h ⊢
  cases e : (srt (rkF m S) (candF m S))[0]? with
  | none => rw [e] at h; exact absurd rfl h
  | some k =>
    have := mem_candF.mp (mem_srt.mp (List.mem_of_getElem? e))
    exact this.2
def foundT (a : Int) : Int := if 0 ≤ a ∧ a ≤ 4 then 0 else 1
/-- the way found -/
def fpM (m : Int → Int) (w : Int) : List Op := pthM (stkM m w).S (fkM m (stkM m w).S)
def foundV (m : Int → Int) (a : Int) : Int := if foundT a = 0 then (if a = 0 then fcM m (stkM m (m 8)).S else if a = 1 then (if fkM m (stkM m (m 8)).S = -1 then -1 else (fpM m (m 8)).length) else if a = 2 then (stkM m (m 8)).S.mn else if a = 3 then (stkM m (m 8)).S.mg else (stkM m (m 8)).cut) else 0
theorem stkM_IS (hW : WF m) {w : Int} (hw : 1 ≤ w ∧ w ≤ 40) : IS m (stkM m w).S ∧ 0 ≤ (stkM m w).S.mn ∧ (stkM m w).S.mn ≤ 50000 := by
  have h3 := hW.1.2.2.2.1
  have h := stkN_IS hW hw (m 3).toNat
  rw [show (((m 3).toNat : Nat) : Int) = m 3 by omega] at h
  exact ⟨h.1, h.2.1, by have := h.2.2; show (stkN m w (m 3)).S.mn ≤ _; omega⟩
theorem StkF_LI {A K : List Nat} {σ s : SG} (h : Fm A K σ s) (hA : decide (103 ∈ A ∨ 112 ∈ A) = false) (hK : decide (20 ∈ K) = false) (hI : LI σ) : LI s := by
  have hA' := of_decide_eq_false hA
  intro q
  rw [h.s 20 hK] at q
  rw [h.2.2.1 103 (fun z => hA' (Or.inl z)), h.2.2.1 112 (fun z => hA' (Or.inr z))]
  exact hI q
theorem e_found {x1 : Int} (em : ia σ 103 = m) (hW : WF m) (hS : SR σ) (hI : LI σ) (h1 : iR x1) (hd : 8 ≤ d) : EQ g ad d mX11_found [.ref (ad 102), vi x1] σ (foundV m x1) (foundT x1) := by
  have hw := hW.1.2.2.2.2.2.2.2.2
  have hIS := stkM_IS hW hw
  have hS0 : SR (setS σ 102 0 0) := SR_setS hS (iR_lit rfl)
  refine EbS rfl pl_X11 rfl rfl (bX11_found_0 h1 hS ?_)
  refine EI.k (by apply e_isIn <;> (first | with_reducible assumption | with_reducible exact iR_of (by omega) (by omega) | omega | with_reducible (exact bi_01) | assumption)) (by omega) (fun _ _ => ?_)
  refine bi_zn (fun c1 => ?_) (fun c1 => ?_)
  · have hT : foundT x1 = 0 := if_pos c1
    have hV : foundV m x1 = (if x1 = 0 then fcM m (stkM m (m 8)).S else if x1 = 1 then (if fkM m (stkM m (m 8)).S = -1 then -1 else ((fpM m (m 8)).length : Int)) else if x1 = 2 then (stkM m (m 8)).S.mn else if x1 = 3 then (stkM m (m 8)).S.mg else (stkM m (m 8)).cut) := by unfold foundV; rw [if_pos hT]
    simp (config := {decide := true}) only [sc_S, ia_S, la_S, rv_S, sc_I, rv_I, la_I, ia_I, sc_L, rv_L, ia_L, la_L, sc_A, rv_A, la_A, ia_A, sc_B, rv_B, ia_B, la_B, sc_R, ia_R, la_R, rv_R, ia_w, la_w, rv_w, sc_w, if_true, if_false]
    refine ⟨fun _ => ?_, fun q => q.elim⟩
    refine Cl.vo (e_stacks (d := d - 1) (m := m) (by simp (config := {decide := true}) only [sc_S, ia_S, la_S, rv_S, sc_I, rv_I, la_I, ia_I, sc_L, rv_L, ia_L, la_L, sc_A, rv_A, la_A, ia_A, sc_B, rv_B, ia_B, la_B, sc_R, ia_R, la_R, rv_R, ia_w, la_w, rv_w, sc_w, if_true, if_false]; exact em) hW hS0 (by omega)) (by omega) (fun s hS' h => ?_)
    obtain ⟨hP, hF⟩ := h
    have ht : sc s 102 0 = foundT x1 := by rw [hT, hF.s 0 rfl]; simp (config := {decide := true}) only [sc_S, ia_S, la_S, rv_S, sc_I, rv_I, la_I, ia_I, sc_L, rv_L, ia_L, la_L, sc_A, rv_A, la_A, ia_A, sc_B, rv_B, ia_B, la_B, sc_R, ia_R, la_R, rv_R, ia_w, la_w, rv_w, sc_w, if_true, if_false]
    have hq : Fq σ s := ((Fq.refl σ).S rfl).trans (hF.q rfl rfl)
    have hL : LI s := StkF_LI hF rfl rfl (LI_S (by decide) hI)
    refine ⟨fun c => re_i ⟨?_, ht, hq, hL⟩, fun c => re_i ⟨?_, ht, hq, hL⟩, fun c => ⟨fun c2 => ?_, fun c2 => re_i ⟨?_, ht, hq, hL⟩⟩, fun c => re_i ⟨?_, ht, hq, hL⟩, fun c => re_i ⟨?_, ht, hq, hL⟩⟩
    · rw [hV, if_neg (by omega), if_neg (by omega), if_neg (by omega), if_neg (by omega)]; exact hP.cut
    · rw [hV, if_pos c]; exact hP.fc
    · rw [hP.fk] at c2 ⊢
      refine EI.k (e_stepsOf (d := d - 1) hP.rel hIS.1 (fk_mem hW c2) hS') (by omega) (fun _ _ => re_i ⟨?_, ht, hq, hL⟩)
      rw [hV, if_neg (by omega), if_pos c, if_neg c2]
      rfl
    · rw [hP.fk] at c2
      rw [hV, if_neg (by omega), if_pos c, if_pos c2]
    · rw [hV, if_neg (by omega), if_neg (by omega), if_pos c]; exact hP.rel.mn
    · rw [hV, if_neg (by omega), if_neg (by omega), if_neg (by omega), if_pos c]; exact hP.rel.mg
  · have hT : foundT x1 = 1 := if_neg c1
    simp (config := {decide := true}) only [sc_S, ia_S, la_S, rv_S, sc_I, rv_I, la_I, ia_I, sc_L, rv_L, ia_L, la_L, sc_A, rv_A, la_A, ia_A, sc_B, rv_B, ia_B, la_B, sc_R, ia_R, la_R, rv_R, ia_w, la_w, rv_w, sc_w, if_true, if_false]
    refine ⟨fun q => absurd q (by decide), fun _ => EQ_no hT ?_ hI⟩
    unfold foundV; rw [hT]; rfl
def halvesT (a : Int) : Int := if 0 ≤ a ∧ a ≤ 1 then 0 else 1
def halvesV (m : Int → Int) (n a : Int) : Int := if halvesT a = 0 then (if ¬ fkM m (stkM m (m 8)).S = -1 ∧ 0 ≤ n ∧ n < (fpM m (m 8)).length then (if a = 0 then ((fpM m (m 8)).getD n.toNat (0, 0)).1 else ((fpM m (m 8)).getD n.toNat (0, 0)).2) else -1) else 0
theorem e_halves {x1 x2 : Int} (em : ia σ 103 = m) (hW : WF m) (hS : SR σ) (hI : LI σ) (h1 : iR x1) (h2 : iR x2) (hd : 8 ≤ d) : EQ g ad d mX11_halves [.ref (ad 102), vi x1, vi x2] σ (halvesV m x1 x2) (halvesT x2) := by
  have hw := hW.1.2.2.2.2.2.2.2.2
  have hIS := stkM_IS hW hw
  have hS0 : SR (setS σ 102 0 0) := SR_setS hS (iR_lit rfl)
  refine EbS rfl pl_X11 rfl rfl (bX11_halves_0 h1 h2 hS ?_)
  refine EI.k (by apply e_isIn <;> (first | with_reducible assumption | with_reducible exact iR_of (by omega) (by omega) | omega | with_reducible (exact bi_01) | assumption)) (by omega) (fun _ _ => ?_)
  refine bi_zn (fun c1 => ?_) (fun c1 => ?_)
  · have hT : halvesT x2 = 0 := if_pos c1
    simp (config := {decide := true}) only [sc_S, ia_S, la_S, rv_S, sc_I, rv_I, la_I, ia_I, sc_L, rv_L, ia_L, la_L, sc_A, rv_A, la_A, ia_A, sc_B, rv_B, ia_B, la_B, sc_R, ia_R, la_R, rv_R, ia_w, la_w, rv_w, sc_w, if_true, if_false]
    refine ⟨fun _ => ?_, fun q => q.elim⟩
    refine Cl.vo (e_stacks (d := d - 1) (m := m) (by simp (config := {decide := true}) only [sc_S, ia_S, la_S, rv_S, sc_I, rv_I, la_I, ia_I, sc_L, rv_L, ia_L, la_L, sc_A, rv_A, la_A, ia_A, sc_B, rv_B, ia_B, la_B, sc_R, ia_R, la_R, rv_R, ia_w, la_w, rv_w, sc_w, if_true, if_false]; exact em) hW hS0 (by omega)) (by omega) (fun s hS' h => ?_)
    obtain ⟨hP, hF⟩ := h
    have ht : sc s 102 0 = halvesT x2 := by rw [hT, hF.s 0 rfl]; simp (config := {decide := true}) only [sc_S, ia_S, la_S, rv_S, sc_I, rv_I, la_I, ia_I, sc_L, rv_L, ia_L, la_L, sc_A, rv_A, la_A, ia_A, sc_B, rv_B, ia_B, la_B, sc_R, ia_R, la_R, rv_R, ia_w, la_w, rv_w, sc_w, if_true, if_false]
    have hq : Fq σ s := ((Fq.refl σ).S rfl).trans (hF.q rfl rfl)
    have hL : LI s := StkF_LI hF rfl rfl (LI_S (by decide) hI)
    have hV : halvesV m x1 x2 = (if ¬ fkM m (stkM m (m 8)).S = -1 ∧ 0 ≤ x1 ∧ x1 < (fpM m (m 8)).length then (if x2 = 0 then ((fpM m (m 8)).getD x1.toNat (0, 0)).1 else ((fpM m (m 8)).getD x1.toNat (0, 0)).2) else -1) := by unfold halvesV; rw [if_pos hT]
    rw [hP.fk]
    refine ⟨fun c2 => re_i ⟨?_, ht, hq, hL⟩, fun c2 => ?_⟩
    · rw [hV, if_neg (fun q => q.1 c2)]
    · have hkl := fk_mem hW c2
      have hkr := hIS.1.rng _ hkl
      have hl6 := pth_len6 hIS.1 hkl
      have efp : fpM m (m 8) = pthM (stkM m (m 8)).S (fkM m (stkM m (m 8)).S) := rfl
      rw [efp] at hV
      have hsO := e_stepsOf (g := g) (ad := ad) (d := d - 1) hP.rel hIS.1 hkl hS'
      refine EI.k hsO (by omega) (fun _ _ => ?_)
      generalize hpp : pthM (stkM m (m 8)).S (fkM m (stkM m (m 8)).S) = pp at hV hsO hl6
      refine EI.k (by apply e_isIn <;> (first | with_reducible assumption | with_reducible exact iR_of (by omega) (by omega) | omega | with_reducible (exact bi_01) | assumption)) (by omega) (fun _ _ => ?_)
      refine bi_nz (fun c3 => ?_) (fun c3 => re_i ⟨?_, ht, hq, hL⟩)
      · rw [hP.fk]
        refine EI.k hsO (by omega) (fun _ _ => ⟨iR_of (by omega) (by omega), fun _ _ _ _ _ => ?_⟩)
        rw [if_pos ⟨c2, c3.1, by omega⟩] at hV
        have hlast : ∀ k, ¬ (stkM m (m 8)).S.ls k = 0 → ∀ i : Nat, (pthM (stkM m (m 8)).S k).length = i + 1 → ¬ (stkM m (m 8)).S.fr k = -1 ∧ ¬ (stkM m (m 8)).S.ls ((stkM m (m 8)).S.fr k) = 0 ∧ pthM (stkM m (m 8)).S k = pthM (stkM m (m 8)).S ((stkM m (m 8)).S.fr k) ++ [((stkM m (m 8)).S.bs k, (stkM m (m 8)).S.bo k)] := by
          intro k hk i hi
          rw [pth_eq hIS.1 hk] at hi
          by_cases c : (stkM m (m 8)).S.fr k = -1
          · rw [if_pos c] at hi
            cases hi
          · rcases hIS.1.par k hk with q | q
            · exact absurd q.1 c
            · exact ⟨c, q.1, by rw [pth_eq hIS.1 hk, if_neg c]⟩
        have lp := dn_loop (P := fun i => ∀ k, ¬ (stkM m (m 8)).S.ls k = 0 → pp.take (i + 1).toNat = pthM (stkM m (m 8)).S k → (pthM (stkM m (m 8)).S k).length = i.toNat + 1 → aX11_halves_76 g ad d (Ki fun r s => r = halvesV m x1 x2 ∧ sc s 102 0 = halvesT x2 ∧ Fq σ s ∧ LI s) 0 0 s x1 x2 k i) (lo := x1) ((pp.length : Int) - 1) (by omega) ?_ ?_
        · refine lp (fkM m (stkM m (m 8)).S) hkl ?_ ?_
          · rw [show ((pp.length : Int) - 1 + 1).toNat = pp.length by omega, List.take_length, hpp]
          · rw [hpp]; omega
        · intro k hk hpre hlen
          have hkr := hIS.1.rng k hk
          have hl := hlast k hk x1.toNat hlen
          have hget : pp.getD x1.toNat (0, 0) = ((stkM m (m 8)).S.bs k, (stkM m (m 8)).S.bo k) := by
            have e1 : (pp.take (x1 + 1).toNat)[x1.toNat]? = pp[x1.toNat]? := List.getElem?_take_of_lt (by omega)
            rw [hpre, hl.2.2] at e1
            have hll : (pthM (stkM m (m 8)).S ((stkM m (m 8)).S.fr k)).length = x1.toNat := by
              rw [hl.2.2, List.length_append, List.length_singleton] at hlen
              omega
            rw [List.getElem?_append_right (by omega), hll, Nat.sub_self] at e1
            rw [List.getD_eq_getElem?_getD, ← e1]
            rfl
          rw [hget] at hV
          refine bX11_halves_76 h1 h2 (iR_of (by omega) (by omega)) h1 hS' ⟨fun _ => ⟨fun c4 => ⟨⟨hkr.1, hkr.2.1⟩, re_i ⟨?_, ht, hq, hL⟩⟩, fun c4 => ⟨⟨hkr.1, hkr.2.1⟩, re_i ⟨?_, ht, hq, hL⟩⟩⟩, fun q => absurd (Int.le_refl _) q⟩
          · rw [hV, if_neg c4, hP.rel.bo k hkr.1 hkr.2.1 hk]
          · rw [hV, if_pos c4, hP.rel.bs k hkr.1 hkr.2.1 hk]
        · intro i hi0 hi1 ih k hk hpre hlen
          have hkr := hIS.1.rng k hk
          have hl := hlast k hk i.toNat hlen
          refine bX11_halves_76 h1 h2 (iR_of (by omega) (by omega)) (iR_of (by omega) (by omega)) hS' ⟨fun q => absurd q (by omega), fun _ => ⟨⟨hkr.1, hkr.2.1⟩, iR_of (by omega) (by omega), fun _ _ _ _ _ => ?_⟩⟩
          rw [hP.rel.fr k hkr.1 hkr.2.1 hk]
          have hll : (pthM (stkM m (m 8)).S ((stkM m (m 8)).S.fr k)).length = i.toNat := by
            rw [hl.2.2, List.length_append, List.length_singleton] at hlen
            omega
          refine ih _ hl.2.1 ?_ (by rw [hll]; omega)
          rw [show (i - 1 + 1).toNat = i.toNat by omega]
          have e2 := congrArg (List.take i.toNat) hpre
          rw [List.take_take, show min i.toNat (i + 1).toNat = i.toNat by omega, hl.2.2, List.take_append_of_le_length (by omega), ← hll, List.take_length, hll] at e2
          exact e2
      · rw [hV, if_neg (by omega)]
  · have hT : halvesT x2 = 1 := if_neg c1
    simp (config := {decide := true}) only [sc_S, ia_S, la_S, rv_S, sc_I, rv_I, la_I, ia_I, sc_L, rv_L, ia_L, la_L, sc_A, rv_A, la_A, ia_A, sc_B, rv_B, ia_B, la_B, sc_R, ia_R, la_R, rv_R, ia_w, la_w, rv_w, sc_w, if_true, if_false]
    refine ⟨fun q => absurd q (by decide), fun _ => EQ_no hT ?_ hI⟩
    unfold halvesV; rw [hT]; rfl
def stackT (m : Int → Int) (n a : Int) : Int := if 0 ≤ n ∧ n ≤ m 3 then if 0 ≤ a ∧ a ≤ 1 then 0 else 2 else 1
def stackV (m : Int → Int) (n a : Int) : Int := if stackT m n a = 0 then (if a = 0 then ((cand m (stkN m (m 8) n).S n).length : Int) else lowM m (stkN m (m 8) n).S n) else 0
theorem e_stack {x1 x2 : Int} (em : ia σ 103 = m) (hW : WF m) (hS : SR σ) (hI : LI σ) (h1 : iR x1) (h2 : iR x2) (hd : 8 ≤ d) : EQ g ad d mX11_stack [.ref (ad 102), vi x1, vi x2] σ (stackV m x1 x2) (stackT m x1 x2) := by
  have h3 := hW.1.2.2.2.1
  have hS0 : SR (setS σ 102 0 0) := SR_setS hS (iR_lit rfl)
  refine EbS rfl pl_X11 rfl rfl (bX11_stack_0 h1 h2 hS ?_)
  rw [em]
  refine EI.k (by apply e_isIn <;> (first | with_reducible assumption | with_reducible exact iR_of (by omega) (by omega) | omega | with_reducible (exact bi_01) | assumption)) (by omega) (fun _ _ => ?_)
  refine bi_nz (fun c1 => ?_) (fun c1 => ?_)
  · refine EI.k (by apply e_isIn <;> (first | with_reducible assumption | with_reducible exact iR_of (by omega) (by omega) | omega | with_reducible (exact bi_01) | assumption)) (by omega) (fun _ _ => ?_)
    refine bi_nz (fun c2 => ?_) (fun c2 => ?_)
    · have hT : stackT m x1 x2 = 0 := by unfold stackT; rw [if_pos c1, if_pos c2]
      simp (config := {decide := true}) only [sc_S, ia_S, la_S, rv_S, sc_I, rv_I, la_I, ia_I, sc_L, rv_L, ia_L, la_L, sc_A, rv_A, la_A, ia_A, sc_B, rv_B, ia_B, la_B, sc_R, ia_R, la_R, rv_R, ia_w, la_w, rv_w, sc_w, if_true, if_false]
      refine ⟨fun _ => ?_, fun q => q.elim⟩
      refine Cl.vo (e_stacks (d := d - 1) (m := m) (by simp (config := {decide := true}) only [sc_S, ia_S, la_S, rv_S, sc_I, rv_I, la_I, ia_I, sc_L, rv_L, ia_L, la_L, sc_A, rv_A, la_A, ia_A, sc_B, rv_B, ia_B, la_B, sc_R, ia_R, la_R, rv_R, ia_w, la_w, rv_w, sc_w, if_true, if_false]; exact em) hW hS0 (by omega)) (by omega) (fun s hS' h => ?_)
      obtain ⟨hP, hF⟩ := h
      have ht : sc s 102 0 = stackT m x1 x2 := by rw [hT, hF.s 0 rfl]; simp (config := {decide := true}) only [sc_S, ia_S, la_S, rv_S, sc_I, rv_I, la_I, ia_I, sc_L, rv_L, ia_L, la_L, sc_A, rv_A, la_A, ia_A, sc_B, rv_B, ia_B, la_B, sc_R, ia_R, la_R, rv_R, ia_w, la_w, rv_w, sc_w, if_true, if_false]
      have hq : Fq σ s := ((Fq.refl σ).S rfl).trans (hF.q rfl rfl)
      have hL : LI s := StkF_LI hF rfl rfl (LI_S (by decide) hI)
      refine ⟨fun c => ⟨⟨by omega, by omega⟩, re_i ⟨?_, ht, hq, hL⟩⟩, fun c => ⟨⟨by omega, by omega⟩, re_i ⟨?_, ht, hq, hL⟩⟩⟩
      · unfold stackV; rw [if_pos hT, if_neg c]; exact hP.low x1 c1.1 c1.2
      · unfold stackV; rw [if_pos hT, if_pos c]; exact hP.lay x1 c1.1 c1.2
    · have hT : stackT m x1 x2 = 2 := by unfold stackT; rw [if_pos c1, if_neg c2]
      simp (config := {decide := true}) only [sc_S, ia_S, la_S, rv_S, sc_I, rv_I, la_I, ia_I, sc_L, rv_L, ia_L, la_L, sc_A, rv_A, la_A, ia_A, sc_B, rv_B, ia_B, la_B, sc_R, ia_R, la_R, rv_R, ia_w, la_w, rv_w, sc_w, if_true, if_false]
      refine ⟨fun q => absurd q (by decide), fun _ => EQ_no hT ?_ hI⟩
      unfold stackV; rw [hT]; rfl
  · have hT : stackT m x1 x2 = 1 := by unfold stackT; rw [if_neg c1]
    simp (config := {decide := true}) only [sc_S, ia_S, la_S, rv_S, sc_I, rv_I, la_I, ia_I, sc_L, rv_L, ia_L, la_L, sc_A, rv_A, la_A, ia_A, sc_B, rv_B, ia_B, la_B, sc_R, ia_R, la_R, rv_R, ia_w, la_w, rv_w, sc_w, if_true, if_false]
    refine ⟨fun q => absurd q (by decide), fun _ => EQ_no hT ?_ hI⟩
    unfold stackV; rw [hT]; rfl
end STN
