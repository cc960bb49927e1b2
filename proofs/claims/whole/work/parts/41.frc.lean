section FRC
variable {g : AG} {ad : Nat → Nat} {d : Nat} {σ : SG} {m : Int → Int}
/-! there is always a way: each place as it is -/
theorem pass_bits : ∀ i : Fin 6, bAnd ((2 : Int) ^ i.val - 1) ((2 ^ 1 - 1) * 2 ^ i.val) = 0 ∧ bOr ((2 : Int) ^ i.val - 1) ((2 ^ 1 - 1) * 2 ^ i.val) = 2 ^ (i.val + 1) - 1 := by decide +kernel
theorem pass_nd : ∀ i : Fin 7, (0 : Int) ≤ 2 ^ i.val - 1 ∧ (2 : Int) ^ i.val - 1 ≤ 63 := by decide
theorem pass_ne : ∀ i j : Fin 7, (2 : Int) ^ i.val - 1 = 2 ^ j.val - 1 → i = j := by decide
theorem wy_pass (hW : WF m) : ∀ (n i : Nat), ((i + n : Nat) : Int) = m 3 → ∀ last, (-1 ≤ last ∧ last < m 0) → ¬ wy m ((2 : Int) ^ i - 1, (i : Int), last) = [] := by
  have h3 := hW.1.2.2.2.1
  have h7 := hW.1.2.2.2.2.2.2.2.1
  intro n
  induction n with
  | zero =>
    intro i hi last hl
    have hx : nd m ((2 : Int) ^ i - 1, (i : Int), last) := ⟨pass_nd ⟨i, by omega⟩, ⟨by show (0 : Int) ≤ i; omega, by show (i : Int) ≤ 6; omega⟩, hl⟩
    rw [wy_eq hW hx]
    unfold wyG
    have e : (2 : Int) ^ i - 1 = fullM m := by
      unfold fullM
      rw [show (m 3).toNat = i by omega]
    rw [if_pos e]
    simp
  | succ n ih =>
    intro i hi last hl
    have hx : nd m ((2 : Int) ^ i - 1, (i : Int), last) := ⟨pass_nd ⟨i, by omega⟩, ⟨by show (0 : Int) ≤ i; omega, by show (i : Int) ≤ 6; omega⟩, hl⟩
    rw [wy_eq hW hx]
    unfold wyG
    have e : ¬ (2 : Int) ^ i - 1 = fullM m := by
      unfold fullM
      intro q
      have := pass_ne ⟨i, by omega⟩ ⟨(m 3).toNat, by omega⟩ q
      have h := congrArg Fin.val this
      simp only at h
      omega
    rw [if_neg e]
    have hmem : ((i : Int), (99 : Int)) ∈ sr m 0 := mem_sr.mpr ⟨⟨by show (0 : Int) ≤ i; omega, by show (i : Int) < m 3; omega⟩, Or.inl rfl⟩
    have hb := pass_bits ⟨i, by omega⟩
    have hcov : cov m 99 = 1 := if_pos rfl
    have hmsk : msk m 99 i = (2 ^ 1 - 1) * 2 ^ i := by
      unfold msk
      rw [hcov, show ((i : Int)).toNat = i by omega]
      rfl
    have hmay : myB m ((2 : Int) ^ i - 1, (i : Int), last) ((i : Int), 99) = true := by
      show mayB m ((2 : Int) ^ i - 1) i i 99 = true
      unfold mayB
      have e1 : apB (i : Int) i = 0 := by unfold apB; rw [if_neg (by omega)]; omega
      have e2 : isOpt m 99 i = true := by unfold isOpt; rw [if_pos rfl]; exact decide_eq_true ⟨by omega, by omega⟩
      rw [if_neg (by omega), if_pos e2, hmsk]
      exact decide_eq_true hb.1
    have hst : stp m ((2 : Int) ^ i - 1, (i : Int), last) ((i : Int), 99) = ((2 : Int) ^ (i + 1) - 1, ((i + 1 : Nat) : Int), (weigh m i last i 99).2) := by
      unfold stp
      refine Prod.ext ?_ (Prod.ext ?_ rfl)
      · show bOr ((2 : Int) ^ i - 1) (msk m 99 i) = _
        rw [hmsk]
        exact hb.2
      · show (i : Int) + cov m 99 = ((i + 1 : Nat) : Int)
        rw [hcov]
        omega
    have hnd := (stp_nd hW hx hmem hmay).1
    rw [hst] at hnd
    have hne := ih (i + 1) (by omega) (weigh m i last i 99).2 hnd.2.2
    intro q
    have := List.flatMap_eq_nil_iff.mp q ((i : Int), 99) hmem
    rw [if_pos hmay, hst] at this
    exact hne (List.map_eq_nil_iff.mp this)
theorem way0 (hW : WF m) : ∃ w, wayK m 0 = some w := by
  have h3 := hW.1.2.2.2.1
  have hne : ¬ wy m (0, 0, -1) = [] := wy_pass hW (m 3).toNat 0 (by omega) (-1) (nd0 hW).2.2
  have hwr := wy_rest hW 6 _ (nd0 hW) (by decide)
  rcases hwr.2 with h | ⟨w, hw, e⟩
  · exact absurd h.2 hne
  · -- the first of the cheapest
    have hlt : cLt w.1 (wy m (0, 0, -1)) = 0 := by
      unfold cLt
      rw [List.filter_eq_nil_iff.mpr, List.length_nil]
      intro v hv q
      have := of_decide_eq_true q
      have := (hwr.1 v hv).1
      omega
    have hin : w ∈ cEq w.1 (wy m (0, 0, -1)) := List.mem_filter.mpr ⟨hw, decide_eq_true rfl⟩
    cases hL : cEq w.1 (wy m (0, 0, -1)) with
    | nil => rw [hL] at hin; cases hin
    | cons v l =>
      have hv : v.1 = w.1 := by
        have : v ∈ cEq w.1 (wy m (0, 0, -1)) := by rw [hL]; exact List.mem_cons_self ..
        exact of_decide_eq_true (List.mem_filter.mp this).2
      refine ⟨v, kw_some ⟨?_, ?_⟩⟩
      · rw [hv, hlt]; exact Nat.zero_le _
      · rw [hv, hlt, hL]; rfl
theorem exM_lt (hW : WF m) : exM m ≤ 3195 := by
  obtain ⟨w, hw⟩ := way0 hW
  have h1 := wayK_mem hW hw
  have h2 := (wy_rest hW 6 _ (nd0 hW) (by decide)).1 w h1.1
  have : exM m ≤ w.1 := h2.1
  omega
/-! FORCED -/
/-- a told text -/
def lastT (tl : Int → Int) (n : Int) : Int := if n = 0 then -1 else tl (n - 1)
def spk (m tl : Int → Int) (tn n : Int) (p : Op) : Bool := decide (n + tgN m p.2 ≤ tn) && allN (fun k => decide (tl (n + k) = tgt m p.2 p.1 k)) (tgN m p.2).toNat 0
theorem e_isSpoken {tl : Int → Int} {tn x1 x2 x3 : Int} (em : ia σ 103 = m) (et : ia σ 109 = tl) (en : sc σ 102 14 = tn) (hW : WF m) (hS : SR σ) (ho : isO m x1) (h2 : 0 ≤ x2 ∧ x2 < 6) (h3 : 0 ≤ x3 ∧ x3 ≤ 18) (hn : tn ≤ 18) (hd : 2 ≤ d) : EI g ad d mX11_isSpoken [.ref (ad 102), vi x1, vi x2, vi x3] σ (bi (spk m tl tn x3 (x2, x1) = true)) σ := by
  have hW0 := hW.1
  have hob := isO_b hW0 ho
  have htn := tgN_b hW.2.1 ho
  have i1 : iR x1 := iR_of (by omega) (by omega)
  have i2 : iR x2 := iR_of (by omega) (by omega)
  have i3 : iR x3 := iR_of (by omega) (by omega)
  refine EbS rfl pl_X11 rfl rfl (bX11_isSpoken_0 i1 i2 i3 hS ?_)
  refine EI.k (by apply (w_targetMany em) <;> (first | with_reducible assumption | with_reducible exact iR_of (by omega) (by omega) | omega | with_reducible (exact bi_01) | assumption)) (by omega) (fun _ _ => ?_)
  rw [en]
  refine ⟨iR_of (by omega) (by omega), fun c => ?_, fun c => re_i ⟨(bi_f ?_).symm, rfl⟩⟩
  · intros
    have hsp : spk m tl tn x3 (x2, x1) = allN (fun k => decide (tl (x3 + k) = tgt m x1 x2 k)) (tgN m x1).toNat 0 := by
      unfold spk
      rw [decide_eq_true c, Bool.true_and]
    rw [hsp]
    have h := up_loop (P := fun k => allN (fun k => decide (tl (x3 + k) = tgt m x1 x2 k)) (tgN m x1 - k).toNat k = allN (fun k => decide (tl (x3 + k) = tgt m x1 x2 k)) (tgN m x1).toNat 0 → aX11_isSpoken_19 g ad d (Ki fun r s => r = bi (allN (fun k => decide (tl (x3 + k) = tgt m x1 x2 k)) (tgN m x1).toNat 0 = true) ∧ s = σ) 0 0 σ x1 x2 x3 k) (hi := tgN m x1) 0 htn.1 ?_ ?_
    · exact h (by rw [Int.sub_zero])
    · intro hv
      refine bX11_isSpoken_19 i1 i2 i3 (iR_of (by omega) (by omega)) hS ?_
      refine EI.k (by apply (w_targetMany em) <;> (first | with_reducible assumption | with_reducible exact iR_of (by omega) (by omega) | omega | with_reducible (exact bi_01) | assumption)) (by omega) (fun _ _ => ?_)
      refine ⟨fun _ => re_i ⟨(bi_t ?_).symm, rfl⟩, fun q => absurd (Int.le_refl _) q⟩
      rw [← hv, Int.sub_self]
      rfl
    · intro k hk0 hk1 ih hv
      rw [show (tgN m x1 - k).toNat = (tgN m x1 - (k + 1)).toNat + 1 by omega, allN] at hv
      refine bX11_isSpoken_19 i1 i2 i3 (iR_of (by omega) (by omega)) hS ?_
      refine EI.k (by apply (w_targetMany em) <;> (first | with_reducible assumption | with_reducible exact iR_of (by omega) (by omega) | omega | with_reducible (exact bi_01) | assumption)) (by omega) (fun _ _ => ?_)
      refine ⟨fun q => absurd q (by omega), fun _ => ⟨⟨by omega, by omega⟩, ?_⟩⟩
      refine EI.k (by apply (w_targetOf em) <;> (first | with_reducible assumption | with_reducible exact iR_of (by omega) (by omega) | omega | with_reducible (exact bi_01) | assumption)) (by omega) (fun _ _ => ?_)
      rw [et]
      refine ⟨fun c2 => ⟨iR_of (by omega) (by omega), fun _ _ _ _ _ => ih ?_⟩, fun c2 => re_i ⟨(bi_f ?_).symm, rfl⟩⟩
      · rw [decide_eq_true c2, Bool.true_and] at hv
        exact hv
      · rw [← hv, decide_eq_false c2]
        simp
  · unfold spk
    rw [decide_eq_false c]
    simp
theorem weigh_c (hW : WF m) {place last s o : Int} (ho : isO m o) (hp : 0 ≤ place ∧ place ≤ 6) (hs : 0 ≤ s ∧ s < m 3) : 0 ≤ (weigh m place last s o).1 ∧ (weigh m place last s o).1 ≤ 516 := by
  have h3 := hW.1.2.2.2.1
  have ht := tgN_b hW.2.1 ho
  have hb := wbase_b hW.1 hW.2.1 (place := place) ho hp (s := s) ⟨hs.1, by omega⟩
  have h1 := wl_b hW.1 hW.2.2.1 o s (tgN m o).toNat 0 (wbase m place s o) last
  unfold weigh
  omega
def fcB (m tl : Int → Int) (tn : Int) (x : Nd) (p : Op) : Bool := mayB m x.1 x.2.1 p.1 p.2 && spk m tl tn x.2.2 p
def fcS (m : Int → Int) (x : Nd) (p : Op) : Nd := (bOr x.1 (msk m p.2 p.1), p.1 + cov m p.2, x.2.2 + tgN m p.2)
def fcG (m tl : Int → Int) (tn : Int) (f : Nd → Int) (x : Nd) : Int := if x.1 = fullM m then (if x.2.2 = tn then aft m (lastT tl x.2.2) (-1) else 1000000000) else (sr m 0).foldl (fun b p => if fcB m tl tn x p = true then min b ((weigh m x.2.1 (lastT tl x.2.2) p.1 p.2).1 + f (fcS m x p)) else b) 1000000000
def frM (m tl : Int → Int) (tn : Int) (x : Nd) : Int := fxM 0 (fcG m tl tn) mu x
def fd (tn : Int) (x : Nd) : Prop := (0 ≤ x.1 ∧ x.1 ≤ 63) ∧ (0 ≤ x.2.1 ∧ x.2.1 ≤ 6) ∧ (0 ≤ x.2.2 ∧ x.2.2 ≤ tn)
theorem fc_stp {tl : Int → Int} {tn : Int} (hW : WF m) {x : Nd} (hx : fd tn x) {p : Op} (hp : p ∈ sr m 0) (hm : fcB m tl tn x p = true) : fd tn (fcS m x p) ∧ mu (fcS m x p) < mu x ∧ mayB m x.1 x.2.1 p.1 p.2 = true ∧ spk m tl tn x.2.2 p = true := by
  obtain ⟨hp1, hp2⟩ := mem_sr.mp hp
  have hm' := Bool.and_eq_true_iff.mp hm
  have h := may_set hW hm'.1 hp2 hp1.1 hx.1
  have ht := tgN_b hW.2.1 hp2
  have hs : x.2.2 + tgN m p.2 ≤ tn := by
    have := (Bool.and_eq_true_iff.mp hm'.2).1
    exact of_decide_eq_true this
  have h6 := st_pc6 hx.1
  refine ⟨⟨h.1, h.2.2.2, by show 0 ≤ x.2.2 + tgN m p.2; have := hx.2.2.1; omega, hs⟩, ?_, hm'.1, hm'.2⟩
  show 6 - pc (bOr x.1 (msk m p.2 p.1)) < 6 - pc x.1
  omega
theorem frM_eq {tl : Int → Int} {tn : Int} (hW : WF m) {x : Nd} (hx : fd tn x) : frM m tl tn x = fcG m tl tn (frM m tl tn) x := by
  refine fxM_eq (D := fd tn) (fun x hx f f' h => ?_) hx
  unfold fcG
  by_cases c : x.1 = fullM m
  · rw [if_pos c, if_pos c]
  · rw [if_neg c, if_neg c]
    refine foldl_cong _ _ (fun b p hp => ?_)
    by_cases c2 : fcB m tl tn x p = true
    · have hs := fc_stp hW hx hp c2
      rw [if_pos c2, if_pos c2, h _ hs.1 hs.2.1]
    · rw [if_neg c2, if_neg c2]
theorem frM_b {tl : Int → Int} {tn : Int} (hW : WF m) : ∀ (n : Nat) (x : Nd), fd tn x → mu x < n → 0 ≤ frM m tl tn x ∧ frM m tl tn x ≤ 1000000000 := by
  intro n
  induction n with
  | zero => intro x _ h; omega
  | succ n ih =>
    intro x hx hn
    rw [frM_eq hW hx]
    unfold fcG
    by_cases c : x.1 = fullM m
    · rw [if_pos c]
      have := aft_b hW.1 hW.2.2.1 (lastT tl x.2.2) (-1)
      split <;> omega
    · rw [if_neg c]
      refine foldl_inv (I := fun b : Int => 0 ≤ b ∧ b ≤ 1000000000) _ _ (fun b p hp hb => ?_) (by omega)
      by_cases c2 : fcB m tl tn x p = true
      · have hs := fc_stp hW hx hp c2
        obtain ⟨hp1, hp2⟩ := mem_sr.mp hp
        have h1 := ih _ hs.1 (by omega)
        have h2 := weigh_c hW (last := lastT tl x.2.2) hp2 hx.2.1 hp1
        rw [if_pos c2]
        omega
      · rw [if_neg c2]; exact hb
def FV (m tl : Int → Int) (tn : Int) (f : Int → Int) : Prop := ∀ x, fd tn x → f ((x.1 * 7 + x.2.1) * 19 + x.2.2) = -1 ∨ f ((x.1 * 7 + x.2.1) * 19 + x.2.2) = frM m tl tn x
theorem e_forcedFrom {tl : Int → Int} {tn : Int} (hW : WF m) (htn : 0 ≤ tn ∧ tn ≤ 18) : ∀ (k : Nat) {d : Nat} {σ : SG} {x : Nd}, mu x < k → k + 4 ≤ d → fd tn x → ia σ 103 = m → ia σ 109 = tl → sc σ 102 14 = tn → SR σ → FV m tl tn (ia σ 127) →
    Eb g ad d mX11_forcedFrom 0 0 [.ref (ad 102), vi x.1, vi x.2.1, vi x.2.2] σ (Ki fun r s => r = frM m tl tn x ∧ FV m tl tn (ia s 127) ∧ Fm [127] [22, 23] σ s) := by
  intro k
  induction k with
  | zero => intro d σ x hk; omega
  | succ k ih =>
    intro d σ x hk hd hx em et en hS hV
    have hW0 := hW.1
    have h1 := hW.1.2.1
    have h3 := hW.1.2.2.2.1
    have hx1 := hx.1
    have hx2 := hx.2.1
    have hx3 := hx.2.2
    have i1 : iR x.1 := iR_of (by omega) (by omega)
    have i2 : iR x.2.1 := iR_of (by omega) (by omega)
    have i3 : iR x.2.2 := iR_of (by omega) (by omega)
    have im : iR (-1) := iR_lit rfl
    have hfb := frM_b (tl := tl) hW (k + 1) x hx hk
    have il : iR (lastT tl x.2.2) := by
      unfold lastT
      split
      · exact im
      · rw [← et]; exact SR_ia hS 109 _
    -- behind the head: by the last word
    have body : ∀ last, lastT tl x.2.2 = last → ¬ x.1 = fullM m → (0 ≤ (((x.1 * 7) + x.2.1) * 19) + x.2.2 ∧ (((x.1 * 7) + x.2.1) * 19) + x.2.2 < 8512) ∧ (((ia σ 127 ((((x.1 * 7) + x.2.1) * 19) + x.2.2)) = ((-1)) → iR ((((x.1 * 7) + x.2.1) * 19) + x.2.2) ∧ (iR x.1 → iR x.2.1 → iR x.2.2 → iR last → iR ((((x.1 * 7) + x.2.1) * 19) + x.2.2) → iR 1000000000 → iR 0 → SR σ → aX11_forcedFrom_88 g ad d (Ki fun r s => r = frM m tl tn x ∧ FV m tl tn (ia s 127) ∧ Fm [127] [22, 23] σ s) 0 0 σ x.1 x.2.1 x.2.2 last ((((x.1 * 7) + x.2.1) * 19) + x.2.2) 1000000000 0)) ∧ (¬ (ia σ 127 ((((x.1 * 7) + x.2.1) * 19) + x.2.2)) = ((-1)) → (iR (ia σ 127 ((((x.1 * 7) + x.2.1) * 19) + x.2.2)) → SR σ → Ki (fun r s => r = frM m tl tn x ∧ FV m tl tn (ia s 127) ∧ Fm [127] [22, 23] σ s) (.inl (some (vi (ia σ 127 ((((x.1 * 7) + x.2.1) * 19) + x.2.2))))) σ))) := by
      intro last hlast c1
      rw [hlast] at il
      refine ⟨⟨by omega, by omega⟩, fun c2 => ⟨iR_of (by omega) (by omega), ?_⟩, fun c2 => re_i ⟨?_, hV, Fm.refl σ⟩⟩
      · intro _ _ _ _ i5 _ _ _
        have hval : frM m tl tn x = (sr m 0).foldl (fun b p => if fcB m tl tn x p = true then min b ((weigh m x.2.1 (lastT tl x.2.2) p.1 p.2).1 + frM m tl tn (fcS m x p)) else b) 1000000000 := by
          rw [frM_eq hW hx]; unfold fcG; rw [if_neg c1]
        refine so_loop (m := m) hW0
          (A := fun s => ∀ τ b, SR τ → Fm [127] [22, 23] σ τ → FV m tl tn (ia τ 127) → (0 ≤ b ∧ b ≤ 1000000000) → frM m tl tn x = (sr m s).foldl (fun b p => if fcB m tl tn x p = true then min b ((weigh m x.2.1 (lastT tl x.2.2) p.1 p.2).1 + frM m tl tn (fcS m x p)) else b) b → aX11_forcedFrom_88 g ad d (Ki fun r s => r = frM m tl tn x ∧ FV m tl tn (ia s 127) ∧ Fm [127] [22, 23] σ s) 0 0 τ x.1 x.2.1 x.2.2 last ((((x.1 * 7) + x.2.1) * 19) + x.2.2) b s)
          (B := fun s o => ∀ τ b, SR τ → Fm [127] [22, 23] σ τ → FV m tl tn (ia τ 127) → (0 ≤ b ∧ b ≤ 1000000000) → frM m tl tn x = (so m s o).foldl (fun b p => if fcB m tl tn x p = true then min b ((weigh m x.2.1 (lastT tl x.2.2) p.1 p.2).1 + frM m tl tn (fcS m x p)) else b) b → aX11_forcedFrom_106 g ad d (Ki fun r s => r = frM m tl tn x ∧ FV m tl tn (ia s 127) ∧ Fm [127] [22, 23] σ s) 0 0 τ x.1 x.2.1 x.2.2 last ((((x.1 * 7) + x.2.1) * 19) + x.2.2) b s o)
          ?_ ?_ ?_ ?_ σ 1000000000 hS (Fm.refl σ) hV (by omega) hval
        · intro τ b hSt hF hVt hb hv
          have et' : ia τ 103 = m := (hF.a 103 rfl).trans em
          rw [sr_end (Int.le_refl _)] at hv
          have hv' : frM m tl tn x = b := hv
          have iM : iR 1000000000 := iR_lit rfl
          refine bX11_forcedFrom_88 i1 i2 i3 il i5 (iR_of (by omega) (by omega)) (iR_of (by omega) (by omega)) hSt ⟨fun _ => ?_, fun q => absurd (by rw [et']; omega) q⟩
          refine EI.k (by apply e_lesser <;> (first | with_reducible assumption | with_reducible exact iR_of (by omega) (by omega) | omega | with_reducible (exact bi_01) | assumption)) (by omega) (fun _ _ => ?_)
          rw [show min b 1000000000 = b by omega]
          refine ⟨⟨by omega, by omega⟩, ?_⟩
          simp (config := {decide := true}) only [sc_S, ia_S, la_S, rv_S, sc_I, rv_I, la_I, ia_I, sc_L, rv_L, ia_L, la_L, sc_A, rv_A, la_A, ia_A, sc_B, rv_B, ia_B, la_B, sc_R, ia_R, la_R, rv_R, ia_w, la_w, rv_w, sc_w, if_true, if_false]
          rw [up_at]
          refine re_i ⟨hv'.symm, ?_, hF.setI (by decide)⟩
          simp (config := {decide := true}) only [sc_S, ia_S, la_S, rv_S, sc_I, rv_I, la_I, ia_I, sc_L, rv_L, ia_L, la_L, sc_A, rv_A, la_A, ia_A, sc_B, rv_B, ia_B, la_B, sc_R, ia_R, la_R, rv_R, ia_w, la_w, rv_w, sc_w, if_true, if_false]
          intro y hy
          have hy1 := hy.1
          have hy2 := hy.2.1
          have hy3 := hy.2.2
          by_cases e : (y.1 * 7 + y.2.1) * 19 + y.2.2 = (x.1 * 7 + x.2.1) * 19 + x.2.2
          · have e1 : y.1 = x.1 := by omega
            have e2 : y.2.1 = x.2.1 := by omega
            have e3 : y.2.2 = x.2.2 := by omega
            have e4 : y = x := Prod.ext e1 (Prod.ext e2 e3)
            rw [e, up_at, e4]
            exact Or.inr hv'.symm
          · rw [up_ne e]
            exact hVt y hy
        · intro s hs0 hs1 hB τ b hSt hF hVt hb hv
          have et' : ia τ 103 = m := (hF.a 103 rfl).trans em
          refine bX11_forcedFrom_88 i1 i2 i3 il i5 (iR_of (by omega) (by omega)) (iR_of (by omega) (by omega)) hSt ⟨fun q => absurd q (by rw [et']; omega), fun _ => ?_⟩
          refine EI.k (by apply (w_next et') <;> (first | with_reducible assumption | with_reducible exact iR_of (by omega) (by omega) | omega | with_reducible (exact bi_01) | assumption)) (by omega) (fun _ _ => ?_)
          intros
          rw [sr_so hW0 hs1] at hv
          exact hB τ b hSt hF hVt hb hv
        · intro s hs0 hs1 hA τ b hSt hF hVt hb hv
          refine bX11_forcedFrom_106 i1 i2 i3 il i5 (iR_of (by omega) (by omega)) (iR_of (by omega) (by omega)) (iR_lit rfl) hSt ⟨fun _ => ⟨iR_of (by omega) (by omega), fun _ _ _ _ _ _ _ _ => ?_⟩, fun q => absurd (by decide) q⟩
          rw [so_100] at hv
          exact hA τ b hSt hF hVt hb hv
        · intro s o hs0 hs1 ho hnx τ b hSt hF hVt hb hv
          have et' : ia τ 103 = m := (hF.a 103 rfl).trans em
          have hob := isO_b hW0 ho
          have io : iR o := iR_of (by omega) (by omega)
          have is_ : iR s := iR_of (by omega) (by omega)
          have hmem : (s, o) ∈ sr m 0 := mem_sr.mpr ⟨⟨hs0, hs1⟩, ho⟩
          rw [so_cons hW0 ho, List.foldl_cons] at hv
          have nx : ∀ t b', SR t → Fm [127] [22, 23] σ t → FV m tl tn (ia t 127) → (0 ≤ b' ∧ b' ≤ 1000000000) → b' = (if fcB m tl tn x (s, o) = true then min b ((weigh m x.2.1 (lastT tl x.2.2) s o).1 + frM m tl tn (fcS m x (s, o))) else b) → aX11_forcedFrom_199 g ad d (Ki fun r s => r = frM m tl tn x ∧ FV m tl tn (ia s 127) ∧ Fm [127] [22, 23] σ s) 0 0 t x.1 x.2.1 x.2.2 last ((((x.1 * 7) + x.2.1) * 19) + x.2.2) b' s o := by
            intro t b' hSt' hFt' hVt' hb' hbe
            have ett : ia t 103 = m := (hFt'.a 103 rfl).trans em
            refine bX11_forcedFrom_199 i1 i2 i3 il i5 (iR_of (by omega) (by omega)) is_ io hSt' ?_
            refine EI.k (by apply (w_next ett) <;> (first | with_reducible assumption | with_reducible exact iR_of (by omega) (by omega) | omega | with_reducible (exact bi_01) | assumption)) (by omega) (fun _ _ => ?_)
            intros
            refine hnx t b' hSt' hFt' hVt' hb' ?_
            rw [hbe]
            exact hv
          refine bX11_forcedFrom_106 i1 i2 i3 il i5 (iR_of (by omega) (by omega)) is_ io hSt ⟨fun q => absurd q (by omega), fun _ => ?_⟩
          refine EI.k (by apply (w_may et') <;> (first | with_reducible assumption | with_reducible exact iR_of (by omega) (by omega) | omega | with_reducible (exact bi_01) | assumption)) (by omega) (fun _ _ => ?_)
          refine bi_zn (fun c4 => ?_) (fun c4 => ?_)
          · refine EI.k (e_isSpoken (d := d - 1) (tl := tl) (tn := tn) et' ((hF.a 109 rfl).trans et) ((hF.s 14 rfl).trans en) hW hSt ho ⟨hs0, by omega⟩ ⟨hx3.1, by omega⟩ htn.2 (by omega)) (by omega) (fun _ _ => bi_nz (fun c5 => ?_) (fun c5 => ?_))
            · have hfc : fcB m tl tn x (s, o) = true := by
                unfold fcB
                rw [c4, c5]
                rfl
              have hst := fc_stp hW hx hmem hfc
              have hwb := weigh_c hW (last := lastT tl x.2.2) ho hx2 ⟨hs0, hs1⟩
              have hfb2 := frM_b (tl := tl) hW k _ hst.1 (by omega)
              refine EV.k (by apply (w_weighs et') <;> (first | with_reducible assumption | with_reducible exact iR_of (by omega) (by omega) | omega | with_reducible (exact bi_01) | assumption)) (by omega) (fun _ => ?_)
              refine EI.k (by apply (w_maskOf (σ := wst τ _ _) et') <;> (first | with_reducible assumption | with_reducible exact iR_of (by omega) (by omega) | omega | with_reducible (exact bi_01) | assumption)) (by omega) (fun _ _ => ?_)
              refine EI.k (by apply (w_covers (σ := wst τ _ _) et') <;> (first | with_reducible assumption | with_reducible exact iR_of (by omega) (by omega) | omega | with_reducible (exact bi_01) | assumption)) (by omega) (fun _ _ => ?_)
              refine EI.k (by apply (w_targetMany (σ := wst τ _ _) et') <;> (first | with_reducible assumption | with_reducible exact iR_of (by omega) (by omega) | omega | with_reducible (exact bi_01) | assumption)) (by omega) (fun _ _ => ?_)
              refine Cl.i (ih (d := d - 1) (σ := wst τ _ _) (x := fcS m x (s, o)) (by omega) (by omega) hst.1 et' ((hF.a 109 rfl).trans et) ((wst_o (by omega)).trans ((hF.s 14 rfl).trans en)) (by assumption) (by simp (config := {decide := true}) only [sc_S, ia_S, la_S, rv_S, sc_I, rv_I, la_I, ia_I, sc_L, rv_L, ia_L, la_L, sc_A, rv_A, la_A, ia_A, sc_B, rv_B, ia_B, la_B, sc_R, ia_R, la_R, rv_R, ia_w, la_w, rv_w, sc_w, if_true, if_false]; exact hVt)) (by omega) (fun r6 s6 hr6 hS6 h6 => ?_)
              obtain ⟨e6, hV6, hF6⟩ := h6
              have hF6' : Fm [127] [22, 23] σ s6 := (hF.wst (by decide) (by decide)).trans hF6
              rw [wst_c]
              rw [hlast] at hwb
              refine EI.k (by apply e_lesser <;> (first | with_reducible assumption | with_reducible exact iR_of (by omega) (by omega) | omega | with_reducible (exact bi_01) | assumption)) (by omega) (fun _ _ => ?_)
              intros
              refine nx s6 _ hS6 hF6' hV6 (by omega) ?_
              rw [if_pos hfc, e6, hlast]
            · intros
              refine nx τ b hSt hF hVt hb ?_
              rw [if_neg]
              unfold fcB
              simp [c5]
          · intros
            refine nx τ b hSt hF hVt hb ?_
            rw [if_neg]
            unfold fcB
            simp [c4]
      · rcases hV x hx with e | e
        · exact absurd e c2
        · exact e
    have full : x.1 = fullM m → frM m tl tn x = if x.2.2 = tn then aft m (lastT tl x.2.2) (-1) else 1000000000 := by
      intro c1
      rw [frM_eq hW hx]; unfold fcG; rw [if_pos c1]
    refine EbS rfl pl_X11 rfl rfl (bX11_forcedFrom_0 i1 i2 i3 hS ⟨fun c0 => ⟨⟨by omega, by omega⟩, ?_⟩, fun c0 => ?_⟩)
    · have hl : lastT tl x.2.2 = ia σ 109 (x.2.2 - 1) := by unfold lastT; rw [if_neg c0, et]
      rw [hl] at il
      refine EI.k (by apply (w_full em) <;> (first | with_reducible assumption | with_reducible exact iR_of (by omega) (by omega) | omega | with_reducible (exact bi_01) | assumption)) (by omega) (fun _ _ => ?_)
      refine ⟨fun c1 => body _ hl c1, fun c1 => ⟨fun c2 => re_i ⟨?_, hV, Fm.refl σ⟩, fun c2 => ?_⟩⟩
      · rw [full c1, if_neg (by rw [en] at c2; exact c2)]
      · refine EI.k (by apply (w_after0 em) <;> (first | with_reducible assumption | with_reducible exact iR_of (by omega) (by omega) | omega | with_reducible (exact bi_01) | assumption)) (by omega) (fun _ _ => ?_)
        refine re_i ⟨?_, hV, Fm.refl σ⟩
        rw [full c1, if_pos (by rw [en] at c2; exact c2), hl]
    · have hl : lastT tl x.2.2 = -1 := by unfold lastT; rw [if_pos c0]
      refine EI.k (by apply (w_full em) <;> (first | with_reducible assumption | with_reducible exact iR_of (by omega) (by omega) | omega | with_reducible (exact bi_01) | assumption)) (by omega) (fun _ _ => ?_)
      refine ⟨fun c1 => body _ hl c1, fun c1 => ⟨fun c2 => re_i ⟨?_, hV, Fm.refl σ⟩, fun c2 => ?_⟩⟩
      · rw [full c1, if_neg (by rw [en] at c2; exact c2)]
      · refine EI.k (by apply (w_after0 em) <;> (first | with_reducible assumption | with_reducible exact iR_of (by omega) (by omega) | omega | with_reducible (exact bi_01) | assumption)) (by omega) (fun _ _ => ?_)
        refine re_i ⟨?_, hV, Fm.refl σ⟩
        rw [full c1, if_pos (by rw [en] at c2; exact c2), hl]
def forcedV (m tl : Int → Int) (tn : Int) : Int := if frM m tl tn (0, 0, 0) = 1000000000 then -1 else frM m tl tn (0, 0, 0)
end FRC
