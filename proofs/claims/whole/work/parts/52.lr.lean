section LRs
variable {g : AG} {ad : Nat → Nat} {d : Nat} {σ : SG} {m k tp t : Int → Int} {h tn f e : Int}
abbrev Lk : Type := Int × Int
/-- a link -/
def pLink (t : Int → Int) (e na nb : Int) (ls : List Lk) (p : Int) (m : Int → Int) : PR (List Lk) := if ls.length = 12 then .bad p else (pNum t e (na - 1) p m).bind fun a p1 m1 => (pNum t e (nb - 1) p1 m1).bind fun b p2 m2 => if (a, b) ∈ ls then .bad p else .ok (ls ++ [(a, b)]) p2 m2
def pLinks (t : Int → Int) (e na nb : Int) : Nat → List Lk → Int → (Int → Int) → PR (List Lk)
  | 0, _, p, _ => .bad p
  | n + 1, ls, p, m => (pLink t e na nb ls p m).bind fun ls' p1 m1 => if e ≤ p1 then .ok ls' p1 m1 else (pSign t e 59 p1 m1).bind fun _ p2 m2 => pLinks t e na nb n ls' p2 m2
abbrev Les : Type := List Int × List Int × List Lk
def lessP (t : Int → Int) (e p : Int) (m : Int → Int) : PR Les := (pWs t e true 6 p m).bind fun a p1 m1 => if a = [] then .bad p1 else (pSign t e 61 p1 m1).bind fun _ p2 m2 => (pWs t e true 6 p2 m2).bind fun b p3 m3 => if b = [] then .bad p3 else (pSign t e 47 p3 m3).bind fun _ p4 m4 => (pLinks t e a.length b.length 13 [] p4 m4).bind fun ls p5 m5 => .ok (a, b, ls) p5 m5
/-- links lie there -/
def LK (s : SG) (ls : List Lk) : Prop := sc s 102 18 = (ls.length : Int) ∧ ∀ (i : Nat) (x : Lk), ls[i]? = some x → ia s 110 i = x.1 ∧ ia s 111 i = x.2
theorem LK.snoc {ls : List Lk} {a b : Int} (hh : LK σ ls) : LK (setS (setI (setI σ 110 ls.length a) 111 ls.length b) 102 18 ((ls.length : Int) + 1)) (ls ++ [(a, b)]) := by
  refine ⟨by simp (config := {decide := true}) only [sc_S, ia_S, la_S, rv_S, sc_I, rv_I, la_I, ia_I, sc_L, rv_L, ia_L, la_L, sc_A, rv_A, la_A, ia_A, sc_B, rv_B, ia_B, la_B, sc_R, ia_R, la_R, rv_R, ia_w, la_w, rv_w, sc_w, if_true, if_false]; rw [List.length_append, List.length_singleton]; omega, fun i x hx => ?_⟩
  simp (config := {decide := true}) only [sc_S, ia_S, la_S, rv_S, sc_I, rv_I, la_I, ia_I, sc_L, rv_L, ia_L, la_L, sc_A, rv_A, la_A, ia_A, sc_B, rv_B, ia_B, la_B, sc_R, ia_R, la_R, rv_R, ia_w, la_w, rv_w, sc_w, if_true, if_false]
  by_cases c : i < ls.length
  · rw [List.getElem?_append_left c] at hx
    rw [up_ne (by omega), up_ne (by omega)]
    exact hh.2 i x hx
  · rw [List.getElem?_append_right (by omega)] at hx
    have hi1 : i - ls.length < 1 := (List.getElem?_eq_some_iff.mp hx).1
    have hi2 : i = ls.length := by omega
    subst hi2
    rw [Nat.sub_self] at hx
    have := Option.some.inj hx
    subst this
    rw [up_at, up_at]
    exact ⟨rfl, rfl⟩
theorem LK.fm {A K : List Nat} {s : SG} {ls : List Lk} (hh : LK σ ls) (hF : Fm A K σ s) (hA : decide (110 ∈ A ∨ 111 ∈ A) = false) (hK : decide (18 ∈ K) = false) : LK s ls := by
  have hA' := of_decide_eq_false hA
  have e1 : ia s 110 = ia σ 110 := hF.2.2.1 110 (fun q => hA' (Or.inl q))
  have e2 : ia s 111 = ia σ 111 := hF.2.2.1 111 (fun q => hA' (Or.inr q))
  exact ⟨by rw [hF.s 18 hK]; exact hh.1, fun i x hx => by rw [e1, e2]; exact hh.2 i x hx⟩
theorem e_link {p na nb : Int} {ls : List Lk} (hh : SP t e σ p m) (hL : LK σ ls) (h12 : ls.length ≤ 12) (h15 : sc σ 102 15 = na) (h14 : sc σ 102 14 = na + nb) (hna : 0 ≤ na ∧ na ≤ 6) (hnb : 0 ≤ nb ∧ nb ≤ 6) (hS : SR σ) (hd : 3 ≤ d) : Eb g ad d mX11_link 0 0 [.ref (ad 102)] σ (Kv fun s => SX t e s (pLink t e na nb ls p m) (fun l => LK s l ∧ l.length ≤ 12) ∧ Fm [110, 111] [8, 9, 18] σ s) := by
  have hb := hh.b
  have heb := hh.1.eb
  refine EbS rfl pl_X11 rfl rfl (bX11_link_0 hS ?_)
  refine EI.k (w_here (d := d - 1) hh hS) (by omega) (fun ip hS1 => ?_)
  have hSPa := hh.at
  have hFa : Fm [110, 111] [8, 9, 18] σ (setS σ 102 8 p) := (Fm.refl σ).setS (by decide)
  simp (config := {decide := true}) only [sc_S, ia_S, la_S, rv_S, sc_I, rv_I, la_I, ia_I, sc_L, rv_L, ia_L, la_L, sc_A, rv_A, la_A, ia_A, sc_B, rv_B, ia_B, la_B, sc_R, ia_R, la_R, rv_R, ia_w, la_w, rv_w, sc_w, if_true, if_false]
  rw [hL.1]
  -- behind a fault
  have stop : ∀ (s : SG) (x2 x3 x4 f : Int), SR s → iR x2 → iR x3 → iR x4 → PB t e s → sc s 102 9 = f → 0 ≤ f → pLink t e na nb ls p m = .bad f → Fm [110, 111] [8, 9, 18] σ s → (0 ≤ x4 ∧ x4 ≤ 12) → (0 ≤ sc s 102 18 ∧ sc s 102 18 ≤ 12) → aX11_link_49 g ad d (Kv fun s => SX t e s (pLink t e na nb ls p m) (fun l => LK s l ∧ l.length ≤ 12) ∧ Fm [110, 111] [8, 9, 18] σ s) 0 0 s p x2 x3 x4 := by
    intro s x2 x3 x4 f hSs i2 i3 i4 hP h9 hf hbad hF hx4 hx18
    have fin : Kv (fun s => SX t e s (pLink t e na nb ls p m) (fun l => LK s l ∧ l.length ≤ 12) ∧ Fm [110, 111] [8, 9, 18] σ s) (.inl none) s := by
      refine ⟨rfl, hSs, ?_, hF⟩
      rw [hbad]
      exact ⟨hP, h9, hf⟩
    exact bX11_link_49 ip i2 i3 i4 hSs ⟨fun _ => ⟨fun z => absurd z (by omega), fun _ _ => fin⟩, fun _ => ⟨fun _ => ⟨fun z => absurd z (by omega), fun _ _ => fin⟩, fun z => absurd z (by omega)⟩⟩
  refine ⟨fun c1 => ?_, fun c1 => ?_⟩
  · have hne : ¬ ls.length = 12 := by omega
    rw [h15]
    refine Cl.i (e_number (d := d - 1) hSPa hS1 (iR_of (by omega) (by omega)) (by omega)) (by omega) (fun r2 s2 hr2 hS2 h2 => ?_)
    obtain ⟨hX2, hF2⟩ := h2
    have hF2' : Fm [110, 111] [8, 9, 18] σ s2 := hFa.trans (hF2.mono (by decide) (by decide))
    have hL2 : LK s2 ls := (hL.fm (A := []) (K := [8]) ((Fm.refl σ).setS (by decide)) rfl rfl).fm hF2 rfl rfl
    have e14 : sc s2 102 14 = na + nb := by rw [hF2.s 14 rfl]; simp (config := {decide := true}) only [sc_S, ia_S, la_S, rv_S, sc_I, rv_I, la_I, ia_I, sc_L, rv_L, ia_L, la_L, sc_A, rv_A, la_A, ia_A, sc_B, rv_B, ia_B, la_B, sc_R, ia_R, la_R, rv_R, ia_w, la_w, rv_w, sc_w, if_true, if_false]; exact h14
    have e15 : sc s2 102 15 = na := by rw [hF2.s 15 rfl]; simp (config := {decide := true}) only [sc_S, ia_S, la_S, rv_S, sc_I, rv_I, la_I, ia_I, sc_L, rv_L, ia_L, la_L, sc_A, rv_A, la_A, ia_A, sc_B, rv_B, ia_B, la_B, sc_R, ia_R, la_R, rv_R, ia_w, la_w, rv_w, sc_w, if_true, if_false]; exact h15
    rw [e14, e15, show na + nb - na - 1 = nb - 1 by omega]
    cases hp1 : pNum t e (na - 1) p m with
    | error f =>
      rw [hp1] at hX2
      have h9 : sc s2 102 9 = f := hX2.2.1
      have hf : 0 ≤ f := hX2.2.2
      refine EI.k (e_number_bad (d := d - 1) (by omega) hS2 (iR_of (by omega) (by omega))) (by omega) (fun _ _ => ?_)
      intro _ _ _ _ _
      refine stop s2 r2 0 0 f hS2 hr2 (iR_lit rfl) (iR_lit rfl) hX2.1 h9 hf ?_ hF2' (by omega) (by rw [hL2.1]; omega)
      unfold pLink
      rw [if_neg hne, hp1]
      rfl
    | ok rr_ =>
      obtain ⟨a, p1, m1⟩ := rr_
      rw [hp1] at hX2
      obtain ⟨hP2, h92, h82, h32, h02, ha1, ha2, ha3⟩ := hX2
      have ha1' : r2 = a := ha1
      have hSP2 : SP t e s2 p1 m1 := ⟨hP2, h92, h82, h32, h02, trivial⟩
      refine Cl.i (e_number (d := d - 1) hSP2 hS2 (iR_of (by omega) (by omega)) (by omega)) (by omega) (fun r3 s3 hr3 hS3 h3 => ?_)
      obtain ⟨hX3, hF3⟩ := h3
      have hF3' : Fm [110, 111] [8, 9, 18] σ s3 := hF2'.trans (hF3.mono (by decide) (by decide))
      have hL3 : LK s3 ls := hL2.fm hF3 rfl rfl
      intro _ _ _ _ _
      cases hp2 : pNum t e (nb - 1) p1 m1 with
      | error f =>
        rw [hp2] at hX3
        refine stop s3 r2 r3 0 f hS3 hr2 hr3 (iR_lit rfl) hX3.1 hX3.2.1 hX3.2.2 ?_ hF3' (by omega) (by rw [hL3.1]; omega)
        unfold pLink
        rw [if_neg hne, hp1]
        show (pNum t e (nb - 1) p1 m1).bind _ = _
        rw [hp2]
        rfl
      | ok rr_ =>
        obtain ⟨b, p2, m2⟩ := rr_
        rw [hp2] at hX3
        obtain ⟨hP3, h93, h83, h33, h03, hb1, hb2, hb3⟩ := hX3
        have hb1' : r3 = b := hb1
        have hv : pLink t e na nb ls p m = if (a, b) ∈ ls then .bad p else .ok (ls ++ [(a, b)]) p2 m2 := by
          unfold pLink
          rw [if_neg hne, hp1]
          show (pNum t e (nb - 1) p1 m1).bind _ = _
          rw [hp2]
          rfl
        subst ha1'
        subst hb1'
        -- the links that are there
        refine up_loop (P := fun j => (∀ (i : Nat), (i : Int) < j → ∀ x, ls[i]? = some x → ¬ x = (r2, r3)) → aX11_link_49 g ad d (Kv fun s => SX t e s (pLink t e na nb ls p m) (fun l => LK s l ∧ l.length ≤ 12) ∧ Fm [110, 111] [8, 9, 18] σ s) 0 0 s3 p r2 r3 j) (hi := (ls.length : Int)) 0 (by omega) ?_ ?_ (fun i hi => by omega)
        · intro hall
          have hno : ¬ (r2, r3) ∈ ls := by
            intro hm
            obtain ⟨i, hi, hx⟩ := List.getElem_of_mem hm
            exact hall i (by omega) _ (List.getElem?_eq_getElem hi) hx
          rw [if_neg hno] at hv
          refine bX11_link_49 ip hr2 hr3 (iR_of (by omega) (by omega)) hS3 ⟨fun _ => ⟨fun _ => ?_, fun z => absurd h93 z⟩, fun z => absurd (by rw [hL3.1]; omega) z⟩
          simp (config := {decide := true}) only [sc_S, ia_S, la_S, rv_S, sc_I, rv_I, la_I, ia_I, sc_L, rv_L, ia_L, la_L, sc_A, rv_A, la_A, ia_A, sc_B, rv_B, ia_B, la_B, sc_R, ia_R, la_R, rv_R, ia_w, la_w, rv_w, sc_w, if_true, if_false]
          rw [hL3.1]
          refine ⟨⟨by omega, by omega⟩, ⟨by omega, by omega⟩, iR_of (by omega) (by omega), re_v ⟨?_, ((hF3'.setI (by decide)).setI (by decide)).setS (by decide)⟩⟩
          rw [hv]
          refine ⟨⟨?_, hP3.tb, ?_, hP3.eb, ?_, ?_, ?_⟩, ?_, ?_, ?_, h03, hL3.snoc, by rw [List.length_append, List.length_singleton]; omega⟩
          · simp (config := {decide := true}) only [sc_S, ia_S, la_S, rv_S, sc_I, rv_I, la_I, ia_I, sc_L, rv_L, ia_L, la_L, sc_A, rv_A, la_A, ia_A, sc_B, rv_B, ia_B, la_B, sc_R, ia_R, la_R, rv_R, ia_w, la_w, rv_w, sc_w, if_true, if_false]; exact hP3.tp
          · simp (config := {decide := true}) only [sc_S, ia_S, la_S, rv_S, sc_I, rv_I, la_I, ia_I, sc_L, rv_L, ia_L, la_L, sc_A, rv_A, la_A, ia_A, sc_B, rv_B, ia_B, la_B, sc_R, ia_R, la_R, rv_R, ia_w, la_w, rv_w, sc_w, if_true, if_false]; exact hP3.en
          · simp (config := {decide := true}) only [sc_S, ia_S, la_S, rv_S, sc_I, rv_I, la_I, ia_I, sc_L, rv_L, ia_L, la_L, sc_A, rv_A, la_A, ia_A, sc_B, rv_B, ia_B, la_B, sc_R, ia_R, la_R, rv_R, ia_w, la_w, rv_w, sc_w, if_true, if_false]; exact hP3.a0
          · simp (config := {decide := true}) only [sc_S, ia_S, la_S, rv_S, sc_I, rv_I, la_I, ia_I, sc_L, rv_L, ia_L, la_L, sc_A, rv_A, la_A, ia_A, sc_B, rv_B, ia_B, la_B, sc_R, ia_R, la_R, rv_R, ia_w, la_w, rv_w, sc_w, if_true, if_false]; exact hP3.a1
          · simp (config := {decide := true}) only [sc_S, ia_S, la_S, rv_S, sc_I, rv_I, la_I, ia_I, sc_L, rv_L, ia_L, la_L, sc_A, rv_A, la_A, ia_A, sc_B, rv_B, ia_B, la_B, sc_R, ia_R, la_R, rv_R, ia_w, la_w, rv_w, sc_w, if_true, if_false]; exact hP3.zr
          · simp (config := {decide := true}) only [sc_S, ia_S, la_S, rv_S, sc_I, rv_I, la_I, ia_I, sc_L, rv_L, ia_L, la_L, sc_A, rv_A, la_A, ia_A, sc_B, rv_B, ia_B, la_B, sc_R, ia_R, la_R, rv_R, ia_w, la_w, rv_w, sc_w, if_true, if_false]; exact h93
          · simp (config := {decide := true}) only [sc_S, ia_S, la_S, rv_S, sc_I, rv_I, la_I, ia_I, sc_L, rv_L, ia_L, la_L, sc_A, rv_A, la_A, ia_A, sc_B, rv_B, ia_B, la_B, sc_R, ia_R, la_R, rv_R, ia_w, la_w, rv_w, sc_w, if_true, if_false]; exact h83
          · simp (config := {decide := true}) only [sc_S, ia_S, la_S, rv_S, sc_I, rv_I, la_I, ia_I, sc_L, rv_L, ia_L, la_L, sc_A, rv_A, la_A, ia_A, sc_B, rv_B, ia_B, la_B, sc_R, ia_R, la_R, rv_R, ia_w, la_w, rv_w, sc_w, if_true, if_false]; exact h33
        · intro j hj0 hj1 ih hall
          have hjl : j.toNat < ls.length := by omega
          have hx := hL3.2 j.toNat _ (List.getElem?_eq_getElem hjl)
          rw [show ((j.toNat : Nat) : Int) = j by omega] at hx
          have next : ¬ ls[j.toNat] = (r2, r3) → aX11_link_49 g ad d (Kv fun s => SX t e s (pLink t e na nb ls p m) (fun l => LK s l ∧ l.length ≤ 12) ∧ Fm [110, 111] [8, 9, 18] σ s) 0 0 s3 p r2 r3 (j + 1) := by
            intro hne2
            refine ih (fun i hi x hx2 => ?_)
            by_cases ci : (i : Int) < j
            · exact hall i ci x hx2
            · have : i = j.toNat := by omega
              subst this
              rw [List.getElem?_eq_getElem hjl] at hx2
              rw [← Option.some.inj hx2]
              exact hne2
          have ij1 : iR (j + 1) := iR_of (by omega) (by omega)
          refine bX11_link_49 ip hr2 hr3 (iR_of (by omega) (by omega)) hS3 ⟨fun z => absurd z (by rw [hL3.1]; omega), fun _ => ⟨fun z => absurd h93 z, fun _ => ⟨⟨by omega, by omega⟩, fun c5 => ⟨ij1, fun _ _ _ _ _ => next (fun z => c5 (by rw [hx.1, z]))⟩, fun c5 => ⟨fun c6 => ⟨ij1, fun _ _ _ _ _ => next (fun z => c6 (by rw [hx.2, z]))⟩, fun c6 => ?_⟩⟩⟩⟩
          have hin : (r2, r3) ∈ ls := by
            have : ls[j.toNat] = (r2, r3) := Prod.ext (by rw [← hx.1]; exact c5) (by rw [← hx.2]; exact c6)
            rw [← this]
            exact List.getElem_mem hjl
          rw [if_pos hin] at hv
          refine EV.k (e_wrong (d := d - 1) ip hS3) (by omega) (fun hS5 => ⟨ij1, fun _ _ _ _ _ => ?_⟩)
          rw [if_pos h93] at hS5 ⊢
          have hSP3 : SP t e s3 p2 m2 := ⟨hP3, h93, h83, h33, h03, trivial⟩
          have hXb : SX t e (setS s3 102 9 p) (PR.bad p : PR Unit) (fun _ => True) := hSP3.bad hb.1
          exact stop _ r2 r3 (j + 1) p hS5 hr2 hr3 ij1 hXb.1 hXb.2.1 hb.1 hv (hF3'.setS (by decide)) (by omega) (by simp (config := {decide := true}) only [sc_S, ia_S, la_S, rv_S, sc_I, rv_I, la_I, ia_I, sc_L, rv_L, ia_L, la_L, sc_A, rv_A, la_A, ia_A, sc_B, rv_B, ia_B, la_B, sc_R, ia_R, la_R, rv_R, ia_w, la_w, rv_w, sc_w, if_true, if_false]; rw [hL3.1]; omega)
  · have he : ls.length = 12 := by omega
    have hv : pLink t e na nb ls p m = .bad p := by
      unfold pLink
      rw [if_pos he]
    refine EV.k (e_wrong (d := d - 1) ip hS1) (by omega) (fun hS5 => ?_)
    have h9' : sc (setS σ 102 8 p) 102 9 = -1 := hSPa.2.1
    rw [if_pos h9'] at hS5 ⊢
    have hXb : SX t e (setS (setS σ 102 8 p) 102 9 p) (PR.bad p : PR Unit) (fun _ => True) := hSPa.bad hb.1
    have hnb9 : ¬ sc (setS (setS σ 102 8 p) 102 9 p) 102 9 = -1 := by simp (config := {decide := true}) only [sc_S, ia_S, la_S, rv_S, sc_I, rv_I, la_I, ia_I, sc_L, rv_L, ia_L, la_L, sc_A, rv_A, la_A, ia_A, sc_B, rv_B, ia_B, la_B, sc_R, ia_R, la_R, rv_R, ia_w, la_w, rv_w, sc_w, if_true, if_false]; omega
    simp (config := {decide := true}) only [sc_S, ia_S, la_S, rv_S, sc_I, rv_I, la_I, ia_I, sc_L, rv_L, ia_L, la_L, sc_A, rv_A, la_A, ia_A, sc_B, rv_B, ia_B, la_B, sc_R, ia_R, la_R, rv_R, ia_w, la_w, rv_w, sc_w, if_true, if_false]
    rw [h15]
    refine EI.k (e_number_bad (d := d - 1) hnb9 hS5 (iR_of (by omega) (by omega))) (by omega) (fun _ _ => ?_)
    simp (config := {decide := true}) only [sc_S, ia_S, la_S, rv_S, sc_I, rv_I, la_I, ia_I, sc_L, rv_L, ia_L, la_L, sc_A, rv_A, la_A, ia_A, sc_B, rv_B, ia_B, la_B, sc_R, ia_R, la_R, rv_R, ia_w, la_w, rv_w, sc_w, if_true, if_false]
    rw [h14, h15]
    refine EI.k (e_number_bad (d := d - 1) hnb9 hS5 (iR_of (by omega) (by omega))) (by omega) (fun _ _ => ?_)
    intro _ _ _ _ _
    exact stop _ 0 0 0 p hS5 (iR_lit rfl) (iR_lit rfl) (iR_lit rfl) hXb.1 hXb.2.1 hb.1 hv ((hFa.setS (by decide))) (by omega) (by simp (config := {decide := true}) only [sc_S, ia_S, la_S, rv_S, sc_I, rv_I, la_I, ia_I, sc_L, rv_L, ia_L, la_L, sc_A, rv_A, la_A, ia_A, sc_B, rv_B, ia_B, la_B, sc_R, ia_R, la_R, rv_R, ia_w, la_w, rv_w, sc_w, if_true, if_false]; rw [hL.1]; omega)
end LRs
