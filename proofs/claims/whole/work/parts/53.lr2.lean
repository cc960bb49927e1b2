section LR2
variable {g : AG} {ad : Nat → Nat} {d : Nat} {σ : SG} {m k tp t : Int → Int} {h tn f e : Int}
/-- what a lesson leaves -/
def LSn (s : SG) (x : Les) : Prop := sc s 102 15 = (x.1.length : Int) ∧ sc s 102 14 = (x.1.length : Int) + x.2.1.length ∧ hl (ia s 109) 0 x.1 ∧ hl (ia s 109) x.1.length x.2.1 ∧ LK s x.2.2 ∧ (1 ≤ x.1.length ∧ x.1.length ≤ 6) ∧ (1 ≤ x.2.1.length ∧ x.2.1.length ≤ 6) ∧ x.2.2.length ≤ 12
theorem SP.setS_ {p : Int} (hh : SP t e σ p m) {j : Nat} {v : Int} (hj : decide (j ≠ 7 ∧ j ≠ 8 ∧ j ≠ 9) = true) : SP t e (setS σ 102 j v) p m := by
  have hj' := of_decide_eq_true hj
  have hs : ∀ i, (i = 7 ∨ i = 8 ∨ i = 9) → sc (setS σ 102 j v) 102 i = sc σ 102 i := fun i hi => by rw [sc_S, if_neg (by omega)]
  exact ⟨⟨hh.1.tp, hh.1.tb, by rw [hs 7 (by omega)]; exact hh.1.en, hh.1.eb, by rw [hs 8 (by omega)]; exact hh.1.a0, by rw [hs 8 (by omega)]; exact hh.1.a1, hh.1.zr⟩, by rw [hs 9 (by omega)]; exact hh.2.1, by rw [hs 8 (by omega)]; exact hh.2.2.1, hh.2.2.2.1, hh.2.2.2.2.1, trivial⟩
theorem SXbad_S {α β : Type} {V : α → Prop} {U : β → Prop} {f : Int} (hh : SX t e σ (PR.bad f : PR α) V) {j : Nat} {v : Int} (hj : decide (j ≠ 7 ∧ j ≠ 8 ∧ j ≠ 9) = true) : SX t e (setS σ 102 j v) (PR.bad f : PR β) U := by
  have hj' := of_decide_eq_true hj
  have hs : ∀ i, (i = 7 ∨ i = 8 ∨ i = 9) → sc (setS σ 102 j v) 102 i = sc σ 102 i := fun i hi => by rw [sc_S, if_neg (by omega)]
  exact ⟨⟨hh.1.tp, hh.1.tb, by rw [hs 7 (by omega)]; exact hh.1.en, hh.1.eb, by rw [hs 8 (by omega)]; exact hh.1.a0, by rw [hs 8 (by omega)]; exact hh.1.a1, hh.1.zr⟩, by rw [hs 9 (by omega)]; exact hh.2.1, hh.2.2⟩
/-- here behind a fault -/
theorem e_here_bad (hP : PB t e σ) (hS : SR σ) : Eb g ad d mX11_here 0 0 [.ref (ad 102)] σ (Ki fun r s => PB t e s ∧ (0 ≤ r ∧ r ≤ e) ∧ Fm [] [8] σ s ∧ sc s 102 9 = sc σ 102 9) := by
  have h1 := scn_le (b := blk t) hP.a1
  have h0 := hP.a0
  refine Eb.mono (e_here (g := g) (ad := ad) (d := d) (e - sc σ 102 8).toNat (Nat.le_refl _) hP hS) ?_
  rintro o s ⟨r, e1, hr, hs, rfl, rfl⟩
  refine ⟨_, e1, hr, hs, hP.at ?_ ?_, ⟨?_, ?_⟩, (Fm.refl σ).setS (by decide), by simp (config := {decide := true}) only [sc_S, ia_S, la_S, rv_S, sc_I, rv_I, la_I, ia_I, sc_L, rv_L, ia_L, la_L, sc_A, rv_A, la_A, ia_A, sc_B, rv_B, ia_B, la_B, sc_R, ia_R, la_R, rv_R, ia_w, la_w, rv_w, sc_w, if_true, if_false]⟩
  · exact Int.le_trans h0 h1.1
  · exact h1.2
  · exact Int.le_trans h0 h1.1
  · exact h1.2
theorem e_lesson {p : Int} (hh : SP t e σ p m) (h18 : sc σ 102 18 = 0) (hS : SR σ) (hd : 4 ≤ d) : Eb g ad d mX11_lesson 0 0 [.ref (ad 102)] σ (Kv fun s => SX t e s (lessP t e p m) (fun x => LSn s x) ∧ Fm [103, 109, 110, 111] [8, 9, 14, 15, 18] σ s) := by
  have heb := hh.1.eb
  refine EbS rfl pl_X11 rfl rfl (bX11_lesson_0 hS ?_)
  refine Cl.i (e_wordsInto (d := d - 1) (new := 1) (most := 6) (x2 := 0) aI109 (Or.inr rfl) hh (by omega) (by decide) (by omega) (Or.inr rfl) hS (by omega)) (by omega) (fun r1 s1 hr1 hS1 h1 => ?_)
  obtain ⟨hX1, hF1, -, hrb1⟩ := h1
  rw [show decide ((1 : Int) = 1) = true from rfl] at hX1
  have hF1' : Fm [103, 109, 110, 111] [8, 9, 14, 15, 18] σ (setS s1 102 15 r1) := (hF1.mono (by decide) (by decide)).setS (by decide)
  have hS1' : SR (setS s1 102 15 r1) := SR_setS hS1 hr1
  simp (config := {decide := true}) only [sc_S, ia_S, la_S, rv_S, sc_I, rv_I, la_I, ia_I, sc_L, rv_L, ia_L, la_L, sc_A, rv_A, la_A, ia_A, sc_B, rv_B, ia_B, la_B, sc_R, ia_R, la_R, rv_R, ia_w, la_w, rv_w, sc_w, if_true, if_false]
  -- a fault ahead of =
  have bad31 : ∀ (s : SG) (f : Int), SR s → SX t e s (PR.bad f : PR Unit) (fun _ => True) → lessP t e p m = .bad f → Fm [103, 109, 110, 111] [8, 9, 14, 15, 18] σ s → aX11_lesson_31 g ad d (Kv fun s => SX t e s (lessP t e p m) (fun x => LSn s x) ∧ Fm [103, 109, 110, 111] [8, 9, 14, 15, 18] σ s) 0 0 s := by
    intro s f hSs hX hv hF
    have h9 : sc s 102 9 = f := hX.2.1
    have hf : 0 ≤ f := hX.2.2
    refine bX11_lesson_31 hSs ?_
    refine EV.k (e_mustSign_bad (d := d - 1) (by omega) hSs (iR_lit rfl)) (by omega) (fun _ => ⟨fun z => absurd z (by omega), fun _ => re_v ⟨?_, hF⟩⟩)
    rw [hv]
    exact hX
  cases hp1 : pWs t e true 6 p m with
  | error f =>
    rw [hp1] at hX1
    have hv : lessP t e p m = .bad f := by unfold lessP; rw [hp1]; rfl
    have hXb : SX t e (setS s1 102 15 r1) (PR.bad f : PR Unit) (fun _ => True) := SXbad_S (α := List Int) hX1 rfl
    refine ⟨fun _ _ => bad31 _ f hS1' hXb hv hF1', fun _ => ?_⟩
    refine Cl.i (e_here_bad (d := d - 1) hXb.1 hS1') (by omega) (fun r2 s2 hr2 hS2 h2 => ?_)
    obtain ⟨hP2, hrb, hF2, h92⟩ := h2
    have h9f : sc s2 102 9 = f := by rw [h92]; exact hXb.2.1
    have hf0 : 0 ≤ f := hXb.2.2
    refine EV.k (e_wrong (d := d - 1) hr2 hS2) (by omega) (fun hS3 _ => ?_)
    rw [if_neg (by omega)] at hS3 ⊢
    exact bad31 s2 f hS3 ⟨hP2, h9f, hf0⟩ hv (hF1'.trans (hF2.mono (by decide) (by decide)))
  | ok rr_ =>
    obtain ⟨a, p1, m1⟩ := rr_
    rw [hp1] at hX1
    obtain ⟨hP1, h91, h81, h31, h01, ha1, ha2, ha3⟩ := hX1
    have ha1' : r1 = (a.length : Int) := ha1
    have hSP1 : SP t e (setS s1 102 15 r1) p1 m1 := SP.setS_ ⟨hP1, h91, h81, h31, h01, trivial⟩ rfl
    have hb1 := hSP1.b
    refine ⟨fun c1 _ => ?_, fun c1 => ?_⟩
    rotate_left
    · have hae : a = [] := List.length_eq_zero_iff.mp (by omega)
      have hv : lessP t e p m = .bad p1 := by
        unfold lessP
        rw [hp1]
        exact if_pos hae
      refine EI.k (w_here (d := d - 1) hSP1 hS1') (by omega) (fun hr2 hS2 => ?_)
      refine EV.k (e_wrong (d := d - 1) hr2 hS2) (by omega) (fun hS3 _ => ?_)
      have h9' : sc (setS (setS s1 102 15 r1) 102 8 p1) 102 9 = -1 := hSP1.at.2.1
      rw [if_pos h9'] at hS3 ⊢
      exact bad31 _ p1 hS3 (hSP1.at.bad hb1.1) hv ((hF1'.setS (by decide)).setS (by decide))
    have hane : ¬ a = [] := fun z => c1 (by rw [ha1', z]; rfl)
    have hv1 : lessP t e p m = (pSign t e 61 p1 m1).bind fun _ p2 m2 => (pWs t e true 6 p2 m2).bind fun b p3 m3 => if b = [] then .bad p3 else (pSign t e 47 p3 m3).bind fun _ p4 m4 => (pLinks t e a.length b.length 13 [] p4 m4).bind fun ls p5 m5 => .ok (a, b, ls) p5 m5 := by
      unfold lessP
      rw [hp1]
      exact if_neg hane
    refine bX11_lesson_31 hS1' ?_
    refine Cl.vo (e_mustSign (d := d - 1) hSP1 hS1' (iR_lit rfl) (by omega)) (by omega) (fun s2 hS2 h2 => ?_)
    obtain ⟨hX2, hF2⟩ := h2
    have hF2' : Fm [103, 109, 110, 111] [8, 9, 14, 15, 18] σ s2 := hF1'.trans (hF2.mono (by decide) (by decide))
    cases hp2 : pSign t e 61 p1 m1 with
    | error f =>
      rw [hp2] at hX2 hv1
      have h9 : sc s2 102 9 = f := hX2.2.1
      have hf : 0 ≤ f := hX2.2.2
      refine ⟨fun z => absurd z (by omega), fun _ => re_v ⟨?_, hF2'⟩⟩
      have hv' : lessP t e p m = .bad f := hv1
      rw [hv']
      exact ⟨hX2.1, h9, hf⟩
    | ok rr_ =>
      obtain ⟨u, p2, m2⟩ := rr_
      rw [hp2] at hX2 hv1
      have hSP2 : SP t e s2 p2 m2 := hX2
      have hv2 : lessP t e p m = (pWs t e true 6 p2 m2).bind fun b p3 m3 => if b = [] then .bad p3 else (pSign t e 47 p3 m3).bind fun _ p4 m4 => (pLinks t e a.length b.length 13 [] p4 m4).bind fun ls p5 m5 => .ok (a, b, ls) p5 m5 := hv1
      refine ⟨fun _ => ?_, fun z => absurd hSP2.2.1 z⟩
      have e15 : sc s2 102 15 = (a.length : Int) := by rw [hF2.s 15 rfl]; simp (config := {decide := true}) only [sc_S, ia_S, la_S, rv_S, sc_I, rv_I, la_I, ia_I, sc_L, rv_L, ia_L, la_L, sc_A, rv_A, la_A, ia_A, sc_B, rv_B, ia_B, la_B, sc_R, ia_R, la_R, rv_R, ia_w, la_w, rv_w, sc_w, if_true, if_false]; exact ha1'
      have e109 : ia s2 109 = ia s1 109 := hF2.a 109 rfl
      have hha : hl (ia s2 109) 0 a := by rw [e109]; exact ha2
      rw [e15]
      refine Cl.i (e_wordsInto (d := d - 1) (new := 1) (most := 6) (x2 := (a.length : Int)) aI109 (Or.inr rfl) hSP2 (by omega) (by decide) (by omega) (Or.inr rfl) hS2 (by omega)) (by omega) (fun r3 s3 hr3 hS3 h3 => ?_)
      obtain ⟨hX3, hF3, hSm3, hrb3⟩ := h3
      rw [show decide ((1 : Int) = 1) = true from rfl] at hX3
      have hF3' : Fm [103, 109, 110, 111] [8, 9, 14, 15, 18] σ s3 := hF2'.trans (hF3.mono (by decide) (by decide))
      have e153 : sc s3 102 15 = (a.length : Int) := by rw [hF3.s 15 rfl]; exact e15
      have hha3 : hl (ia s3 109) 0 a := hSm3.hl hha (by omega)
      -- the last part, with x2 = 0 or a fault
      have stop146 : ∀ (s : SG) (x1 x2 : Int), SR s → iR x1 → iR x2 → SX t e s (lessP t e p m) (fun x => LSn s x) → Fm [103, 109, 110, 111] [8, 9, 14, 15, 18] σ s → aX11_lesson_146 g ad d (Kv fun s => SX t e s (lessP t e p m) (fun x => LSn s x) ∧ Fm [103, 109, 110, 111] [8, 9, 14, 15, 18] σ s) 0 0 s x1 x2 := by
        intro s x1 x2 hSs i1 i2 hX hF
        exact bX11_lesson_146 i1 i2 hSs (re_v ⟨hX, hF⟩)
      have bad92 : ∀ (s : SG) (x1 x2 f : Int), SR s → iR x1 → iR x2 → SX t e s (PR.bad f : PR Unit) (fun _ => True) → lessP t e p m = .bad f → Fm [103, 109, 110, 111] [8, 9, 14, 15, 18] σ s → aX11_lesson_92 g ad d (Kv fun s => SX t e s (lessP t e p m) (fun x => LSn s x) ∧ Fm [103, 109, 110, 111] [8, 9, 14, 15, 18] σ s) 0 0 s x1 x2 := by
        intro s x1 x2 f hSs i1 i2 hX hv hF
        have h9 : sc s 102 9 = f := hX.2.1
        have hf : 0 ≤ f := hX.2.2
        have hXl : SX t e s (lessP t e p m) (fun x => LSn s x) := by rw [hv]; exact hX
        exact bX11_lesson_92 i1 i2 hSs ⟨fun _ _ _ _ => stop146 s x1 x2 hSs i1 i2 hXl hF, fun _ => ⟨fun _ _ _ _ => stop146 s x1 x2 hSs i1 i2 hXl hF, fun z => absurd z (by omega)⟩⟩
      have bad74 : ∀ (s : SG) (f : Int), SR s → SX t e s (PR.bad f : PR Unit) (fun _ => True) → lessP t e p m = .bad f → Fm [103, 109, 110, 111] [8, 9, 14, 15, 18] σ s → sc s 102 15 = (a.length : Int) → aX11_lesson_74 g ad d (Kv fun s => SX t e s (lessP t e p m) (fun x => LSn s x) ∧ Fm [103, 109, 110, 111] [8, 9, 14, 15, 18] σ s) 0 0 s r3 := by
        intro s f hSs hX hv hF e15s
        have h9 : sc s 102 9 = f := hX.2.1
        have hf : 0 ≤ f := hX.2.2
        refine bX11_lesson_74 hr3 hSs ?_
        rw [e15s]
        have hi : iR ((a.length : Int) + r3) := iR_of (by omega) (by omega)
        refine ⟨hi, ?_⟩
        have hXb := SXbad_S (β := Unit) (U := fun _ => True) (v := (a.length : Int) + r3) hX (j := 14) rfl
        refine EV.k (e_mustSign_bad (d := d - 1) (by simp (config := {decide := true}) only [sc_S, ia_S, la_S, rv_S, sc_I, rv_I, la_I, ia_I, sc_L, rv_L, ia_L, la_L, sc_A, rv_A, la_A, ia_A, sc_B, rv_B, ia_B, la_B, sc_R, ia_R, la_R, rv_R, ia_w, la_w, rv_w, sc_w, if_true, if_false]; omega) (SR_setS hSs hi) (iR_lit rfl)) (by omega) (fun hS5 _ _ _ => ?_)
        exact bad92 _ r3 1 f hS5 hr3 (iR_lit rfl) hXb hv (hF.setS (by decide))
      cases hp3 : pWs t e true 6 p2 m2 with
      | error f =>
        rw [hp3] at hX3 hv2
        have hv' : lessP t e p m = .bad f := hv2
        have hXb : SX t e s3 (PR.bad f : PR Unit) (fun _ => True) := hX3
        refine ⟨fun _ _ _ => bad74 s3 f hS3 hXb hv' hF3' e153, fun _ => ?_⟩
        refine Cl.i (e_here_bad (d := d - 1) hXb.1 hS3) (by omega) (fun r4 s4 hr4 hS4 h4 => ?_)
        obtain ⟨hP4, hrb4, hF4, h94⟩ := h4
        have h9f : sc s4 102 9 = f := by rw [h94]; exact hXb.2.1
        have hf0 : 0 ≤ f := hXb.2.2
        refine EV.k (e_wrong (d := d - 1) hr4 hS4) (by omega) (fun hS5 _ _ => ?_)
        rw [if_neg (by omega)] at hS5 ⊢
        exact bad74 s4 f hS5 ⟨hP4, h9f, hf0⟩ hv' (hF3'.trans (hF4.mono (by decide) (by decide))) (by rw [hF4.s 15 rfl]; exact e153)
      | ok rr_ =>
        obtain ⟨b, p3, m3⟩ := rr_
        rw [hp3] at hX3 hv2
        obtain ⟨hP3, h93, h83, h33, h03, hb1', hb2', hb3'⟩ := hX3
        have hb1'' : r3 = (b.length : Int) := hb1'
        have hSP3 : SP t e s3 p3 m3 := ⟨hP3, h93, h83, h33, h03, trivial⟩
        have hbb3 := hSP3.b
        have hv3 : lessP t e p m = if b = [] then .bad p3 else (pSign t e 47 p3 m3).bind fun _ p4 m4 => (pLinks t e a.length b.length 13 [] p4 m4).bind fun ls p5 m5 => .ok (a, b, ls) p5 m5 := hv2
        refine ⟨fun c3 _ _ => ?_, fun c3 => ?_⟩
        rotate_left
        · have hbe : b = [] := List.length_eq_zero_iff.mp (by omega)
          rw [if_pos hbe] at hv3
          refine EI.k (w_here (d := d - 1) hSP3 hS3) (by omega) (fun hr4 hS4 => ?_)
          refine EV.k (e_wrong (d := d - 1) hr4 hS4) (by omega) (fun hS5 _ _ => ?_)
          have h9' : sc (setS s3 102 8 p3) 102 9 = -1 := hSP3.at.2.1
          rw [if_pos h9'] at hS5 ⊢
          exact bad74 _ p3 hS5 (hSP3.at.bad hbb3.1) hv3 ((hF3'.setS (by decide)).setS (by decide)) (by simp (config := {decide := true}) only [sc_S, ia_S, la_S, rv_S, sc_I, rv_I, la_I, ia_I, sc_L, rv_L, ia_L, la_L, sc_A, rv_A, la_A, ia_A, sc_B, rv_B, ia_B, la_B, sc_R, ia_R, la_R, rv_R, ia_w, la_w, rv_w, sc_w, if_true, if_false]; exact e153)
        have hbne : ¬ b = [] := fun z => c3 (by rw [hb1'', z]; rfl)
        have hbl : 1 ≤ b.length := by
          rcases Nat.eq_zero_or_pos b.length with z | z
          · exact absurd (List.length_eq_zero_iff.mp z) hbne
          · exact z
        have hal : 1 ≤ a.length := by
          rcases Nat.eq_zero_or_pos a.length with z | z
          · exact absurd (List.length_eq_zero_iff.mp z) hane
          · exact z
        rw [if_neg hbne] at hv3
        refine bX11_lesson_74 hr3 hS3 ?_
        rw [e153]
        have hi : iR ((a.length : Int) + r3) := iR_of (by omega) (by omega)
        refine ⟨hi, ?_⟩
        have hSP3' : SP t e (setS s3 102 14 ((a.length : Int) + r3)) p3 m3 := hSP3.setS_ rfl
        have hS3' := SR_setS (i := 102) (k := 14) hS3 hi
        have hF3'' : Fm [103, 109, 110, 111] [8, 9, 14, 15, 18] σ (setS s3 102 14 ((a.length : Int) + r3)) := hF3'.setS (by decide)
        refine Cl.vo (e_mustSign (d := d - 1) hSP3' hS3' (iR_lit rfl) (by omega)) (by omega) (fun s4 hS4 h4 => ?_)
        obtain ⟨hX4, hF4⟩ := h4
        have hF4' : Fm [103, 109, 110, 111] [8, 9, 14, 15, 18] σ s4 := hF3''.trans (hF4.mono (by decide) (by decide))
        intro _ _ _
        cases hp4 : pSign t e 47 p3 m3 with
        | error f =>
          rw [hp4] at hX4 hv3
          have hv' : lessP t e p m = .bad f := hv3
          exact bad92 s4 r3 1 f hS4 hr3 (iR_lit rfl) hX4 hv' hF4'
        | ok rr_ =>
          obtain ⟨u', p4, m4⟩ := rr_
          rw [hp4] at hX4 hv3
          have hSP4 : SP t e s4 p4 m4 := hX4
          have hv4 : lessP t e p m = (pLinks t e a.length b.length 13 [] p4 m4).bind fun ls p5 m5 => .ok (a, b, ls) p5 m5 := hv3
          have e154 : sc s4 102 15 = (a.length : Int) := by rw [hF4.s 15 rfl]; simp (config := {decide := true}) only [sc_S, ia_S, la_S, rv_S, sc_I, rv_I, la_I, ia_I, sc_L, rv_L, ia_L, la_L, sc_A, rv_A, la_A, ia_A, sc_B, rv_B, ia_B, la_B, sc_R, ia_R, la_R, rv_R, ia_w, la_w, rv_w, sc_w, if_true, if_false]; exact e153
          have e144 : sc s4 102 14 = (a.length : Int) + b.length := by rw [hF4.s 14 rfl]; simp (config := {decide := true}) only [sc_S, ia_S, la_S, rv_S, sc_I, rv_I, la_I, ia_I, sc_L, rv_L, ia_L, la_L, sc_A, rv_A, la_A, ia_A, sc_B, rv_B, ia_B, la_B, sc_R, ia_R, la_R, rv_R, ia_w, la_w, rv_w, sc_w, if_true, if_false]; rw [hb1'']
          have hLK4 : LK s4 [] := ⟨by rw [hF4.s 18 rfl]; simp (config := {decide := true}) only [sc_S, ia_S, la_S, rv_S, sc_I, rv_I, la_I, ia_I, sc_L, rv_L, ia_L, la_L, sc_A, rv_A, la_A, ia_A, sc_B, rv_B, ia_B, la_B, sc_R, ia_R, la_R, rv_R, ia_w, la_w, rv_w, sc_w, if_true, if_false]; rw [hF3.s 18 rfl, hF2.s 18 rfl]; simp (config := {decide := true}) only [sc_S, ia_S, la_S, rv_S, sc_I, rv_I, la_I, ia_I, sc_L, rv_L, ia_L, la_L, sc_A, rv_A, la_A, ia_A, sc_B, rv_B, ia_B, la_B, sc_R, ia_R, la_R, rv_R, ia_w, la_w, rv_w, sc_w, if_true, if_false]; rw [hF1.s 18 rfl, h18]; rfl, fun i x hx => by cases hx⟩
          have hha4 : hl (ia s4 109) 0 a := by rw [hF4.a 109 rfl]; exact hha3
          have hhb4 : hl (ia s4 109) a.length b := by rw [hF4.a 109 rfl]; exact hb2'
          have key : ∀ (n : Nat) (τ : SG) (ls : List Lk) (p' : Int) (m' : Int → Int), ls.length + n = 13 → ls.length ≤ 12 → SR τ → SP t e τ p' m' → LK τ ls → sc τ 102 15 = (a.length : Int) → sc τ 102 14 = (a.length : Int) + b.length → hl (ia τ 109) 0 a → hl (ia τ 109) a.length b → Fm [103, 109, 110, 111] [8, 9, 14, 15, 18] σ τ → ((pLinks t e a.length b.length n ls p' m').bind fun ls p5 m5 => .ok (a, b, ls) p5 m5) = lessP t e p m → aX11_lesson_92 g ad d (Kv fun s => SX t e s (lessP t e p m) (fun x => LSn s x) ∧ Fm [103, 109, 110, 111] [8, 9, 14, 15, 18] σ s) 0 0 τ r3 1 := by
            intro n
            induction n with
            | zero => intro τ ls p' m' h1 h2; omega
            | succ n ih =>
              intro τ ls p' m' hln hl12 hSt hSP hLK t15 t14 ha' hb' hF hv
              refine bX11_lesson_92 hr3 (iR_lit rfl) hSt ⟨fun z => absurd z (by decide), fun _ => ⟨fun z => absurd hSP.2.1 z, fun _ => ?_⟩⟩
              refine Cl.vo (e_link (d := d - 1) (na := (a.length : Int)) (nb := (b.length : Int)) hSP hLK hl12 t15 t14 (by omega) (by omega) hSt (by omega)) (by omega) (fun s5 hS5 h5 => ?_)
              obtain ⟨hX5, hF5⟩ := h5
              have hF5' : Fm [103, 109, 110, 111] [8, 9, 14, 15, 18] σ s5 := hF.trans (hF5.mono (by decide) (by decide))
              rw [pLinks] at hv
              cases hp5 : pLink t e a.length b.length ls p' m' with
              | error f =>
                rw [hp5] at hX5 hv
                have h9 : sc s5 102 9 = f := hX5.2.1
                have hf : 0 ≤ f := hX5.2.2
                have hv' : lessP t e p m = .bad f := hv.symm
                refine ⟨fun _ _ _ _ => ?_, fun z => absurd z (by omega)⟩
                refine bX11_lesson_131 hr3 (iR_lit rfl) hS5 (fun _ _ _ => ?_)
                exact bad92 s5 r3 0 f hS5 hr3 (iR_lit rfl) hX5 hv' hF5'
              | ok rr_ =>
                obtain ⟨ls', p5, m5⟩ := rr_
                rw [hp5] at hX5 hv
                obtain ⟨hP5, h95, h85, h35, h05, hLK5, hl5⟩ := hX5
                have hSP5 : SP t e s5 p5 m5 := ⟨hP5, h95, h85, h35, h05, trivial⟩
                have hb5 := hSP5.b
                have hls' : ls'.length = ls.length + 1 := by
                  unfold pLink at hp5
                  split at hp5
                  · cases hp5
                  · cases hq1 : pNum t e ((a.length : Int) - 1) p' m' with
                    | error f => rw [hq1] at hp5; cases hp5
                    | ok rr_ =>
                      obtain ⟨w1, p6, m6⟩ := rr_
                      rw [hq1] at hp5
                      have hp6 : ((pNum t e ((b.length : Int) - 1) p6 m6).bind fun b p2 m2 => if (w1, b) ∈ ls then PR.bad p' else .ok (ls ++ [(w1, b)]) p2 m2) = PR.ok ls' p5 m5 := hp5
                      cases hq2 : pNum t e ((b.length : Int) - 1) p6 m6 with
                      | error f => rw [hq2] at hp6; cases hp6
                      | ok rr_ =>
                        obtain ⟨w2, p7, m7⟩ := rr_
                        rw [hq2] at hp6
                        have hp7 : (if (w1, w2) ∈ ls then PR.bad p' else PR.ok (ls ++ [(w1, w2)]) p7 m7) = PR.ok ls' p5 m5 := hp6
                        split at hp7
                        · cases hp7
                        · cases hp7
                          rw [List.length_append, List.length_singleton]
                have hv' : ((if e ≤ p5 then PR.ok ls' p5 m5 else (pSign t e 59 p5 m5).bind fun _ p2 m2 => pLinks t e a.length b.length n ls' p2 m2).bind fun ls p5 m5 => .ok (a, b, ls) p5 m5) = lessP t e p m := hv
                have t155 : sc s5 102 15 = (a.length : Int) := by rw [hF5.s 15 rfl]; exact t15
                have t145 : sc s5 102 14 = (a.length : Int) + b.length := by rw [hF5.s 14 rfl]; exact t14
                have ha5 : hl (ia s5 109) 0 a := by rw [hF5.a 109 rfl]; exact ha'
                have hb5' : hl (ia s5 109) a.length b := by rw [hF5.a 109 rfl]; exact hb'
                refine ⟨fun z => absurd h95 z, fun _ => ?_⟩
                refine EI.k (w_here (d := d - 1) hSP5 hS5) (by omega) (fun ip5 hS6 => ?_)
                have hSP6 := hSP5.at
                have hF6 : Fm [] [8] s5 (setS s5 102 8 p5) := (Fm.refl s5).setS (by decide)
                have hF6' : Fm [103, 109, 110, 111] [8, 9, 14, 15, 18] σ (setS s5 102 8 p5) := hF5'.trans (hF6.mono (by decide) (by decide))
                rw [hSP6.1.en]
                refine ⟨fun c6 _ _ _ => ?_, fun c6 => ?_⟩
                · rw [if_pos c6] at hv'
                  have hv'' : lessP t e p m = .ok (a, b, ls') p5 m5 := hv'.symm
                  refine bX11_lesson_131 hr3 (iR_lit rfl) hS6 (fun _ _ _ => ?_)
                  refine bX11_lesson_92 hr3 (iR_lit rfl) hS6 ⟨fun _ _ _ _ => stop146 _ r3 0 hS6 hr3 (iR_lit rfl) ?_ hF6', fun z => absurd rfl z⟩
                  rw [hv'']
                  exact ⟨hSP6.1, hSP6.2.1, hSP6.2.2.1, hSP6.2.2.2.1, hSP6.2.2.2.2.1, by show sc (setS s5 102 8 p5) 102 15 = _; simp (config := {decide := true}) only [sc_S, ia_S, la_S, rv_S, sc_I, rv_I, la_I, ia_I, sc_L, rv_L, ia_L, la_L, sc_A, rv_A, la_A, ia_A, sc_B, rv_B, ia_B, la_B, sc_R, ia_R, la_R, rv_R, ia_w, la_w, rv_w, sc_w, if_true, if_false]; exact t155, by show sc (setS s5 102 8 p5) 102 14 = _; simp (config := {decide := true}) only [sc_S, ia_S, la_S, rv_S, sc_I, rv_I, la_I, ia_I, sc_L, rv_L, ia_L, la_L, sc_A, rv_A, la_A, ia_A, sc_B, rv_B, ia_B, la_B, sc_R, ia_R, la_R, rv_R, ia_w, la_w, rv_w, sc_w, if_true, if_false]; exact t145, ha5, hb5', hLK5.fm hF6 rfl rfl, ⟨hal, by show a.length ≤ 6; omega⟩, ⟨hbl, by show b.length ≤ 6; omega⟩, hl5⟩
                · rw [if_neg c6] at hv'
                  refine Cl.vo (e_mustSign (d := d - 1) hSP6 hS6 (iR_lit rfl) (by omega)) (by omega) (fun s7 hS7 h7 => ?_)
                  obtain ⟨hX7, hF7⟩ := h7
                  have hF7' : Fm [103, 109, 110, 111] [8, 9, 14, 15, 18] σ s7 := hF6'.trans (hF7.mono (by decide) (by decide))
                  intro _ _ _
                  cases hp8 : pSign t e 59 p5 m5 with
                  | error f =>
                    rw [hp8] at hX7 hv'
                    have hv'' : lessP t e p m = .bad f := hv'.symm
                    exact bad92 s7 r3 1 f hS7 hr3 (iR_lit rfl) hX7 hv'' hF7'
                  | ok rr_ =>
                    obtain ⟨u8, p8, m8⟩ := rr_
                    rw [hp8] at hX7 hv'
                    have hSP7 : SP t e s7 p8 m8 := hX7
                    refine ih s7 ls' p8 m8 (by omega) hl5 hS7 hSP7 ((hLK5.fm hF6 rfl rfl).fm hF7 rfl rfl) (by rw [hF7.s 15 rfl]; simp (config := {decide := true}) only [sc_S, ia_S, la_S, rv_S, sc_I, rv_I, la_I, ia_I, sc_L, rv_L, ia_L, la_L, sc_A, rv_A, la_A, ia_A, sc_B, rv_B, ia_B, la_B, sc_R, ia_R, la_R, rv_R, ia_w, la_w, rv_w, sc_w, if_true, if_false]; exact t155) (by rw [hF7.s 14 rfl]; simp (config := {decide := true}) only [sc_S, ia_S, la_S, rv_S, sc_I, rv_I, la_I, ia_I, sc_L, rv_L, ia_L, la_L, sc_A, rv_A, la_A, ia_A, sc_B, rv_B, ia_B, la_B, sc_R, ia_R, la_R, rv_R, ia_w, la_w, rv_w, sc_w, if_true, if_false]; exact t145) (by rw [hF7.a 109 rfl]; exact ha5) (by rw [hF7.a 109 rfl]; exact hb5') hF7' hv'
          exact key 13 s4 [] p4 m4 rfl (Nat.zero_le _) hS4 hSP4 hLK4 e154 e144 hha4 hhb4 hF4' hv4.symm
end LR2
