section PAU
variable {g : AG} {ad : Nat → Nat} {d : Nat} {σ : SG} {m t : Int → Int} {e : Int}
abbrev RowP : Type := Int × Int × Int × Int
/-- a word, or the edge -/
def pEdge (t : Int → Int) (e c p : Int) (m : Int → Int) : PR Int := if p < e ∧ t p = c then .ok (-1) (skp t e (p + 1)) m else pWord t e true p m
def pPair (t : Int → Int) (e p : Int) (m : Int → Int) : PR RowP := (pEdge t e 94 p m).bind fun a p1 m1 => (pEdge t e 36 p1 m1).bind fun b p2 m2 => (pNum t e 99 p2 m2).bind fun c p3 m3 => .ok (p, a, b, c) p3 m3
def RowF (R B : Int → Int) (i : Int) (x : RowP) : Prop := B i = x.1 ∧ R (10 * i) = x.2.1 ∧ R (10 * i + 1) = x.2.2.1 ∧ R (10 * i + 2) = x.2.2.2 ∧ (0 ≤ x.2.2.2 ∧ x.2.2.2 ≤ 99) ∧ 0 ≤ x.1
theorem e_pair {p : Int} (h : SP t e σ p m) (hS : SR σ) (hr : 0 ≤ sc σ 102 12 ∧ sc σ 102 12 < 12) (hd : 4 ≤ d) : Eb g ad d mX11_pair 0 0 [.ref (ad 102)] σ (Kv fun s => SX t e s (pPair t e p m) (fun x => RowF (ia s 107) (ia s 108) (sc σ 102 12) x) ∧ Fm [103, 107, 108] [8, 9] σ s ∧ Sm (ia σ 107) (ia s 107) (10 * sc σ 102 12) (10 * sc σ 102 12 + 10) ∧ Sm (ia σ 108) (ia s 108) (sc σ 102 12) (sc σ 102 12 + 1)) := by
  have hb := h.b
  have heb := h.1.eb
  have im : iR (-1) := iR_lit rfl
  generalize hi : sc σ 102 12 = i at hr
  refine EbS rfl pl_X11 rfl rfl (bX11_pair_0 hS ?_)
  rw [hi]
  refine EI.k (w_here (d := d - 1) h hS) (by omega) (fun ip hS1 => ⟨hr, ?_⟩)
  have hSb : SR (setI (setS σ 102 8 p) 108 i p) := SR_setI hS1 ip
  have hSPb : SP t e (setI (setS σ 102 8 p) 108 i p) p m := SX.rows h.at 108 rfl
  have hFb : Fm [103, 107, 108] [8, 9] σ (setI (setS σ 102 8 p) 108 i p) := ((Fm.refl σ).setS (by decide)).setI (by decide)
  -- the number; behind both words
  have num : ∀ s (x : PR (Int × Int)), SR s → SX t e s x (fun w => ia s 107 (10 * i) = w.1 ∧ ia s 107 (10 * i + 1) = w.2) → (x.bind fun w p2 m2 => (pNum t e 99 p2 m2).bind fun c p3 m3 => .ok (p, w.1, w.2, c) p3 m3) = pPair t e p m → Fm [103, 107, 108] [8, 9] σ s → Sm (ia σ 107) (ia s 107) (10 * i) (10 * i + 10) → ia s 108 = up (ia σ 108) i p → Cl g ad d mX11_number 0 0 [.ref (ad 102), vi 99] s (Ki fun r6 s6 => (0 ≤ 10 * i + 2 ∧ 10 * i + 2 < 120) ∧ (SR (setI s6 107 (10 * i + 2) r6) → Kv (fun s => SX t e s (pPair t e p m) (fun x => RowF (ia s 107) (ia s 108) i x) ∧ Fm [103, 107, 108] [8, 9] σ s ∧ Sm (ia σ 107) (ia s 107) (10 * i) (10 * i + 10) ∧ Sm (ia σ 108) (ia s 108) i (i + 1)) (.inl none) (setI s6 107 (10 * i + 2) r6))) := by
    intro s x hSs hX hx hFs hSms h108
    cases x with
    | error f =>
      have hf0 : 0 ≤ f := hX.2.2
      have h9 : sc s 102 9 = f := hX.2.1
      refine EI.k (e_number_bad (d := d - 1) (by omega) hSs (iR_lit rfl)) (by omega) (fun _ _ => ⟨⟨by omega, by omega⟩, re_v ?_⟩)
      rw [← hx]
      have hX' : SX t e s (PR.bad f : PR RowP) (fun x => RowF (ia (setI s 107 (10 * i + 2) 0) 107) (ia (setI s 107 (10 * i + 2) 0) 108) i x) := hX
      refine ⟨hX'.rows 107 rfl, hFs.setI (by decide), ?_, ?_⟩
      · simp (config := {decide := true}) only [sc_S, ia_S, la_S, rv_S, sc_I, rv_I, la_I, ia_I, sc_L, rv_L, ia_L, la_L, sc_A, rv_A, la_A, ia_A, sc_B, rv_B, ia_B, la_B, sc_R, ia_R, la_R, rv_R, ia_w, la_w, rv_w, sc_w, if_true, if_false]; exact hSms.up (by omega)
      · simp (config := {decide := true}) only [sc_S, ia_S, la_S, rv_S, sc_I, rv_I, la_I, ia_I, sc_L, rv_L, ia_L, la_L, sc_A, rv_A, la_A, ia_A, sc_B, rv_B, ia_B, la_B, sc_R, ia_R, la_R, rv_R, ia_w, la_w, rv_w, sc_w, if_true, if_false]; rw [h108]; exact Sm.refl.up (by omega)
    | ok rr_ =>
      obtain ⟨w, p2, m2⟩ := rr_
      obtain ⟨hP, h9, h8, h3, h0, hw⟩ := hX
      have hSP : SP t e s p2 m2 := ⟨hP, h9, h8, h3, h0, trivial⟩
      refine Cl.i (e_number (d := d - 1) hSP hSs (iR_lit rfl) (by omega)) (by omega) (fun r6 s6 hr6 hS6 h6 => ⟨⟨by omega, by omega⟩, re_v ?_⟩)
      obtain ⟨hX6, hF6⟩ := h6
      have e67 : ia s6 107 = ia s 107 := hF6.a 107 rfl
      have e68 : ia s6 108 = up (ia σ 108) i p := by rw [hF6.a 108 rfl]; exact h108
      have hx' : ((pNum t e 99 p2 m2).bind fun c p3 m3 => .ok (p, w.1, w.2, c) p3 m3) = pPair t e p m := hx
      refine ⟨?_, (hFs.trans (hF6.mono (by decide) (by decide))).setI (by decide), ?_, ?_⟩
      · rw [← hx']
        cases hpn : pNum t e 99 p2 m2 with
        | error f =>
          rw [hpn] at hX6
          have hX' : SX t e s6 (PR.bad f : PR RowP) (fun x => RowF (ia (setI s6 107 (10 * i + 2) r6) 107) (ia (setI s6 107 (10 * i + 2) r6) 108) i x) := hX6
          exact hX'.rows 107 rfl
        | ok rr_ =>
          obtain ⟨c, p3, m3⟩ := rr_
          rw [hpn] at hX6
          obtain ⟨hP6, h96, h86, h36, h06, hv6, hc0, hc1⟩ := hX6
          have hX' : SX t e s6 (PR.ok (p, w.1, w.2, c) p3 m3) (fun x => RowF (ia (setI s6 107 (10 * i + 2) r6) 107) (ia (setI s6 107 (10 * i + 2) r6) 108) i x) := by
            refine ⟨hP6, h96, h86, h36, h06, ?_, ?_, ?_, ?_, ⟨hc0, hc1⟩, hb.1⟩
            · simp (config := {decide := true}) only [sc_S, ia_S, la_S, rv_S, sc_I, rv_I, la_I, ia_I, sc_L, rv_L, ia_L, la_L, sc_A, rv_A, la_A, ia_A, sc_B, rv_B, ia_B, la_B, sc_R, ia_R, la_R, rv_R, ia_w, la_w, rv_w, sc_w, if_true, if_false]; rw [e68, up_at]
            · simp (config := {decide := true}) only [sc_S, ia_S, la_S, rv_S, sc_I, rv_I, la_I, ia_I, sc_L, rv_L, ia_L, la_L, sc_A, rv_A, la_A, ia_A, sc_B, rv_B, ia_B, la_B, sc_R, ia_R, la_R, rv_R, ia_w, la_w, rv_w, sc_w, if_true, if_false]; rw [up_ne (by omega), e67]; exact hw.1
            · simp (config := {decide := true}) only [sc_S, ia_S, la_S, rv_S, sc_I, rv_I, la_I, ia_I, sc_L, rv_L, ia_L, la_L, sc_A, rv_A, la_A, ia_A, sc_B, rv_B, ia_B, la_B, sc_R, ia_R, la_R, rv_R, ia_w, la_w, rv_w, sc_w, if_true, if_false]; rw [up_ne (by omega), e67]; exact hw.2
            · simp (config := {decide := true}) only [sc_S, ia_S, la_S, rv_S, sc_I, rv_I, la_I, ia_I, sc_L, rv_L, ia_L, la_L, sc_A, rv_A, la_A, ia_A, sc_B, rv_B, ia_B, la_B, sc_R, ia_R, la_R, rv_R, ia_w, la_w, rv_w, sc_w, if_true, if_false]; rw [up_at]; exact hv6
          exact hX'.rows 107 rfl
      · simp (config := {decide := true}) only [sc_S, ia_S, la_S, rv_S, sc_I, rv_I, la_I, ia_I, sc_L, rv_L, ia_L, la_L, sc_A, rv_A, la_A, ia_A, sc_B, rv_B, ia_B, la_B, sc_R, ia_R, la_R, rv_R, ia_w, la_w, rv_w, sc_w, if_true, if_false]; rw [e67]; exact hSms.up (by omega)
      · simp (config := {decide := true}) only [sc_S, ia_S, la_S, rv_S, sc_I, rv_I, la_I, ia_I, sc_L, rv_L, ia_L, la_L, sc_A, rv_A, la_A, ia_A, sc_B, rv_B, ia_B, la_B, sc_R, ia_R, la_R, rv_R, ia_w, la_w, rv_w, sc_w, if_true, if_false]; rw [e68]; exact Sm.refl.up (by omega)
  -- the second word
  have sec0 : ∀ s (x : PR Int) (x2 : Int), SR s → iR x2 → SX t e s x (fun w => ia s 107 (10 * i) = w) → (∀ a p1 m1, x = .ok a p1 m1 → ¬ (p1 < e ∧ t p1 = 36)) → (x.bind fun a p1 m1 => (pEdge t e 36 p1 m1).bind fun b p2 m2 => (pNum t e 99 p2 m2).bind fun c p3 m3 => .ok (p, a, b, c) p3 m3) = pPair t e p m → Fm [103, 107, 108] [8, 9] σ s → Sm (ia σ 107) (ia s 107) (10 * i) (10 * i + 10) → ia s 108 = up (ia σ 108) i p → aX11_pair_98 g ad d (Kv fun s => SX t e s (pPair t e p m) (fun x => RowF (ia s 107) (ia s 108) i x) ∧ Fm [103, 107, 108] [8, 9] σ s ∧ Sm (ia σ 107) (ia s 107) (10 * i) (10 * i + 10) ∧ Sm (ia σ 108) (ia s 108) i (i + 1)) 0 0 s (10 * i) x2 0 := by
    intro s x x2 hSs ix2 hX hno hx hFs hSms h108
    refine bX11_pair_98 (iR_of (by omega) (by omega)) ix2 (iR_lit rfl) hSs ⟨fun _ => ?_, fun q => absurd rfl q⟩
    cases x with
    | error f =>
      have hf0 : 0 ≤ f := hX.2.2
      have h9 : sc s 102 9 = f := hX.2.1
      refine EI.k (e_word_bad (d := d - 1) (by omega) (Or.inr rfl) hSs) (by omega) (fun _ _ => ⟨⟨by omega, by omega⟩, ?_⟩)
      have hX' : SX t e s (PR.bad f : PR (Int × Int)) (fun w => ia (setI s 107 (10 * i + 1) 0) 107 (10 * i) = w.1 ∧ ia (setI s 107 (10 * i + 1) 0) 107 (10 * i + 1) = w.2) := hX
      refine num _ (PR.bad f) (SR_setI hSs (iR_lit rfl)) (hX'.rows 107 rfl) hx (hFs.setI (by decide)) ?_ ?_
      · simp (config := {decide := true}) only [sc_S, ia_S, la_S, rv_S, sc_I, rv_I, la_I, ia_I, sc_L, rv_L, ia_L, la_L, sc_A, rv_A, la_A, ia_A, sc_B, rv_B, ia_B, la_B, sc_R, ia_R, la_R, rv_R, ia_w, la_w, rv_w, sc_w, if_true, if_false]; exact hSms.up (by omega)
      · simp (config := {decide := true}) only [sc_S, ia_S, la_S, rv_S, sc_I, rv_I, la_I, ia_I, sc_L, rv_L, ia_L, la_L, sc_A, rv_A, la_A, ia_A, sc_B, rv_B, ia_B, la_B, sc_R, ia_R, la_R, rv_R, ia_w, la_w, rv_w, sc_w, if_true, if_false]; exact h108
    | ok rr_ =>
      obtain ⟨a, p1, m1⟩ := rr_
      obtain ⟨hP, h9, h8, h3, h0, hw⟩ := hX
      have hw' : ia s 107 (10 * i) = a := hw
      have hSP : SP t e s p1 m1 := ⟨hP, h9, h8, h3, h0, trivial⟩
      have hn36 := hno a p1 m1 rfl
      have hpe : pEdge t e 36 p1 m1 = pWord t e true p1 m1 := if_neg hn36
      refine Cl.i (e_word (d := d - 1) (new := 1) hSP (Or.inr rfl) hSs (by omega)) (by omega) (fun r1 s1 hr1 hS1' h1' => ⟨⟨by omega, by omega⟩, ?_⟩)
      obtain ⟨hX1, hF1⟩ := h1'
      rw [show decide ((1 : Int) = 1) = true from rfl] at hX1
      have e17 : ia s1 107 = ia s 107 := hF1.a 107 rfl
      have hx' : ((pWord t e true p1 m1).bind fun b p2 m2 => (pNum t e 99 p2 m2).bind fun c p3 m3 => .ok (p, a, b, c) p3 m3) = pPair t e p m := by
        rw [← hx]
        show _ = (pEdge t e 36 p1 m1).bind _
        rw [hpe]
      have hF2 : Fm [103, 107, 108] [8, 9] σ (setI s1 107 (10 * i + 1) r1) := (hFs.trans (hF1.mono (by decide) (by decide))).setI (by decide)
      have hSm2 : Sm (ia σ 107) (ia (setI s1 107 (10 * i + 1) r1) 107) (10 * i) (10 * i + 10) := by simp (config := {decide := true}) only [sc_S, ia_S, la_S, rv_S, sc_I, rv_I, la_I, ia_I, sc_L, rv_L, ia_L, la_L, sc_A, rv_A, la_A, ia_A, sc_B, rv_B, ia_B, la_B, sc_R, ia_R, la_R, rv_R, ia_w, la_w, rv_w, sc_w, if_true, if_false]; rw [e17]; exact hSms.up (by omega)
      have e28 : ia (setI s1 107 (10 * i + 1) r1) 108 = up (ia σ 108) i p := by simp (config := {decide := true}) only [sc_S, ia_S, la_S, rv_S, sc_I, rv_I, la_I, ia_I, sc_L, rv_L, ia_L, la_L, sc_A, rv_A, la_A, ia_A, sc_B, rv_B, ia_B, la_B, sc_R, ia_R, la_R, rv_R, ia_w, la_w, rv_w, sc_w, if_true, if_false]; rw [hF1.a 108 rfl]; exact h108
      cases hpw : pWord t e true p1 m1 with
      | error f =>
        rw [hpw] at hX1 hx'
        have hX' : SX t e s1 (PR.bad f : PR (Int × Int)) (fun w => ia (setI s1 107 (10 * i + 1) r1) 107 (10 * i) = w.1 ∧ ia (setI s1 107 (10 * i + 1) r1) 107 (10 * i + 1) = w.2) := hX1
        exact num _ (PR.bad f) (SR_setI hS1' hr1) (hX'.rows 107 rfl) hx' hF2 hSm2 e28
      | ok rr_ =>
        obtain ⟨b, p2, m2⟩ := rr_
        rw [hpw] at hX1 hx'
        obtain ⟨hP1, h91, h81, h31, h01, hw1⟩ := hX1
        have hw1' : r1 = b := hw1
        have hX' : SX t e s1 (PR.ok (a, b) p2 m2) (fun w => ia (setI s1 107 (10 * i + 1) r1) 107 (10 * i) = w.1 ∧ ia (setI s1 107 (10 * i + 1) r1) 107 (10 * i + 1) = w.2) := by
          refine ⟨hP1, h91, h81, h31, h01, ?_, ?_⟩
          · simp (config := {decide := true}) only [sc_S, ia_S, la_S, rv_S, sc_I, rv_I, la_I, ia_I, sc_L, rv_L, ia_L, la_L, sc_A, rv_A, la_A, ia_A, sc_B, rv_B, ia_B, la_B, sc_R, ia_R, la_R, rv_R, ia_w, la_w, rv_w, sc_w, if_true, if_false]; rw [up_ne (by omega), e17]; exact hw'
          · simp (config := {decide := true}) only [sc_S, ia_S, la_S, rv_S, sc_I, rv_I, la_I, ia_I, sc_L, rv_L, ia_L, la_L, sc_A, rv_A, la_A, ia_A, sc_B, rv_B, ia_B, la_B, sc_R, ia_R, la_R, rv_R, ia_w, la_w, rv_w, sc_w, if_true, if_false]; rw [up_at]; exact hw1'
        exact num _ (PR.ok (a, b) p2 m2) (SR_setI hS1' hr1) (hX'.rows 107 rfl) hx' hF2 hSm2 e28
  -- behind the first word, no fault yet
  have sec : ∀ s (x2 a p1 : Int) (m1 : Int → Int), SR s → iR x2 → SP t e s p1 m1 → ia s 107 (10 * i) = a → ((pEdge t e 36 p1 m1).bind fun b p2 m2 => (pNum t e 99 p2 m2).bind fun c p3 m3 => .ok (p, a, b, c) p3 m3) = pPair t e p m → Fm [103, 107, 108] [8, 9] σ s → Sm (ia σ 107) (ia s 107) (10 * i) (10 * i + 10) → ia s 108 = up (ia σ 108) i p → Cl g ad d mX11_isSign 0 0 [.ref (ad 102), vi 36] s (Ki fun r6 s6 => ((r6 = 0 → (iR (10 * i) → iR x2 → SR s6 → aX11_pair_82 g ad d (Kv fun s => SX t e s (pPair t e p m) (fun x => RowF (ia s 107) (ia s 108) i x) ∧ Fm [103, 107, 108] [8, 9] σ s ∧ Sm (ia σ 107) (ia s 107) (10 * i) (10 * i + 10) ∧ Sm (ia σ 108) (ia s 108) i (i + 1)) 0 0 s6 (10 * i) x2)) ∧ (¬ r6 = 0 → iR ((sc s6 102 8) + 1) ∧ (iR (10 * i) → iR x2 → iR 1 → SR (setS s6 102 8 ((sc s6 102 8) + 1)) → aX11_pair_98 g ad d (Kv fun s => SX t e s (pPair t e p m) (fun x => RowF (ia s 107) (ia s 108) i x) ∧ Fm [103, 107, 108] [8, 9] σ s ∧ Sm (ia σ 107) (ia s 107) (10 * i) (10 * i + 10) ∧ Sm (ia σ 108) (ia s 108) i (i + 1)) 0 0 (setS s6 102 8 ((sc s6 102 8) + 1)) (10 * i) x2 1)))) := by
    intro s x2 a p1 m1 hSs ix2 hSP ha hx hFs hSms h108
    have hb1 := hSP.b
    refine EI.k (e_isSign (d := d - 1) hSP hSs (iR_lit rfl) (by omega)) (by omega) (fun _ hS2 => bi_zn (fun c => ?_) (fun c => ?_))
    · simp (config := {decide := true}) only [sc_S, ia_S, la_S, rv_S, sc_I, rv_I, la_I, ia_I, sc_L, rv_L, ia_L, la_L, sc_A, rv_A, la_A, ia_A, sc_B, rv_B, ia_B, la_B, sc_R, ia_R, la_R, rv_R, ia_w, la_w, rv_w, sc_w, if_true, if_false]
      refine ⟨iR_of (by omega) (by omega), fun _ _ _ hS3 => ?_⟩
      have hpe : pEdge t e 36 p1 m1 = .ok (-1) (skp t e (p1 + 1)) m1 := if_pos c
      rw [hpe] at hx
      have hSPn := hSP.next c.1
      refine bX11_pair_98 (iR_of (by omega) (by omega)) ix2 (iR_lit rfl) hS3 ⟨fun q => absurd q (by decide), fun _ => ⟨⟨by omega, by omega⟩, ?_⟩⟩
      have hX' : SX t e (setS (setS s 102 8 p1) 102 8 (p1 + 1)) (PR.ok (a, -1) (skp t e (p1 + 1)) m1) (fun w => ia (setI (setS (setS s 102 8 p1) 102 8 (p1 + 1)) 107 (10 * i + 1) (-1)) 107 (10 * i) = w.1 ∧ ia (setI (setS (setS s 102 8 p1) 102 8 (p1 + 1)) 107 (10 * i + 1) (-1)) 107 (10 * i + 1) = w.2) := by
        refine ⟨hSPn.1, hSPn.2.1, hSPn.2.2.1, hSPn.2.2.2.1, hSPn.2.2.2.2.1, ?_, ?_⟩
        · simp (config := {decide := true}) only [sc_S, ia_S, la_S, rv_S, sc_I, rv_I, la_I, ia_I, sc_L, rv_L, ia_L, la_L, sc_A, rv_A, la_A, ia_A, sc_B, rv_B, ia_B, la_B, sc_R, ia_R, la_R, rv_R, ia_w, la_w, rv_w, sc_w, if_true, if_false]; rw [up_ne (by omega)]; exact ha
        · simp (config := {decide := true}) only [sc_S, ia_S, la_S, rv_S, sc_I, rv_I, la_I, ia_I, sc_L, rv_L, ia_L, la_L, sc_A, rv_A, la_A, ia_A, sc_B, rv_B, ia_B, la_B, sc_R, ia_R, la_R, rv_R, ia_w, la_w, rv_w, sc_w, if_true, if_false]; exact up_at
      refine num _ (PR.ok (a, -1) (skp t e (p1 + 1)) m1) (SR_setI hS3 im) (hX'.rows 107 rfl) hx (((hFs.setS (by decide)).setS (by decide)).setI (by decide)) ?_ ?_
      · simp (config := {decide := true}) only [sc_S, ia_S, la_S, rv_S, sc_I, rv_I, la_I, ia_I, sc_L, rv_L, ia_L, la_L, sc_A, rv_A, la_A, ia_A, sc_B, rv_B, ia_B, la_B, sc_R, ia_R, la_R, rv_R, ia_w, la_w, rv_w, sc_w, if_true, if_false]; exact hSms.up (by omega)
      · simp (config := {decide := true}) only [sc_S, ia_S, la_S, rv_S, sc_I, rv_I, la_I, ia_I, sc_L, rv_L, ia_L, la_L, sc_A, rv_A, la_A, ia_A, sc_B, rv_B, ia_B, la_B, sc_R, ia_R, la_R, rv_R, ia_w, la_w, rv_w, sc_w, if_true, if_false]; exact h108
    · intro _ _ _
      refine bX11_pair_82 (iR_of (by omega) (by omega)) ix2 hS2 ?_
      intros
      refine sec0 _ (PR.ok a p1 m1) x2 hS2 ix2 ?_ (fun a' p' m' q => ?_) hx (hFs.setS (by decide)) hSms h108
      · have ha' := hSP.at
        exact ⟨ha'.1, ha'.2.1, ha'.2.2.1, ha'.2.2.2.1, ha'.2.2.2.2.1, ha⟩
      · obtain ⟨q1, q2, q3⟩ := PR.inj q
        rw [← q2]
        exact c
  refine EI.k (e_isSign (d := d - 1) hSPb hSb (iR_lit rfl) (by omega)) (by omega) (fun _ hS2 => bi_zn (fun c => ?_) (fun c => ?_))
  · simp (config := {decide := true}) only [sc_S, ia_S, la_S, rv_S, sc_I, rv_I, la_I, ia_I, sc_L, rv_L, ia_L, la_L, sc_A, rv_A, la_A, ia_A, sc_B, rv_B, ia_B, la_B, sc_R, ia_R, la_R, rv_R, ia_w, la_w, rv_w, sc_w, if_true, if_false]
    refine ⟨iR_of (by omega) (by omega), iR_of (by omega) (by omega), fun _ _ hS3 => ?_⟩
    have hpe : pEdge t e 94 p m = .ok (-1) (skp t e (p + 1)) m := if_pos c
    have hSPn := hSPb.next c.1
    have b1 : bi (p < e ∧ t p = 94) = 1 := bi_t c
    rw [b1]
    refine bX11_pair_42 (iR_of (by omega) (by omega)) (iR_lit rfl) hS3 ⟨fun q => absurd q (by decide), fun _ => ⟨⟨by omega, by omega⟩, fun q => absurd hSPn.2.1 q, fun _ => ?_⟩⟩
    refine sec _ 1 (-1) (skp t e (p + 1)) m (SR_setI hS3 im) (iR_lit rfl) (SX.rows hSPn 107 rfl) (by simp (config := {decide := true}) only [sc_S, ia_S, la_S, rv_S, sc_I, rv_I, la_I, ia_I, sc_L, rv_L, ia_L, la_L, sc_A, rv_A, la_A, ia_A, sc_B, rv_B, ia_B, la_B, sc_R, ia_R, la_R, rv_R, ia_w, la_w, rv_w, sc_w, if_true, if_false]; exact up_at) ?_ (((hFb.setS (by decide)).setS (by decide)).setI (by decide)) ?_ ?_
    · unfold pPair
      rw [hpe]
      rfl
    · simp (config := {decide := true}) only [sc_S, ia_S, la_S, rv_S, sc_I, rv_I, la_I, ia_I, sc_L, rv_L, ia_L, la_L, sc_A, rv_A, la_A, ia_A, sc_B, rv_B, ia_B, la_B, sc_R, ia_R, la_R, rv_R, ia_w, la_w, rv_w, sc_w, if_true, if_false]; exact Sm.refl.up (by omega)
    · simp (config := {decide := true}) only [sc_S, ia_S, la_S, rv_S, sc_I, rv_I, la_I, ia_I, sc_L, rv_L, ia_L, la_L, sc_A, rv_A, la_A, ia_A, sc_B, rv_B, ia_B, la_B, sc_R, ia_R, la_R, rv_R, ia_w, la_w, rv_w, sc_w, if_true, if_false]
  · refine ⟨iR_of (by omega) (by omega), fun _ _ _ => ?_⟩
    have hpe : pEdge t e 94 p m = pWord t e true p m := if_neg c
    have b0 : bi (p < e ∧ t p = 94) = 0 := bi_f c
    rw [b0]
    have hSPa : SP t e (setS (setI (setS σ 102 8 p) 108 i p) 102 8 p) p m := hSPb.at
    refine bX11_pair_42 (iR_of (by omega) (by omega)) (iR_lit rfl) hS2 ⟨fun _ => ?_, fun q => absurd rfl q⟩
    refine Cl.i (e_word (d := d - 1) (new := 1) hSPa (Or.inr rfl) hS2 (by omega)) (by omega) (fun r1 s1 hr1 hS1' h1' => ⟨⟨by omega, by omega⟩, ?_⟩)
    obtain ⟨hX1, hF1⟩ := h1'
    rw [show decide ((1 : Int) = 1) = true from rfl] at hX1
    have e17 : ia s1 107 = ia σ 107 := by rw [hF1.a 107 rfl]; simp (config := {decide := true}) only [sc_S, ia_S, la_S, rv_S, sc_I, rv_I, la_I, ia_I, sc_L, rv_L, ia_L, la_L, sc_A, rv_A, la_A, ia_A, sc_B, rv_B, ia_B, la_B, sc_R, ia_R, la_R, rv_R, ia_w, la_w, rv_w, sc_w, if_true, if_false]
    have hF2 : Fm [103, 107, 108] [8, 9] σ (setI s1 107 (10 * i) r1) := ((hFb.setS (by decide)).trans (hF1.mono (by decide) (by decide))).setI (by decide)
    have hSm2 : Sm (ia σ 107) (ia (setI s1 107 (10 * i) r1) 107) (10 * i) (10 * i + 10) := by simp (config := {decide := true}) only [sc_S, ia_S, la_S, rv_S, sc_I, rv_I, la_I, ia_I, sc_L, rv_L, ia_L, la_L, sc_A, rv_A, la_A, ia_A, sc_B, rv_B, ia_B, la_B, sc_R, ia_R, la_R, rv_R, ia_w, la_w, rv_w, sc_w, if_true, if_false]; rw [e17]; exact Sm.refl.up (by omega)
    have e28 : ia (setI s1 107 (10 * i) r1) 108 = up (ia σ 108) i p := by simp (config := {decide := true}) only [sc_S, ia_S, la_S, rv_S, sc_I, rv_I, la_I, ia_I, sc_L, rv_L, ia_L, la_L, sc_A, rv_A, la_A, ia_A, sc_B, rv_B, ia_B, la_B, sc_R, ia_R, la_R, rv_R, ia_w, la_w, rv_w, sc_w, if_true, if_false]; rw [hF1.a 108 rfl]; simp (config := {decide := true}) only [sc_S, ia_S, la_S, rv_S, sc_I, rv_I, la_I, ia_I, sc_L, rv_L, ia_L, la_L, sc_A, rv_A, la_A, ia_A, sc_B, rv_B, ia_B, la_B, sc_R, ia_R, la_R, rv_R, ia_w, la_w, rv_w, sc_w, if_true, if_false]
    have hpp : pPair t e p m = (pWord t e true p m).bind fun a p1 m1 => (pEdge t e 36 p1 m1).bind fun b p2 m2 => (pNum t e 99 p2 m2).bind fun c p3 m3 => .ok (p, a, b, c) p3 m3 := by unfold pPair; rw [hpe]
    cases hpw : pWord t e true p m with
    | error f =>
      rw [hpw] at hX1 hpp
      have hf0 : 0 ≤ f := hX1.2.2
      have h9 : sc s1 102 9 = f := hX1.2.1
      refine ⟨fun _ _ _ hS3 => ?_, fun q => absurd q (by simp (config := {decide := true}) only [sc_S, ia_S, la_S, rv_S, sc_I, rv_I, la_I, ia_I, sc_L, rv_L, ia_L, la_L, sc_A, rv_A, la_A, ia_A, sc_B, rv_B, ia_B, la_B, sc_R, ia_R, la_R, rv_R, ia_w, la_w, rv_w, sc_w, if_true, if_false]; omega)⟩
      refine bX11_pair_82 (iR_of (by omega) (by omega)) (iR_lit rfl) hS3 ?_
      intros
      have hX' : SX t e s1 (PR.bad f : PR Int) (fun w => ia (setI s1 107 (10 * i) r1) 107 (10 * i) = w) := hX1
      exact sec0 _ (PR.bad f) 0 hS3 (iR_lit rfl) (hX'.rows 107 rfl) (fun a' p' m' q => by cases q) hpp.symm hF2 hSm2 e28
    | ok rr_ =>
      obtain ⟨a, p1, m1⟩ := rr_
      rw [hpw] at hX1 hpp
      obtain ⟨hP1, h91, h81, h31, h01, hw1⟩ := hX1
      have hSP1 : SP t e s1 p1 m1 := ⟨hP1, h91, h81, h31, h01, trivial⟩
      have hw1' : r1 = a := hw1
      refine ⟨fun q => absurd h91 q, fun _ => ?_⟩
      exact sec _ 0 a p1 m1 (SR_setI hS1' hr1) (iR_lit rfl) (SX.rows hSP1 107 rfl) (by simp (config := {decide := true}) only [sc_S, ia_S, la_S, rv_S, sc_I, rv_I, la_I, ia_I, sc_L, rv_L, ia_L, la_L, sc_A, rv_A, la_A, ia_A, sc_B, rv_B, ia_B, la_B, sc_R, ia_R, la_R, rv_R, ia_w, la_w, rv_w, sc_w, if_true, if_false]; rw [up_at]; exact hw1') hpp.symm hF2 hSm2 e28
/-! all entries -/
def pRd {ρ : Type} (t : Int → Int) (e : Int) (pE : Int → (Int → Int) → PR ρ) : Nat → List ρ → Int → (Int → Int) → PR (List ρ)
  | 0, _, p, _ => .bad p
  | n + 1, l, p, m => if l.length = 12 then .bad p else (pE p m).bind fun x p1 m1 => if e ≤ p1 then .ok (l ++ [x]) p1 m1 else (pSign t e 59 p1 m1).bind fun _ p2 m2 => pRd t e pE n (l ++ [x]) p2 m2
def pRds {ρ : Type} (t : Int → Int) (e : Int) (pE : Int → (Int → Int) → PR ρ) (p : Int) (m : Int → Int) : PR (List ρ) := if p < e then pRd t e pE 13 [] p m else .ok [] p m
def Rows {ρ : Type} (RR : (Int → Int) → (Int → Int) → Int → ρ → Prop) (R B : Int → Int) (l : List ρ) : Prop := ∀ (i : Nat) (x : ρ), l[i]? = some x → RR R B i x
theorem e_reads {ρ : Type} (pE : Int → (Int → Int) → PR ρ) (RR : (Int → Int) → (Int → Int) → Int → ρ → Prop) {x1 p : Int}
    (hRR : ∀ R B R' B' i j x, RR R B i x → Sm R R' (10 * j) (10 * j + 10) → Sm B B' j (j + 1) → 0 ≤ i → ¬ i = j → RR R' B' i x)
    (hcall : ∀ τ p m, SP t e τ p m → SR τ → (0 ≤ sc τ 102 12 ∧ sc τ 102 12 < 12) → ∀ K : SG → Prop, (∀ s, SR s → SX t e s (pE p m) (fun x => RR (ia s 107) (ia s 108) (sc τ 102 12) x) → Fm [103, 107, 108] [8, 9] τ s → Sm (ia τ 107) (ia s 107) (10 * sc τ 102 12) (10 * sc τ 102 12 + 10) → Sm (ia τ 108) (ia s 108) (sc τ 102 12) (sc τ 102 12 + 1) → K s) → (x1 = 0 → Cl g ad d mX11_pair 0 0 [.ref (ad 102)] τ (Kv K)) ∧ (¬ x1 = 0 → Cl g ad d mX11_entry 0 0 [.ref (ad 102)] τ (Kv K)))
    (h : SP t e σ p m) (hS : SR σ) (h1 : iR x1) (h12 : sc σ 102 12 = 0) (hd : 5 ≤ d) :
    Eb g ad d mX11_reads 0 0 [.ref (ad 102), vi x1] σ (Kv fun s => SX t e s (pRds t e pE p m) (fun l => sc s 102 12 = (l.length : Int) ∧ (l.length : Int) ≤ 12 ∧ Rows RR (ia s 107) (ia s 108) l) ∧ Fm [103, 107, 108] [8, 9, 12] σ s ∧ (0 ≤ sc s 102 12 ∧ sc s 102 12 ≤ 13)) := by
  have hb := h.b
  refine EbS rfl pl_X11 rfl rfl (bX11_reads_0 h1 hS ?_)
  refine EI.k (w_here (d := d - 1) h hS) (by omega) (fun ip hS1 => ?_)
  have hSPa := h.at
  rw [hSPa.1.en]
  -- the end of the loop
  have stop : ∀ s x2, SR s → iR x2 → SX t e s (pRds t e pE p m) (fun l => sc s 102 12 = (l.length : Int) ∧ (l.length : Int) ≤ 12 ∧ Rows RR (ia s 107) (ia s 108) l) → Fm [103, 107, 108] [8, 9, 12] σ s → (0 ≤ sc s 102 12 ∧ sc s 102 12 ≤ 13) → aX11_reads_107 g ad d (Kv fun s => SX t e s (pRds t e pE p m) (fun l => sc s 102 12 = (l.length : Int) ∧ (l.length : Int) ≤ 12 ∧ Rows RR (ia s 107) (ia s 108) l) ∧ Fm [103, 107, 108] [8, 9, 12] σ s ∧ (0 ≤ sc s 102 12 ∧ sc s 102 12 ≤ 13)) 0 0 s x1 x2 := by
    intro s x2 hSs i2 hX hF hn
    exact bX11_reads_107 h1 i2 hSs (re_v ⟨hX, hF, hn⟩)
  have stop0 : ∀ s x2, SR s → iR x2 → x2 = 0 → SX t e s (pRds t e pE p m) (fun l => sc s 102 12 = (l.length : Int) ∧ (l.length : Int) ≤ 12 ∧ Rows RR (ia s 107) (ia s 108) l) → Fm [103, 107, 108] [8, 9, 12] σ s → (0 ≤ sc s 102 12 ∧ sc s 102 12 ≤ 13) → aX11_reads_17 g ad d (Kv fun s => SX t e s (pRds t e pE p m) (fun l => sc s 102 12 = (l.length : Int) ∧ (l.length : Int) ≤ 12 ∧ Rows RR (ia s 107) (ia s 108) l) ∧ Fm [103, 107, 108] [8, 9, 12] σ s ∧ (0 ≤ sc s 102 12 ∧ sc s 102 12 ≤ 13)) 0 0 s x1 x2 := by
    intro s x2 hSs i2 h0 hX hF hn
    exact bX11_reads_17 h1 i2 hSs ⟨fun _ _ _ _ => stop s x2 hSs i2 hX hF hn, fun q => absurd h0 q⟩
  have stopB : ∀ s x2 f, SR s → iR x2 → sc s 102 9 = f → 0 ≤ f → PB t e s → pRds t e pE p m = .bad f → Fm [103, 107, 108] [8, 9, 12] σ s → (0 ≤ sc s 102 12 ∧ sc s 102 12 ≤ 12) → aX11_reads_64 g ad d (Kv fun s => SX t e s (pRds t e pE p m) (fun l => sc s 102 12 = (l.length : Int) ∧ (l.length : Int) ≤ 12 ∧ Rows RR (ia s 107) (ia s 108) l) ∧ Fm [103, 107, 108] [8, 9, 12] σ s ∧ (0 ≤ sc s 102 12 ∧ sc s 102 12 ≤ 13)) 0 0 s x1 x2 := by
    intro s x2 f hSs i2 h9 hf hP hbad hF hn
    refine bX11_reads_64 h1 i2 hSs ?_
    simp (config := {decide := true}) only [sc_S, ia_S, la_S, rv_S, sc_I, rv_I, la_I, ia_I, sc_L, rv_L, ia_L, la_L, sc_A, rv_A, la_A, ia_A, sc_B, rv_B, ia_B, la_B, sc_R, ia_R, la_R, rv_R, ia_w, la_w, rv_w, sc_w, if_true, if_false]
    rw [h9]
    refine ⟨iR_of (by omega) (by omega), fun _ _ _ hS' => ?_, fun q => absurd q (by omega)⟩
    refine bX11_reads_93 h1 i2 hS' ?_
    intros
    refine stop0 _ 0 hS' (iR_lit rfl) rfl ?_ (hF.setS (by decide)) (by simp (config := {decide := true}) only [sc_S, ia_S, la_S, rv_S, sc_I, rv_I, la_I, ia_I, sc_L, rv_L, ia_L, la_L, sc_A, rv_A, la_A, ia_A, sc_B, rv_B, ia_B, la_B, sc_R, ia_R, la_R, rv_R, ia_w, la_w, rv_w, sc_w, if_true, if_false]; omega)
    rw [hbad]
    exact ⟨⟨hP.tp, hP.tb, by simp (config := {decide := true}) only [sc_S, ia_S, la_S, rv_S, sc_I, rv_I, la_I, ia_I, sc_L, rv_L, ia_L, la_L, sc_A, rv_A, la_A, ia_A, sc_B, rv_B, ia_B, la_B, sc_R, ia_R, la_R, rv_R, ia_w, la_w, rv_w, sc_w, if_true, if_false]; exact hP.en, hP.eb, by simp (config := {decide := true}) only [sc_S, ia_S, la_S, rv_S, sc_I, rv_I, la_I, ia_I, sc_L, rv_L, ia_L, la_L, sc_A, rv_A, la_A, ia_A, sc_B, rv_B, ia_B, la_B, sc_R, ia_R, la_R, rv_R, ia_w, la_w, rv_w, sc_w, if_true, if_false]; exact hP.a0, by simp (config := {decide := true}) only [sc_S, ia_S, la_S, rv_S, sc_I, rv_I, la_I, ia_I, sc_L, rv_L, ia_L, la_L, sc_A, rv_A, la_A, ia_A, sc_B, rv_B, ia_B, la_B, sc_R, ia_R, la_R, rv_R, ia_w, la_w, rv_w, sc_w, if_true, if_false]; exact hP.a1, hP.zr⟩, by simp (config := {decide := true}) only [sc_S, ia_S, la_S, rv_S, sc_I, rv_I, la_I, ia_I, sc_L, rv_L, ia_L, la_L, sc_A, rv_A, la_A, ia_A, sc_B, rv_B, ia_B, la_B, sc_R, ia_R, la_R, rv_R, ia_w, la_w, rv_w, sc_w, if_true, if_false]; exact h9, hf⟩
  have key : ∀ (n : Nat) (τ : SG) (l : List ρ) (p' : Int) (m' : Int → Int), l.length + n = 13 → l.length ≤ 12 → SR τ → SP t e τ p' m' → sc τ 102 12 = l.length → Rows RR (ia τ 107) (ia τ 108) l → Fm [103, 107, 108] [8, 9, 12] σ τ → pRd t e pE n l p' m' = pRds t e pE p m → aX11_reads_17 g ad d (Kv fun s => SX t e s (pRds t e pE p m) (fun l => sc s 102 12 = (l.length : Int) ∧ (l.length : Int) ≤ 12 ∧ Rows RR (ia s 107) (ia s 108) l) ∧ Fm [103, 107, 108] [8, 9, 12] σ s ∧ (0 ≤ sc s 102 12 ∧ sc s 102 12 ≤ 13)) 0 0 τ x1 1 := by
    intro n
    induction n with
    | zero =>
      intro τ l p' m' hln hl12
      omega
    | succ n ih =>
      intro τ l p' m' hln hl12 hSt hSP h12' hRows hF hv
      have hbp := hSP.b
      rw [pRd] at hv
      refine bX11_reads_17 h1 (iR_lit rfl) hSt ⟨fun q => absurd q (by decide), fun _ => ⟨fun q => absurd hSP.2.1 q, fun _ => ⟨fun c => ?_, fun c => ?_⟩⟩⟩
      · have hne : ¬ l.length = 12 := by omega
        rw [if_neg hne] at hv
        refine hcall τ p' m' hSP hSt (by omega) _ (fun s hSs hX hFs hSm7 hSm8 => ?_)
        rw [h12'] at hX hSm7 hSm8
        intros
        have e12 : sc s 102 12 = l.length := (hFs.s 12 rfl).trans h12'
        have hFs' : Fm [103, 107, 108] [8, 9, 12] σ s := hF.trans (hFs.mono (by decide) (by decide))
        cases hpe : pE p' m' with
        | error f =>
          rw [hpe] at hX hv
          exact stopB s 1 f hSs (iR_lit rfl) hX.2.1 hX.2.2 hX.1 hv.symm hFs' (by omega)
        | ok rr_ =>
          obtain ⟨x, p1, m1⟩ := rr_
          rw [hpe] at hX hv
          obtain ⟨hPs, h9, h8, h3, h0, hRx⟩ := hX
          have hv' : (if e ≤ p1 then PR.ok (l ++ [x]) p1 m1 else (pSign t e 59 p1 m1).bind fun _ p2 m2 => pRd t e pE n (l ++ [x]) p2 m2) = pRds t e pE p m := hv
          have hSPs : SP t e s p1 m1 := ⟨hPs, h9, h8, h3, h0, trivial⟩
          have hb1 := hSPs.b
          have hRows' : Rows RR (ia s 107) (ia s 108) (l ++ [x]) := by
            intro i y hy
            by_cases ci : i < l.length
            · rw [List.getElem?_append_left ci] at hy
              exact hRR _ _ _ _ _ _ _ (hRows i y hy) hSm7 hSm8 (by omega) (by omega)
            · rw [List.getElem?_append_right (by omega)] at hy
              have hi1 : i - l.length < 1 := (List.getElem?_eq_some_iff.mp hy).1
              have hi2 : i = l.length := by omega
              subst hi2
              rw [Nat.sub_self] at hy
              have := Option.some.inj hy
              subst this
              exact hRx
          have elen : ((l ++ [x]).length : Int) = (l.length : Int) + 1 := by rw [List.length_append, List.length_singleton]; omega
          refine bX11_reads_64 h1 (iR_lit rfl) hSs ?_
          simp (config := {decide := true}) only [sc_S, ia_S, la_S, rv_S, sc_I, rv_I, la_I, ia_I, sc_L, rv_L, ia_L, la_L, sc_A, rv_A, la_A, ia_A, sc_B, rv_B, ia_B, la_B, sc_R, ia_R, la_R, rv_R, ia_w, la_w, rv_w, sc_w, if_true, if_false]
          rw [e12, h9]
          refine ⟨iR_of (by omega) (by omega), fun q => absurd rfl q, fun _ => ?_⟩
          have hS2 : SR (setS s 102 12 ((l.length : Int) + 1)) := SR_setS hSs (iR_of (by omega) (by omega))
          have hSP2 : SP t e (setS s 102 12 ((l.length : Int) + 1)) p1 m1 := ⟨⟨hPs.tp, hPs.tb, by simp (config := {decide := true}) only [sc_S, ia_S, la_S, rv_S, sc_I, rv_I, la_I, ia_I, sc_L, rv_L, ia_L, la_L, sc_A, rv_A, la_A, ia_A, sc_B, rv_B, ia_B, la_B, sc_R, ia_R, la_R, rv_R, ia_w, la_w, rv_w, sc_w, if_true, if_false]; exact hPs.en, hPs.eb, by simp (config := {decide := true}) only [sc_S, ia_S, la_S, rv_S, sc_I, rv_I, la_I, ia_I, sc_L, rv_L, ia_L, la_L, sc_A, rv_A, la_A, ia_A, sc_B, rv_B, ia_B, la_B, sc_R, ia_R, la_R, rv_R, ia_w, la_w, rv_w, sc_w, if_true, if_false]; exact hPs.a0, by simp (config := {decide := true}) only [sc_S, ia_S, la_S, rv_S, sc_I, rv_I, la_I, ia_I, sc_L, rv_L, ia_L, la_L, sc_A, rv_A, la_A, ia_A, sc_B, rv_B, ia_B, la_B, sc_R, ia_R, la_R, rv_R, ia_w, la_w, rv_w, sc_w, if_true, if_false]; exact hPs.a1, hPs.zr⟩, by simp (config := {decide := true}) only [sc_S, ia_S, la_S, rv_S, sc_I, rv_I, la_I, ia_I, sc_L, rv_L, ia_L, la_L, sc_A, rv_A, la_A, ia_A, sc_B, rv_B, ia_B, la_B, sc_R, ia_R, la_R, rv_R, ia_w, la_w, rv_w, sc_w, if_true, if_false]; exact h9, by simp (config := {decide := true}) only [sc_S, ia_S, la_S, rv_S, sc_I, rv_I, la_I, ia_I, sc_L, rv_L, ia_L, la_L, sc_A, rv_A, la_A, ia_A, sc_B, rv_B, ia_B, la_B, sc_R, ia_R, la_R, rv_R, ia_w, la_w, rv_w, sc_w, if_true, if_false]; exact h8, h3, h0, trivial⟩
          have hF2 : Fm [103, 107, 108] [8, 9, 12] σ (setS s 102 12 ((l.length : Int) + 1)) := hFs'.setS (by decide)
          refine EI.k (w_here (d := d - 1) hSP2 hS2) (by omega) (fun ip1 hS3 => ?_)
          have hSP3 := hSP2.at
          rw [hSP3.1.en]
          refine ⟨fun c2 => ?_, fun c2 => ?_⟩
          · rw [if_neg (by omega)] at hv'
            refine Cl.vo (e_mustSign (d := d - 1) hSP3 hS3 (iR_lit rfl) (by omega)) (by omega) (fun s5 hS5 h5 => ?_)
            obtain ⟨hX5, hF5⟩ := h5
            intros
            have hF5' : Fm [103, 107, 108] [8, 9, 12] σ s5 := (hF2.setS (by decide)).trans (hF5.mono (by decide) (by decide))
            have e512 : sc s5 102 12 = (l.length : Int) + 1 := by rw [hF5.s 12 rfl]; simp (config := {decide := true}) only [sc_S, ia_S, la_S, rv_S, sc_I, rv_I, la_I, ia_I, sc_L, rv_L, ia_L, la_L, sc_A, rv_A, la_A, ia_A, sc_B, rv_B, ia_B, la_B, sc_R, ia_R, la_R, rv_R, ia_w, la_w, rv_w, sc_w, if_true, if_false]
            cases hsg : pSign t e 59 p1 m1 with
            | error f =>
              rw [hsg] at hX5 hv'
              have h95 : sc s5 102 9 = f := hX5.2.1
              have hf0 : 0 ≤ f := hX5.2.2
              refine bX11_reads_17 h1 (iR_lit rfl) hS5 ⟨fun q => absurd q (by decide), fun _ => ⟨fun _ _ _ _ => ?_, fun q => absurd q (by omega)⟩⟩
              refine stop s5 1 hS5 (iR_lit rfl) ?_ hF5' (by omega)
              have hvb : PR.bad f = pRds t e pE p m := hv'
              rw [← hvb]
              exact hX5
            | ok rr_ =>
              obtain ⟨u, p2, m2⟩ := rr_
              rw [hsg] at hX5 hv'
              have hSP5 : SP t e s5 p2 m2 := hX5
              refine ih s5 (l ++ [x]) p2 m2 (by rw [List.length_append, List.length_singleton]; omega) (by rw [List.length_append, List.length_singleton]; omega) hS5 hSP5 (by omega) ?_ hF5' hv'
              rw [hF5.a 107 rfl, hF5.a 108 rfl]
              simp (config := {decide := true}) only [sc_S, ia_S, la_S, rv_S, sc_I, rv_I, la_I, ia_I, sc_L, rv_L, ia_L, la_L, sc_A, rv_A, la_A, ia_A, sc_B, rv_B, ia_B, la_B, sc_R, ia_R, la_R, rv_R, ia_w, la_w, rv_w, sc_w, if_true, if_false]
              exact hRows'
          · rw [if_pos (by omega)] at hv'
            intro _ _ _
            refine bX11_reads_93 h1 (iR_lit rfl) hS3 ?_
            intros
            refine stop0 _ 0 hS3 (iR_lit rfl) rfl ?_ (hF2.setS (by decide)) (by simp (config := {decide := true}) only [sc_S, ia_S, la_S, rv_S, sc_I, rv_I, la_I, ia_I, sc_L, rv_L, ia_L, la_L, sc_A, rv_A, la_A, ia_A, sc_B, rv_B, ia_B, la_B, sc_R, ia_R, la_R, rv_R, ia_w, la_w, rv_w, sc_w, if_true, if_false]; omega)
            rw [← hv']
            refine ⟨hSP3.1, hSP3.2.1, hSP3.2.2.1, hSP3.2.2.2.1, hSP3.2.2.2.2.1, ?_, by omega, ?_⟩
            · simp (config := {decide := true}) only [sc_S, ia_S, la_S, rv_S, sc_I, rv_I, la_I, ia_I, sc_L, rv_L, ia_L, la_L, sc_A, rv_A, la_A, ia_A, sc_B, rv_B, ia_B, la_B, sc_R, ia_R, la_R, rv_R, ia_w, la_w, rv_w, sc_w, if_true, if_false]; omega
            · simp (config := {decide := true}) only [sc_S, ia_S, la_S, rv_S, sc_I, rv_I, la_I, ia_I, sc_L, rv_L, ia_L, la_L, sc_A, rv_A, la_A, ia_A, sc_B, rv_B, ia_B, la_B, sc_R, ia_R, la_R, rv_R, ia_w, la_w, rv_w, sc_w, if_true, if_false]; exact hRows'
      · have he : l.length = 12 := by omega
        rw [if_pos he] at hv
        refine EI.k (w_here (d := d - 1) hSP hSt) (by omega) (fun ip1 hS3 => ?_)
        refine EV.k (e_wrong (d := d - 1) ip1 hS3) (by omega) (fun hS9 => ?_)
        have h9' : sc (setS τ 102 8 p') 102 9 = -1 := by simp (config := {decide := true}) only [sc_S, ia_S, la_S, rv_S, sc_I, rv_I, la_I, ia_I, sc_L, rv_L, ia_L, la_L, sc_A, rv_A, la_A, ia_A, sc_B, rv_B, ia_B, la_B, sc_R, ia_R, la_R, rv_R, ia_w, la_w, rv_w, sc_w, if_true, if_false]; exact hSP.2.1
        rw [if_pos h9'] at hS9 ⊢
        intros
        have hXb : SX t e (setS (setS τ 102 8 p') 102 9 p') (PR.bad p' : PR Unit) (fun _ => True) := hSP.at.bad hbp.1
        exact stopB _ 1 p' hS9 (iR_lit rfl) hXb.2.1 hbp.1 hXb.1 hv.symm ((hF.setS (by decide)).setS (by decide)) (by simp (config := {decide := true}) only [sc_S, ia_S, la_S, rv_S, sc_I, rv_I, la_I, ia_I, sc_L, rv_L, ia_L, la_L, sc_A, rv_A, la_A, ia_A, sc_B, rv_B, ia_B, la_B, sc_R, ia_R, la_R, rv_R, ia_w, la_w, rv_w, sc_w, if_true, if_false]; omega)
  refine ⟨fun c => ?_, fun c => ?_⟩
  · intros
    have hv : pRds t e pE p m = .ok [] p m := by unfold pRds; rw [if_neg (by omega)]
    refine stop0 _ 0 hS1 (iR_lit rfl) rfl ?_ ((Fm.refl σ).setS (by decide)) (by simp (config := {decide := true}) only [sc_S, ia_S, la_S, rv_S, sc_I, rv_I, la_I, ia_I, sc_L, rv_L, ia_L, la_L, sc_A, rv_A, la_A, ia_A, sc_B, rv_B, ia_B, la_B, sc_R, ia_R, la_R, rv_R, ia_w, la_w, rv_w, sc_w, if_true, if_false]; omega)
    rw [hv]
    refine ⟨hSPa.1, hSPa.2.1, hSPa.2.2.1, hSPa.2.2.2.1, hSPa.2.2.2.2.1, ?_, by show ((0 : Nat) : Int) ≤ 12; omega, fun i x hx => by cases hx⟩
    simp (config := {decide := true}) only [sc_S, ia_S, la_S, rv_S, sc_I, rv_I, la_I, ia_I, sc_L, rv_L, ia_L, la_L, sc_A, rv_A, la_A, ia_A, sc_B, rv_B, ia_B, la_B, sc_R, ia_R, la_R, rv_R, ia_w, la_w, rv_w, sc_w, if_true, if_false]
    rw [h12]
    rfl
  · intros
    refine key 13 _ [] p m rfl (Nat.zero_le _) hS1 hSPa (by simp (config := {decide := true}) only [sc_S, ia_S, la_S, rv_S, sc_I, rv_I, la_I, ia_I, sc_L, rv_L, ia_L, la_L, sc_A, rv_A, la_A, ia_A, sc_B, rv_B, ia_B, la_B, sc_R, ia_R, la_R, rv_R, ia_w, la_w, rv_w, sc_w, if_true, if_false]; rw [h12]; rfl) (fun i x hx => by cases hx) ((Fm.refl σ).setS (by decide)) ?_
    unfold pRds
    rw [if_pos (by omega)]
end PAU
