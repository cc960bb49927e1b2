section TLD
variable {g : AG} {ad : Nat → Nat} {d : Nat} {σ : SG} {m m1 mi t : Int → Int} {k : Nat} {hi e : Int}
/-- the tape: what was fed, how long, the fault -/
def TP (s : SG) (t : Int → Int) (e f : Int) : Prop := ia s 38 = t ∧ sc s 37 1 = e ∧ sc s 37 2 = f
theorem TP.tf {s : SG} {f : Int} (h : TP σ t e f) (hT : Tf σ s) : TP s t e f := ⟨hT.1.trans h.1, hT.2.1.trans h.2.1, hT.2.2.trans h.2.2⟩
theorem CI.R {v : Nat} (h : CI σ m mi hi) : CI (setR σ 37 16 v) m mi hi := by
  have r0 : ∀ j, rv (setR σ 37 16 v) 0 j = rv σ 0 j := fun j => by rw [rv_R, if_neg (by omega)]
  have r48 : rv (setR σ 37 16 v) 48 11 = rv σ 48 11 := by rw [rv_R, if_neg (by omega)]
  refine ⟨by rw [r0, r0]; exact h.kn, h.gm, by rw [r0]; exact h.rk, h.hi_, h.im, h.kc, fun z => ?_, h.wy, h.st⟩
  have hop := h.op z
  rw [r0]
  exact ⟨⟨hop.1.l, hop.1.pl, by rw [r48]; exact hop.1.kn⟩, hop.2⟩
theorem CI.kt {s : SG} {C : Nat → Prop} (h : CI σ m mi hi) (hF : Fr C σ s) (hC : ∀ c, C c → 37 ≤ c ∧ c ≤ 47) : CI s m mi hi := by
  have e : ∀ j, sc s 0 j = sc σ 0 j := fun j => hF.sc 0 j (fun z => by have := hC 0 z; omega)
  have er : rv s = rv σ := hF.1
  have hkb := isK_b h.isk
  refine ⟨by rw [er]; exact h.kn, h.gm, ?_, by rw [e]; exact h.hi_, fun z => ⟨(h.im z).1.fr hF (fun c hc y => by unfold Kcl at hc; have := hC c y; omega), (h.im z).2⟩, h.kc.fr hF (fun c hc y => by unfold Kno at y; have := hC c hc; omega), fun z => ?_, fun z => ?_, fun z => ?_⟩
  · rw [er]
    exact h.rk.fr hF (fun c hc y => by unfold Kcl at hc; have := hC c y; omega)
  · rw [e] at z
    have hop := h.op z
    rw [er]
    exact ⟨hop.1.fr hF (fun c hc y => by unfold Ocl at y; have := hC c hc; omega), hop.2.1.fr hF (fun c hc y => by unfold Kno at y; have := hC c hc; omega), hop.2.2.fr hF (fun c hc y => by have := hC c hc; omega)⟩
  · rw [e] at z
    have hw := h.wy z
    refine ⟨by rw [e]; exact hw.1, ⟨?_, ?_, hw.2.1.2.2.fr hF (fun c hc y => by have := hC c hc; unfold Kno at y; omega)⟩, hw.2.2.fr hF (fun c hc => ⟨fun y => by have := hC c hc; unfold Wcl at y; omega, fun y => by have := hC c hc; unfold Kno at y; omega⟩)⟩
    · rw [hF.sc 58 6 (fun y => by have := hC 58 y; omega)]
      exact hw.2.1.1
    · rw [hF.sc 58 7 (fun y => by have := hC 58 y; omega)]
      exact hw.2.1.2.1
  · rw [e] at z
    have hs := h.st z
    exact ⟨by rw [e]; exact hs.1, hs.2.fr hF (fun c hc y => by have := hC c hc; unfold Fcl at y; omega)⟩
/-- reading, with a frame -/
theorem Fz.fr {D : Nat → Prop} {s : SG} (h : Fz D σ s) : Fr (fun c => (37 ≤ c ∧ c ≤ 47) ∨ D c) (setR σ 37 16 (rv s 37 16)) s := by
  refine ⟨?_, fun c hc => h.2.1 c (fun z => hc (Or.inl z)) (fun z => hc (Or.inr z))⟩
  funext c j
  by_cases z : c = 37 ∧ j = 16
  · rw [rv_R, if_pos z, z.1, z.2]
  · rw [rv_R, if_neg z]
    exact h.1 c j z
theorem Cf.R {v : Nat} : Cf σ (setR σ 37 16 v) := fun c hc => ⟨rfl, rfl, rfl, by
  funext j
  rw [rv_R, if_neg (by omega)]⟩
theorem p_checkText (hS : SR σ) (hd : 8 ≤ d) : Eb g ad d mX10_checkText 1 6 [.ref (ad 0)] σ (Kx (Kv fun s => s = σ ∧ sc σ 37 2 = -1) (fun E s => s = σ ∧ E = xIA ∧ ¬ sc σ 37 2 = -1)) := by
  refine EbS rfl pl_X10 rfl rfl (bX10_checkText_0 hS ?_)
  refine EI.k (c_isRight (d := d - 1) hS) (by omega) (fun _ _ => ⟨fun c h2 => Or.inl ⟨rfl, h2, rfl, ?_⟩, fun c => ⟨hd, fun h2 => Or.inr ⟨_, rfl, h2, rfl, rfl, fun z => ?_⟩⟩⟩)
  · exact Classical.byContradiction (fun z => c (by rw [bi, if_neg z]))
  · rw [bi, if_pos z] at c
    omega
/-- how reading a told text ends -/
def ToP (σ s : SG) (m mi t : Int → Int) (hi e : Int) (l : List Int) : Prop := toldP t e m = .ok l ∧ CI s m mi hi ∧ TP s t 0 (-1) ∧ sc s 37 11 = (l.length : Int) ∧ (l.length : Int) ≤ 18 ∧ hl (ia s 45) 0 (l.map cw) ∧ Cf σ s
def ToE (σ s : SG) (m mi t : Int → Int) (hi e : Int) : Prop := ∃ f, toldP t e m = .error f ∧ ¬ f = -1 ∧ CI s m mi hi ∧ TP s t 0 f ∧ Cf σ s
theorem p_told {f : Int} (h : CI σ m mi hi) (hT : TP σ t e f) (htb : ∀ j, 0 ≤ t j ∧ t j ≤ 255) (heb : 0 ≤ e ∧ e ≤ 400) (hS : SR σ) (hd : 9 ≤ d) : Eb g ad d mX10_readTold 1 6 [.ref (ad 0)] σ (Kx (Kv fun s => ∃ l, ToP σ s m mi t hi e l) (fun E s => E = xIA ∧ ToE σ s m mi t hi e)) := by
  have hk := h.isk
  refine EbS rfl pl_X10 rfl rfl (bX10_readTold_0 hS ⟨hk, ?_⟩)
  have hrow := c_readRow (g := g) (ad := ad) (d := d - 1) (new := false) (most := 18) hk h.rk h.gm hT.1 htb hT.2.1 heb (by omega) hS (by omega)
  have hrow' : Eb g ad (d - 1) mX6_readRow 0 0 [.ref (ad 37), .ref (ad (rv σ 0 1)), vi 0, vi 18] σ (Kv fun s => CX t e (rv σ 0 1) false s (rowP t e false 18 m) (fun l => sc s 37 11 = (l.length : Int) ∧ (l.length : Int) ≤ 18 ∧ hl (ia s 45) 0 (l.map cw)) ∧ Fz (Dk false (rv σ 0 1)) σ s) := hrow
  refine Cl.vo hrow' (by omega) (fun s2 hS2 h2 => ?_)
  obtain ⟨hX, hZ⟩ := h2
  have hF2 := hZ.fr
  have hF2' : Fr (fun c => 37 ≤ c ∧ c ≤ 47) (setR σ 37 16 (rv s2 37 16)) s2 := hF2.mono (fun c hc => hc.elim id (fun z => absurd z.1 (by decide)))
  have hF3 : Fr (fun c => 37 ≤ c ∧ c ≤ 47) (setR σ 37 16 (rv s2 37 16)) (setS s2 37 1 0) := hF2'.S ⟨by omega, by omega⟩
  have c3 : CI (setS s2 37 1 0) m mi hi := (h.R (v := rv s2 37 16)).kt hF3 (fun c hc => hc)
  have f3 : Cf σ (setS s2 37 1 0) := Cf.R.trans (hF3.c (fun c hc => by omega))
  have e38 : ia (setS s2 37 1 0) 38 = t := hZ.2.2.1.trans hT.1
  have hS3 : SR (setS s2 37 1 0) := SR_setS hS2 (iR_lit rfl)
  have e2 : sc (setS s2 37 1 0) 37 2 = sc s2 37 2 := by simp (config := {decide := true}) only [sc_S, ia_S, la_S, rv_S, sc_I, rv_I, la_I, ia_I, sc_L, rv_L, ia_L, la_L, sc_A, rv_A, la_A, ia_A, sc_B, rv_B, ia_B, la_B, sc_R, ia_R, la_R, rv_R, ia_w, la_w, rv_w, sc_w, if_true, if_false]
  have e11 : sc (setS s2 37 1 0) 37 11 = sc s2 37 11 := by simp (config := {decide := true}) only [sc_S, ia_S, la_S, rv_S, sc_I, rv_I, la_I, ia_I, sc_L, rv_L, ia_L, la_L, sc_A, rv_A, la_A, ia_A, sc_B, rv_B, ia_B, la_B, sc_R, ia_R, la_R, rv_R, ia_w, la_w, rv_w, sc_w, if_true, if_false]
  have e1 : sc (setS s2 37 1 0) 37 1 = 0 := by simp (config := {decide := true}) only [sc_S, ia_S, la_S, rv_S, sc_I, rv_I, la_I, ia_I, sc_L, rv_L, ia_L, la_L, sc_A, rv_A, la_A, ia_A, sc_B, rv_B, ia_B, la_B, sc_R, ia_R, la_R, rv_R, ia_w, la_w, rv_w, sc_w, if_true, if_false]
  -- the two ways of saying it
  have hrt : (∀ l p m', rowP t e false 18 m = Except.ok (l, p, m') → toldP t e m = .ok l) ∧ (∀ f', rowP t e false 18 m = Except.error f' → toldP t e m = .error f') := by
    unfold rowP toldP PR.bind
    cases hp : pWs t e false 18 (skp t e 0) m with
    | error f' => exact ⟨(fun l p m' z => by cases z), (fun f'' z => by cases z; rfl)⟩
    | ok a =>
      obtain ⟨l, p, m'⟩ := a
      by_cases c : p < e
      · refine ⟨(fun l' p' m'' z => ?_), (fun f'' z => ?_)⟩
        · simp only [if_pos c] at z
          cases z
        · simp only [if_pos c] at z ⊢
          cases z
          rfl
      · refine ⟨(fun l' p' m'' z => ?_), (fun f'' z => ?_)⟩
        · simp only [if_neg c] at z ⊢
          cases z
          rfl
        · simp only [if_neg c] at z
          cases z
  refine Cl.xv (p_checkText (d := d - 1) hS3 (by omega)) (by omega) (fun s _ hs => ?_) (fun E s _ hs => ?_)
  · obtain ⟨rfl, hf⟩ := hs
    refine fun hS' => Or.inl ⟨rfl, hS', ?_⟩
    rw [e2] at hf
    cases hr : rowP t e false 18 m with
    | error f' =>
      rw [hr] at hX
      obtain ⟨⟨m', hcb⟩, h0⟩ := hX
      have := hcb.fa
      omega
    | ok a =>
      obtain ⟨l, p, m'⟩ := a
      rw [hr] at hX
      obtain ⟨hcp, hl1, hl2, hl3⟩ := hX
      exact ⟨l, hrt.1 l p m' hr, c3, ⟨e38, e1, by rw [e2]; exact hf⟩, by rw [e11]; exact hl1, hl2, hl3, f3⟩
  · obtain ⟨rfl, rfl, hf⟩ := hs
    refine fun hS' => Or.inr ⟨_, rfl, hS', rfl, ?_⟩
    rw [e2] at hf
    cases hr : rowP t e false 18 m with
    | error f' =>
      rw [hr] at hX
      obtain ⟨⟨m', hcb⟩, h0⟩ := hX
      exact ⟨f', hrt.2 f' hr, by omega, c3, ⟨e38, e1, by rw [e2]; exact hcb.fa⟩, f3⟩
    | ok a =>
      obtain ⟨l, p, m'⟩ := a
      rw [hr] at hX
      exact absurd hX.1.1.fa hf
/-- the words of a told text -/
theorem told_w (hG : GM m) (he : 0 ≤ e) {l : List Int} (h : toldP t e m = .ok l) : ∀ w ∈ l, 0 ≤ w ∧ w < m 0 ∨ w = -2 := by
  unfold toldP at h
  cases hp : pWs t e false 18 (skp t e 0) m with
  | error f' => rw [hp] at h; cases h
  | ok a =>
    obtain ⟨l', p, m'⟩ := a
    rw [hp] at h
    by_cases c : p < e
    · simp only [if_pos c] at h
      cases h
    · simp only [if_neg c] at h
      cases h
      have hok := pWs_ok hG (scn_le he).2 (by omega) hp
      have hsm : m' = m := pWords_same _ _ _ hp
      intro w hw
      rcases hok.2.2.1 w hw with z | z
      · rw [hsm] at z
        exact Or.inl z
      · exact Or.inr z.2
end TLD
