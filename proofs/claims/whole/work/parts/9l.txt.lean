section TXs
variable {g : AG} {ad : Nat → Nat} {d : Nat} {σ : SG} {m m1 mi t : Int → Int} {k : Nat} {hi e f0 : Int}
theorem Fr.R2 {C : Nat → Prop} {s : SG} {a b v : Nat} (h : Fr C σ s) : Fr C (setR σ a b v) (setR s a b v) := by
  refine ⟨?_, h.2⟩
  funext x y
  rw [rv_R, rv_R, h.1]
theorem setR2 {a b v w : Nat} : setR (setR σ a b v) a b w = setR σ a b w := by
  refine Prod.ext rfl (Prod.ext ?_ rfl)
  funext x y
  show u2 (u2 σ.2.1 a b v) a b w x y = u2 σ.2.1 a b w x y
  simp only [u2]
  by_cases c : x = a ∧ y = b
  · simp [c]
  · simp [c]
def Dcl (k : Nat) (c : Nat) : Prop := (37 ≤ c ∧ c ≤ 47) ∨ Kcl k c
theorem rd_bad {s : SG} {v : Nat} (h : CI σ m mi hi) (hF : Fr (Dcl (rv σ 0 2)) (setR σ 37 16 v) s) : CI s m mi hi ∧ Cf σ s ∧ (rv s 0 1 = rv σ 0 1 ∧ rv s 0 2 = rv σ 0 2) := by
  have h' := h.R (v := v)
  have hkn := h.kn
  have er : rv s = rv (setR σ 37 16 v) := hF.1
  have r0 : ∀ j, rv (setR σ 37 16 v) 0 j = rv σ 0 j := fun j => by rw [rv_R, if_neg (by omega)]
  have hD : ∀ c, Dcl (rv σ 0 2) c → 13 ≤ c ∧ c ≤ 47 := fun c hc => by
    unfold Dcl Kcl at hc
    omega
  have e_ : ∀ j, sc s 0 j = sc σ 0 j := fun j => hF.sc 0 j (fun z => by have := hD 0 z; omega)
  refine ⟨⟨by rw [er, r0, r0]; exact h.kn, h.gm, ?_, by rw [e_]; exact h.hi_, fun z => ⟨(h'.im z).1.fr hF (fun c hc y => by unfold Kcl at hc; have := hD c y; omega), (h.im z).2⟩, h'.kc.fr hF (fun c hc y => by unfold Kno at y; have := hD c hc; omega), fun z => ?_, fun z => ?_, fun z => ?_⟩, Cf.R.trans (hF.c (fun c hc => by have := hD c hc; omega)), by rw [er]; exact r0 1, by rw [er]; exact r0 2⟩
  · rw [er, r0]
    have hr : RK (setR σ 37 16 v) (rv σ 0 1) m := h.rk
    exact hr.fr hF (fun c hc y => by unfold Kcl at hc; unfold Dcl Kcl at y; omega)
  · rw [e_] at z
    have hop := h'.op z
    rw [er]
    exact ⟨hop.1.fr hF (fun c hc y => by unfold Ocl at y; have := hD c hc; omega), hop.2.1.fr hF (fun c hc y => by unfold Kno at y; have := hD c hc; omega), hop.2.2.fr hF (fun c hc y => by have := hD c hc; omega)⟩
  · rw [e_] at z
    have hw := h'.wy z
    refine ⟨by rw [e_]; exact hw.1, ⟨?_, ?_, hw.2.1.2.2.fr hF (fun c hc y => by have := hD c hc; unfold Kno at y; omega)⟩, hw.2.2.fr hF (fun c hc => ⟨fun y => by have := hD c hc; unfold Wcl at y; omega, fun y => by have := hD c hc; unfold Kno at y; omega⟩)⟩
    · rw [hF.sc 58 6 (fun y => by have := hD 58 y; omega)]
      exact hw.2.1.1
    · rw [hF.sc 58 7 (fun y => by have := hD 58 y; omega)]
      exact hw.2.1.2.1
  · rw [e_] at z
    have hs := h'.st z
    exact ⟨by rw [e_]; exact hs.1, hs.2.fr hF (fun c hc y => by have := hD c hc; unfold Fcl at y; omega)⟩
def kpS (s : SG) : SG := setS (setS (setS (setR (setR s 0 1 (rv s 0 2)) 0 2 (rv s 0 1)) 0 12 0) 0 13 0) 0 14 0
theorem p_keep (h1 : isK (rv σ 0 1)) (h2 : isK (rv σ 0 2)) (hS : SR σ) (hd : 2 ≤ d) : EV g ad d mX10_keepDraft [.ref (ad 0)] σ (kpS σ) := by
  refine EbS rfl pl_X10 rfl rfl (bX10_keepDraft_0 hS ⟨h1, h2, ?_⟩)
  exact EV.k (p_forget (d := d - 1) (SR_setR (SR_setR hS)) (by omega)) (by omega) (fun _ => re_v rfl)
theorem rd_ok {s : SG} {v : Nat} {m' : Int → Int} (h : CI σ m mi hi) (hF : Fr (Dcl (rv σ 0 2)) (setR σ 37 16 v) s) (hR : RK s (rv σ 0 2) m') (hG : GM m') : CI (kpS s) m' mi hi ∧ Cf σ (kpS s) ∧ rv (kpS s) 0 1 = rv σ 0 2 := by
  have hb := rd_bad h hF
  have hkn := h.kn
  have r1 : rv (kpS s) 0 1 = rv σ 0 2 := by
    show u2 (u2 (rv s) 0 1 (rv s 0 2)) 0 2 (rv s 0 1) 0 1 = _
    unfold u2
    rw [if_neg (by omega), if_pos ⟨rfl, rfl⟩]
    exact hb.2.2.2
  have r2 : rv (kpS s) 0 2 = rv σ 0 1 := by
    show u2 (u2 (rv s) 0 1 (rv s 0 2)) 0 2 (rv s 0 1) 0 2 = _
    unfold u2
    rw [if_pos ⟨rfl, rfl⟩]
    exact hb.2.2.1
  have eia : ia (kpS s) = ia s := rfl
  have ela : la (kpS s) = la s := rfl
  have esc : ∀ c j, ¬ (c = 0 ∧ (j = 12 ∨ j = 13 ∨ j = 14)) → sc (kpS s) c j = sc s c j := fun c j z => by
    show sc (setS (setS (setS (setR (setR s 0 1 (rv s 0 2)) 0 2 (rv s 0 1)) 0 12 0) 0 13 0) 0 14 0) c j = sc s c j
    rw [sc_S, if_neg (by omega), sc_S, if_neg (by omega), sc_S, if_neg (by omega)]
    rfl
  have hkk : ∀ (k : Nat) (M : Int → Int), isK k → RK s k M → RK (kpS s) k M := fun k M hk hr => hr.eq (fun c _ _ => by rw [eia]) (by
    funext j
    have := isK_b hk
    exact esc k j (by omega))
  have h12 : sc (kpS s) 0 12 = 0 := by
    show sc (setS (setS (setS (setR (setR s 0 1 (rv s 0 2)) 0 2 (rv s 0 1)) 0 12 0) 0 13 0) 0 14 0) 0 12 = 0
    simp (config := {decide := true}) only [sc_S, ia_S, la_S, rv_S, sc_I, rv_I, la_I, ia_I, sc_L, rv_L, ia_L, la_L, sc_A, rv_A, la_A, ia_A, sc_B, rv_B, ia_B, la_B, sc_R, ia_R, la_R, rv_R, ia_w, la_w, rv_w, sc_w, if_true, if_false]
  have h13 : sc (kpS s) 0 13 = 0 := by
    show sc (setS (setS (setS (setR (setR s 0 1 (rv s 0 2)) 0 2 (rv s 0 1)) 0 12 0) 0 13 0) 0 14 0) 0 13 = 0
    simp (config := {decide := true}) only [sc_S, ia_S, la_S, rv_S, sc_I, rv_I, la_I, ia_I, sc_L, rv_L, ia_L, la_L, sc_A, rv_A, la_A, ia_A, sc_B, rv_B, ia_B, la_B, sc_R, ia_R, la_R, rv_R, ia_w, la_w, rv_w, sc_w, if_true, if_false]
  have h14 : sc (kpS s) 0 14 = 0 := by
    show sc (setS (setS (setS (setR (setR s 0 1 (rv s 0 2)) 0 2 (rv s 0 1)) 0 12 0) 0 13 0) 0 14 0) 0 14 = 0
    simp (config := {decide := true}) only [sc_S, ia_S, la_S, rv_S, sc_I, rv_I, la_I, ia_I, sc_L, rv_L, ia_L, la_L, sc_A, rv_A, la_A, ia_A, sc_B, rv_B, ia_B, la_B, sc_R, ia_R, la_R, rv_R, ia_w, la_w, rv_w, sc_w, if_true, if_false]
  refine ⟨CI.new (by rw [r1, r2]; omega) hG (by rw [r1]; exact hkk _ _ h.isd hR) ?_ (fun z => ⟨hkk 1 mi (Or.inl rfl) (hb.1.im z).1, (h.im z).2⟩) ?_ h12 h13 h14, hb.2.1.trans (fun c hc => ⟨by rw [eia], by rw [ela], funext (fun j => esc c j (by omega)), ?_⟩), r1⟩
  · rw [esc 0 11 (by omega)]
    exact hb.1.hi_
  · have := hb.1.kc
    unfold KCl at this ⊢
    have e5 : kN (kpS s) = kN s := esc 58 5 (by omega)
    rw [e5, eia]
    exact this
  · funext j
    show u2 (u2 (rv s) 0 1 (rv s 0 2)) 0 2 (rv s 0 1) c j = rv s c j
    unfold u2
    rw [if_neg (by omega), if_neg (by omega)]
theorem kp_tp {s : SG} {f : Int} (h : TP s t e f) : TP (kpS s) t e f := by
  refine ⟨h.1, ?_, ?_⟩
  · show sc (setS (setS (setS (setR (setR s 0 1 (rv s 0 2)) 0 2 (rv s 0 1)) 0 12 0) 0 13 0) 0 14 0) 37 1 = e
    simp (config := {decide := true}) only [sc_S, ia_S, la_S, rv_S, sc_I, rv_I, la_I, ia_I, sc_L, rv_L, ia_L, la_L, sc_A, rv_A, la_A, ia_A, sc_B, rv_B, ia_B, la_B, sc_R, ia_R, la_R, rv_R, ia_w, la_w, rv_w, sc_w, if_true, if_false]
    exact h.2.1
  · show sc (setS (setS (setS (setR (setR s 0 1 (rv s 0 2)) 0 2 (rv s 0 1)) 0 12 0) 0 13 0) 0 14 0) 37 2 = f
    simp (config := {decide := true}) only [sc_S, ia_S, la_S, rv_S, sc_I, rv_I, la_I, ia_I, sc_L, rv_L, ia_L, la_L, sc_A, rv_A, la_A, ia_A, sc_B, rv_B, ia_B, la_B, sc_R, ia_R, la_R, rv_R, ia_w, la_w, rv_w, sc_w, if_true, if_false]
    exact h.2.2
/-- copied, then read: the frame -/
theorem cp_rd {s3 s5 : SG} (h : CI σ m mi hi) (h3 : Fr (Kcl (rv σ 0 2)) σ s3) (h5 : Fz (Dk true (rv σ 0 2)) s3 s5) : Fr (Dcl (rv σ 0 2)) (setR σ 37 16 (rv s5 37 16)) s5 ∧ ia s5 38 = ia σ 38 := by
  have a1 : Fr (Dcl (rv σ 0 2)) (setR σ 37 16 (rv s5 37 16)) (setR s3 37 16 (rv s5 37 16)) := (h3.mono (fun c hc => Or.inr hc)).R2
  have a2 : Fr (Dcl (rv σ 0 2)) (setR s3 37 16 (rv s5 37 16)) s5 := h5.fr.mono (fun c hc => hc.elim Or.inl (fun z => Or.inr z.2))
  refine ⟨a1.trans a2, ?_⟩
  rw [h5.2.2.1]
  have := h.kn
  exact h3.ia 38 (fun z => by unfold Kcl at z; omega)
theorem FrE_d {s u : SG} (h : FrE k s u) : Fr (Dcl k) s u := h.1.mono (fun c hc => by
  rcases hc with z | z
  · exact Or.inr z
  · exact Or.inl (by omega))
/-- how a call that reads ends: by the outcomes -/
def XR (σ : SG) (m mi t : Int → Int) (hi : Int) (O : Int → Int → (Int → Int) → Prop) : AO → SG → Prop := Kx (Ki fun r s => (∀ f v m', O f v m' → f = -1 ∧ v = r ∧ CI s m' mi hi) ∧ TP s t 0 (-1) ∧ Cf σ s) (fun E s => E = xIA ∧ (∀ f v m', O f v m' → ¬ f = -1 ∧ TP s t 0 f) ∧ CI s m mi hi ∧ Cf σ s)
theorem kp_cf : Cf σ (kpS σ) := fun c hc => ⟨rfl, rfl, funext (fun j => by
  show sc (setS (setS (setS (setR (setR σ 0 1 _) 0 2 _) 0 12 0) 0 13 0) 0 14 0) c j = _
  rw [sc_S, if_neg (by omega), sc_S, if_neg (by omega), sc_S, if_neg (by omega)]
  rfl), funext (fun j => by
  show u2 (u2 (rv σ) 0 1 _) 0 2 _ c j = rv σ c j
  unfold u2
  rw [if_neg (by omega), if_neg (by omega)])⟩
/-- the text is right, or it is thrown -/
theorem rd_end {s7 : SG} {v : Nat} {O : Int → Int → (Int → Int) → Prop} {K8 : SG → Prop} (h : CI σ m mi hi) (hS7 : SR s7) (hF7 : Fr (Dcl (rv σ 0 2)) (setR σ 37 16 v) s7) (e38 : ia s7 38 = t) (hO : ∀ f v m', O f v m' → f = sc s7 37 2) (hd : 9 ≤ d) (hK : sc s7 37 2 = -1 → K8 (setS s7 37 1 0)) {Q : AO → SG → Prop} (hQ : ∀ E s, SR s → E = xIA → (∀ f v m', O f v m' → ¬ f = -1 ∧ TP s t 0 f) → CI s m mi hi → Cf σ s → Q (.inr E) s) : Cl g ad d mX10_checkText 1 6 [.ref (ad 0)] (setS s7 37 1 0) (Kx (Kv K8) (fun E s8 => SR s8 → Q (.inr E) s8)) := by
  have hS8 : SR (setS s7 37 1 0) := SR_setS hS7 (iR_lit rfl)
  have hF8 : Fr (Dcl (rv σ 0 2)) (setR σ 37 16 v) (setS s7 37 1 0) := hF7.S (Or.inl ⟨by omega, by omega⟩)
  have e2 : sc (setS s7 37 1 0) 37 2 = sc s7 37 2 := by simp (config := {decide := true}) only [sc_S, ia_S, la_S, rv_S, sc_I, rv_I, la_I, ia_I, sc_L, rv_L, ia_L, la_L, sc_A, rv_A, la_A, ia_A, sc_B, rv_B, ia_B, la_B, sc_R, ia_R, la_R, rv_R, ia_w, la_w, rv_w, sc_w, if_true, if_false]
  have e1 : sc (setS s7 37 1 0) 37 1 = 0 := by simp (config := {decide := true}) only [sc_S, ia_S, la_S, rv_S, sc_I, rv_I, la_I, ia_I, sc_L, rv_L, ia_L, la_L, sc_A, rv_A, la_A, ia_A, sc_B, rv_B, ia_B, la_B, sc_R, ia_R, la_R, rv_R, ia_w, la_w, rv_w, sc_w, if_true, if_false]
  have hb := rd_bad h hF8
  refine Cl.xv (p_checkText (d := d - 1) hS8 (by omega)) (by omega) (fun s _ hs => ?_) (fun E s _ hs => ?_)
  · obtain ⟨rfl, hf⟩ := hs
    rw [e2] at hf
    exact hK hf
  · obtain ⟨rfl, rfl, hf⟩ := hs
    refine fun i2 => hQ _ _ i2 rfl (fun f v m' ho => ?_) hb.1 hb.2.1
    have := hO f v m' ho
    rw [e2] at hf
    exact ⟨by rw [this]; exact hf, e38, e1, by rw [e2]; exact this.symm⟩
/-- it is kept -/
theorem rd_kp {s7 : SG} {v : Nat} (h : CI σ m mi hi) (hF7 : Fr (Dcl (rv σ 0 2)) (setR σ 37 16 v) s7) (e38 : ia s7 38 = t) (hf : sc s7 37 2 = -1) (hS7 : SR s7) (hd : 3 ≤ d) {K9 : SG → Prop} (hK : SR (kpS (setS s7 37 1 0)) → TP (kpS (setS s7 37 1 0)) t 0 (-1) → Cf σ (kpS (setS s7 37 1 0)) → (∀ m', RK s7 (rv σ 0 2) m' → GM m' → CI (kpS (setS s7 37 1 0)) m' mi hi) → rv (kpS (setS s7 37 1 0)) 0 1 = rv σ 0 2 → K9 (kpS (setS s7 37 1 0))) : Cl g ad d mX10_keepDraft 0 0 [.ref (ad 0)] (setS s7 37 1 0) (Kv K9) := by
  have hkn := h.kn
  have hS8 : SR (setS s7 37 1 0) := SR_setS hS7 (iR_lit rfl)
  have hF8 : Fr (Dcl (rv σ 0 2)) (setR σ 37 16 v) (setS s7 37 1 0) := hF7.S (Or.inl ⟨by omega, by omega⟩)
  have hb := rd_bad h hF8
  refine EV.k (p_keep (d := d - 1) hb.1.isk hb.1.isd hS8 (by omega)) (by omega) (fun hS9 => hK hS9 (kp_tp ⟨e38, by simp (config := {decide := true}) only [sc_S, ia_S, la_S, rv_S, sc_I, rv_I, la_I, ia_I, sc_L, rv_L, ia_L, la_L, sc_A, rv_A, la_A, ia_A, sc_B, rv_B, ia_B, la_B, sc_R, ia_R, la_R, rv_R, ia_w, la_w, rv_w, sc_w, if_true, if_false], by simp (config := {decide := true}) only [sc_S, ia_S, la_S, rv_S, sc_I, rv_I, la_I, ia_I, sc_L, rv_L, ia_L, la_L, sc_A, rv_A, la_A, ia_A, sc_B, rv_B, ia_B, la_B, sc_R, ia_R, la_R, rv_R, ia_w, la_w, rv_w, sc_w, if_true, if_false]; exact hf⟩) (hb.2.1.trans kp_cf) (fun m' hR hG => ?_) ?_)
  · have hR8 : RK (setS s7 37 1 0) (rv σ 0 2) m' := hR.eq (fun _ _ _ => rfl) (by
      funext j
      rw [sc_S, if_neg (by omega)])
    exact (rd_ok h hF8 hR8 hG).1
  · show u2 (u2 (rv (setS s7 37 1 0)) 0 1 (rv (setS s7 37 1 0) 0 2)) 0 2 (rv (setS s7 37 1 0) 0 1) 0 1 = rv σ 0 2
    unfold u2
    rw [if_neg (by omega), if_pos ⟨rfl, rfl⟩]
    exact hb.2.2.2
theorem XR_q {O : Int → Int → (Int → Int) → Prop} : ∀ E s, SR s → E = xIA → (∀ f v m', O f v m' → ¬ f = -1 ∧ TP s t 0 f) → CI s m mi hi → Cf σ s → XR σ m mi t hi O (.inr E) s := fun E s i2 he h1 h2 h3 => Or.inr ⟨E, rfl, i2, he, h1, h2, h3⟩
theorem r_book (h : CI σ m mi hi) (hT : TP σ t e f0) (htb : ∀ j, 0 ≤ t j ∧ t j ≤ 255) (heb : 0 ≤ e ∧ e ≤ 400) (hS : SR σ) (hd : 10 ≤ d) : Eb g ad d mX10_book 1 6 [.ref (ad 0)] σ (XR σ m mi t hi (bookR t e m)) := by
  have hk2 := h.isd
  have hkn := h.kn
  have hne : rv σ 0 2 ≠ rv σ 0 1 := by omega
  refine EbS rfl pl_X10 rfl rfl (bX10_book_0 hS ⟨hk2, h.isk, ?_⟩)
  refine Cl.vo (k_copy (d := d - 1) hk2 h.isk hne h.rk h.gm hS (by omega)) (by omega) (fun s3 hS3 h3 => ?_)
  have r3 : rv s3 0 2 = rv σ 0 2 := by rw [h3.2.1]
  have t38 : ia s3 38 = t := by
    rw [h3.2.ia 38 (fun z => by unfold Kcl at z; omega)]
    exact hT.1
  have t1 : sc s3 37 1 = e := by
    rw [h3.2.sc 37 1 (fun z => by unfold Kcl at z; omega)]
    exact hT.2.1
  rw [r3]
  refine ⟨hk2, ?_⟩
  refine Cl.vo (c_readBook (d := d - 1) hk2 h3.1 h.gm t38 htb t1 heb hS3 (by omega)) (by omega) (fun s5 hS5 h5 => ?_)
  have hF5 := cp_rd h h3.2 h5.2
  have r5 := (rd_bad h hF5.1).2.2.2
  rw [r5]
  refine ⟨hk2, ?_⟩
  have fin : ∀ (s7 : SG) (r : Int), SR s7 → iR r → Fr (Dcl (rv σ 0 2)) (setR σ 37 16 (rv s5 37 16)) s7 → ia s7 38 = t → (∀ f v m', bookR t e m f v m' → f = sc s7 37 2 ∧ (f = -1 → v = r ∧ RK s7 (rv σ 0 2) m' ∧ GM m')) → Cl g ad d mX10_checkText 1 6 [.ref (ad 0)] (setS s7 37 1 0) (Kx (Kv fun s8 => Cl g ad d mX10_keepDraft 0 0 [.ref (ad 0)] s8 (Kv fun s9 => (iR r → SR s9 → XR σ m mi t hi (bookR t e m) (.inl (some (vi r))) s9))) (fun E s8 => SR s8 → XR σ m mi t hi (bookR t e m) (.inr E) s8)) := fun s7 r hS7 hr hF7 e38 hO => by
    refine rd_end h hS7 hF7 e38 (fun f v m' ho => (hO f v m' ho).1) (by omega) (fun hf => ?_) XR_q
    refine rd_kp h hF7 e38 hf hS7 (by omega) (fun hS9 hTP hCf hCI _ i1 i2 => Or.inl ⟨r, rfl, i1, i2, fun f v m' ho => ?_, hTP, hCf⟩)
    have h1 := hO f v m' ho
    have hf1 : f = -1 := h1.1.trans hf
    have h2 := h1.2 hf1
    exact ⟨hf1, h2.1, hCI m' h2.2.1 h2.2.2⟩
  have e38 : ia s5 38 = t := hF5.2.trans hT.1
  have hX := h5.1
  cases hr : pRds t e (pEntry t e) (skp t e 0) m with
  | error f' =>
    rw [hr] at hX
    obtain ⟨⟨mc, hcb⟩, h0⟩ := hX
    have hfa := hcb.fa
    refine EI.k (c_enterBook_bad (d := d - 1) hk2 (by omega) hS5 (by omega)) (by omega) (fun _ _ => ?_)
    refine fin s5 0 hS5 (iR_lit rfl) hF5.1 e38 (fun f v m' ho => ?_)
    unfold bookR at ho
    rw [hr] at ho
    have ho' : f = f' := ho
    exact ⟨by omega, fun z => by omega⟩
  | ok a =>
    obtain ⟨l, p, m'⟩ := a
    rw [hr] at hX
    obtain ⟨hcp, hl1, hl2, hl3⟩ := hX
    have hok := pRds_ok (V := RowW) RowW_mo (fun p m x p' m' hg hp hq => pEntry_ok hg hp hq) h.gm (scn_le heb.1).2 hr
    refine Cl.i (c_enterBook (d := d - 1) hk2 hcp.1.rk hcp.1.gm hok.2.2 hcp.1.fa hl1 hl2 hl3 hS5 (by omega)) (by omega) (fun r s7 hr7 hS7 h7 => ?_)
    obtain ⟨hO, _, _, hFE⟩ := h7
    refine fin s7 r hS7 hr7 (hF5.1.trans (FrE_d hFE)) ?_ (fun f v m2 ho => ?_)
    · rw [hFE.1.ia 38 (fun z => by unfold Kcl at z; omega)]
      exact e38
    · unfold bookR at ho
      rw [hr] at ho
      exact hO f v m2 ho
theorem r_fluency (h : CI σ m mi hi) (hT : TP σ t e f0) (htb : ∀ j, 0 ≤ t j ∧ t j ≤ 255) (heb : 0 ≤ e ∧ e ≤ 400) (hS : SR σ) (hd : 10 ≤ d) : Eb g ad d mX10_fluency 1 6 [.ref (ad 0)] σ (XR σ m mi t hi (fluR t e m)) := by
  have hk2 := h.isd
  have hkn := h.kn
  have hne : rv σ 0 2 ≠ rv σ 0 1 := by omega
  refine EbS rfl pl_X10 rfl rfl (bX10_fluency_0 hS ⟨hk2, h.isk, ?_⟩)
  refine Cl.vo (k_copy (d := d - 1) hk2 h.isk hne h.rk h.gm hS (by omega)) (by omega) (fun s3 hS3 h3 => ?_)
  have r3 : rv s3 0 2 = rv σ 0 2 := by rw [h3.2.1]
  have t38 : ia s3 38 = t := by
    rw [h3.2.ia 38 (fun z => by unfold Kcl at z; omega)]
    exact hT.1
  have t1 : sc s3 37 1 = e := by
    rw [h3.2.sc 37 1 (fun z => by unfold Kcl at z; omega)]
    exact hT.2.1
  rw [r3]
  refine ⟨hk2, ?_⟩
  refine Cl.vo (c_readFluency (d := d - 1) hk2 h3.1 h.gm t38 htb t1 heb hS3 (by omega)) (by omega) (fun s5 hS5 h5 => ?_)
  have hF5 := cp_rd h h3.2 h5.2
  have r5 := (rd_bad h hF5.1).2.2.2
  rw [r5]
  refine ⟨hk2, ?_⟩
  have fin : ∀ (s7 : SG), SR s7 → Fr (Dcl (rv σ 0 2)) (setR σ 37 16 (rv s5 37 16)) s7 → ia s7 38 = t → (∀ f v m', fluR t e m f v m' → f = sc s7 37 2) → (sc s7 37 2 = -1 → ∃ m2, RK s7 (rv σ 0 2) m2 ∧ GM m2 ∧ ∀ f v m', fluR t e m f v m' → v = m2 2 ∧ m' = m2) → Cl g ad d mX10_checkText 1 6 [.ref (ad 0)] (setS s7 37 1 0) (Kx (Kv fun s8 => Cl g ad d mX10_keepDraft 0 0 [.ref (ad 0)] s8 (Kv fun s9 => isK (rv s9 0 1) ∧ (iR (sc s9 (rv s9 0 1) 11) → SR s9 → XR σ m mi t hi (fluR t e m) (.inl (some (vi (sc s9 (rv s9 0 1) 11)))) s9))) (fun E s8 => SR s8 → XR σ m mi t hi (fluR t e m) (.inr E) s8)) := fun s7 hS7 hF7 e38 hO1 hO2 => by
    refine rd_end h hS7 hF7 e38 hO1 (by omega) (fun hf => ?_) XR_q
    obtain ⟨m2, hR2, hG2, hO⟩ := hO2 hf
    refine rd_kp h hF7 e38 hf hS7 (by omega) (fun hS9 hTP hCf hCI hr1 => ?_)
    have hc := hCI m2 hR2 hG2
    refine ⟨hc.isk, ?_⟩
    rw [hc.rk.f]
    refine fun i1 i2 => Or.inl ⟨_, rfl, i1, i2, fun f v m' ho => ?_, hTP, hCf⟩
    have h1 := hO f v m' ho
    rw [h1.1, h1.2]
    exact ⟨(hO1 f v m' ho).trans hf, rfl, hc⟩
  have e38 : ia s5 38 = t := hF5.2.trans hT.1
  have hX := h5.1
  cases hr : pRds t e (pPair t e) (skp t e 0) m with
  | error f' =>
    rw [hr] at hX
    obtain ⟨⟨mc, hcb⟩, h0⟩ := hX
    have hfa := hcb.fa
    refine EV.k (c_enterFluency_bad (d := d - 1) hk2 (by omega) hS5 (by omega)) (by omega) (fun _ => ?_)
    refine fin s5 hS5 hF5.1 e38 (fun f v m' ho => ?_) (fun z => by omega)
    unfold fluR at ho
    rw [hr] at ho
    have ho' : f = f' := ho
    omega
  | ok a =>
    obtain ⟨l, p, m'⟩ := a
    rw [hr] at hX
    obtain ⟨hcp, hl1, hl2, hl3⟩ := hX
    have hok := pRds_ok (V := RowX) RowX_mo (fun p m x p' m' hg hp hq => pPair_ok hg hp hq) h.gm (scn_le heb.1).2 hr
    refine Cl.vo (c_enterFluency (d := d - 1) hk2 hcp.1.rk hcp.1.gm hok.2.2 hcp.1.fa hl1 hl2 hl3 hS5 (by omega)) (by omega) (fun s7 hS7 h7 => ?_)
    obtain ⟨hO, hFE⟩ := h7
    have hE38 : ia s7 38 = t := by
      rw [hFE.1.ia 38 (fun z => by unfold Kcl at z; omega)]
      exact e38
    refine fin s7 hS7 (hF5.1.trans (FrE_d hFE)) hE38 (fun f v m2 ho => ?_) (fun z => ?_)
    · unfold fluR at ho
      rw [hr] at ho
      cases hfl : flEnt l m' with
      | error f1 =>
        rw [hfl] at hO
        have ho' : f = f1 := by
          simp only [hfl] at ho
          exact ho
        rw [ho', hO.1]
      | ok m2 =>
        rw [hfl] at hO
        simp only [hfl] at ho
        rw [ho.1, hO.1]
    · cases hfl : flEnt l m' with
      | error f1 =>
        rw [hfl] at hO
        have h1 := hO.1
        have h2 := hO.2.1
        omega
      | ok m2 =>
        rw [hfl] at hO
        refine ⟨m2, hO.2.1, hO.2.2, fun f v m3 ho => ?_⟩
        unfold fluR at ho
        rw [hr] at ho
        simp only [hfl] at ho
        exact ho.2
theorem r_sentence (h : CI σ m mi hi) (hT : TP σ t e f0) (htb : ∀ j, 0 ≤ t j ∧ t j ≤ 255) (heb : 0 ≤ e ∧ e ≤ 400) (hS : SR σ) (hd : 10 ≤ d) : Eb g ad d mX10_sentence 1 6 [.ref (ad 0)] σ (XR σ m mi t hi (senR t e m)) := by
  have hk2 := h.isd
  have hkn := h.kn
  have hne : rv σ 0 2 ≠ rv σ 0 1 := by omega
  refine EbS rfl pl_X10 rfl rfl (bX10_sentence_0 hS ⟨hk2, h.isk, ?_⟩)
  refine Cl.vo (k_copy (d := d - 1) hk2 h.isk hne h.rk h.gm hS (by omega)) (by omega) (fun s3 hS3 h3 => ?_)
  have r3 : rv s3 0 2 = rv σ 0 2 := by rw [h3.2.1]
  have t38 : ia s3 38 = t := by
    rw [h3.2.ia 38 (fun z => by unfold Kcl at z; omega)]
    exact hT.1
  have t1 : sc s3 37 1 = e := by
    rw [h3.2.sc 37 1 (fun z => by unfold Kcl at z; omega)]
    exact hT.2.1
  rw [r3]
  refine ⟨hk2, ?_⟩
  have hrow := c_readRow (g := g) (ad := ad) (d := d - 1) (new := true) (most := 6) hk2 h3.1 h.gm t38 htb t1 heb (by omega) hS3 (by omega)
  have hrow' : Eb g ad (d - 1) mX6_readRow 0 0 [.ref (ad 37), .ref (ad (rv σ 0 2)), vi 1, vi 6] s3 (Kv fun s => CX t e (rv σ 0 2) true s (rowP t e true 6 m) (fun l => sc s 37 11 = (l.length : Int) ∧ (l.length : Int) ≤ 6 ∧ hl (ia s 45) 0 (l.map cw)) ∧ Fz (Dk true (rv σ 0 2)) s3 s) := hrow
  refine Cl.vo hrow' (by omega) (fun s5 hS5 h5 => ?_)
  have hF5 := cp_rd h h3.2 h5.2
  have r5 := (rd_bad h hF5.1).2.2.2
  rw [r5]
  refine ⟨hk2, ?_⟩
  have fin : ∀ (s7 : SG), SR s7 → Fr (Dcl (rv σ 0 2)) (setR σ 37 16 (rv s5 37 16)) s7 → ia s7 38 = t → (∀ f v m', senR t e m f v m' → f = sc s7 37 2) → (sc s7 37 2 = -1 → ∃ m2, RK s7 (rv σ 0 2) m2 ∧ GM m2 ∧ ∀ f v m', senR t e m f v m' → v = m2 3 ∧ m' = m2) → Cl g ad d mX10_checkText 1 6 [.ref (ad 0)] (setS s7 37 1 0) (Kx (Kv fun s8 => Cl g ad d mX10_keepDraft 0 0 [.ref (ad 0)] s8 (Kv fun s9 => isK (rv s9 0 1) ∧ (iR (sc s9 (rv s9 0 1) 13) → SR s9 → XR σ m mi t hi (senR t e m) (.inl (some (vi (sc s9 (rv s9 0 1) 13)))) s9))) (fun E s8 => SR s8 → XR σ m mi t hi (senR t e m) (.inr E) s8)) := fun s7 hS7 hF7 e38 hO1 hO2 => by
    refine rd_end h hS7 hF7 e38 hO1 (by omega) (fun hf => ?_) XR_q
    obtain ⟨m2, hR2, hG2, hO⟩ := hO2 hf
    refine rd_kp h hF7 e38 hf hS7 (by omega) (fun hS9 hTP hCf hCI hr1 => ?_)
    have hc := hCI m2 hR2 hG2
    refine ⟨hc.isk, ?_⟩
    rw [hc.rk.n]
    refine fun i1 i2 => Or.inl ⟨_, rfl, i1, i2, fun f v m' ho => ?_, hTP, hCf⟩
    have h1 := hO f v m' ho
    rw [h1.1, h1.2]
    exact ⟨(hO1 f v m' ho).trans hf, rfl, hc⟩
  have e38 : ia s5 38 = t := hF5.2.trans hT.1
  have hX := h5.1
  cases hp : pWs t e true 6 (skp t e 0) m with
  | error f' =>
    have hr : rowP t e true 6 m = Except.error f' := by
      unfold rowP PR.bind
      rw [hp]
    rw [hr] at hX
    obtain ⟨⟨mc, hcb⟩, h0⟩ := hX
    have hfa := hcb.fa
    refine EV.k (c_enterSentence_bad (d := d - 1) hk2 (by omega) hS5 (by omega)) (by omega) (fun _ => ?_)
    refine fin s5 hS5 hF5.1 e38 (fun f v m' ho => ?_) (fun z => by omega)
    unfold senR at ho
    rw [hp] at ho
    have ho' : f = f' := ho
    omega
  | ok a =>
    obtain ⟨l, p, m'⟩ := a
    have hok := pWs_ok h.gm (scn_le heb.1).2 (by omega) hp
    have hp0 : 0 ≤ skp t e 0 := (scn_le heb.1).1
    have hpb := hok.2.2.2
    by_cases c : p < e
    · have hr : rowP t e true 6 m = Except.error p := by
        unfold rowP PR.bind
        rw [hp]
        exact if_pos c
      rw [hr] at hX
      obtain ⟨⟨mc, hcb⟩, h0⟩ := hX
      have hfa := hcb.fa
      refine EV.k (c_enterSentence_bad (d := d - 1) hk2 (by omega) hS5 (by omega)) (by omega) (fun _ => ?_)
      refine fin s5 hS5 hF5.1 e38 (fun f v m2 ho => ?_) (fun z => by omega)
      unfold senR at ho
      rw [hp] at ho
      have ho' := ho.1 c
      omega
    · have hr : rowP t e true 6 m = Except.ok (l, p, m') := by
        unfold rowP PR.bind
        rw [hp]
        exact if_neg c
      rw [hr] at hX
      obtain ⟨hcp, hl1, hl2, hl3⟩ := hX
      have hww : ∀ w ∈ l, 0 ≤ w ∧ w < m' 0 := fun w hw => by
        rcases hok.2.2.1 w hw with z | z
        · exact z
        · exact absurd z.1 (by decide)
      have ecw : l.map cw = l := by
        rw [List.map_congr_left (g := id) (fun w hw => by
          have := hww w hw
          show cw w = w
          unfold cw
          rw [if_neg (by omega)]), List.map_id]
      rw [ecw] at hl3
      refine Cl.vo (c_enterSentence (d := d - 1) hk2 hcp.1.rk hcp.1.gm hcp.1.fa hl1 hl2 hl3 hS5 (by omega)) (by omega) (fun s7 hS7 h7 => ?_)
      obtain ⟨hR7, hFE⟩ := h7
      have hE38 : ia s7 38 = t := by
        rw [hFE.ia 38 (fun z => by unfold Kcl at z; omega)]
        exact e38
      have hE2 : sc s7 37 2 = -1 := by
        rw [hFE.sc 37 2 (fun z => by unfold Kcl at z; omega)]
        exact hcp.1.fa
      have hsame : ∀ f v m2, senR t e m f v m2 → f = -1 ∧ v = l.length ∧ m2 = sentM m' l := fun f v m2 ho => by
        unfold senR at ho
        rw [hp] at ho
        exact ho.2 c
      refine fin s7 hS7 (hF5.1.trans (hFE.mono (fun c hc => Or.inr hc))) hE38 (fun f v m2 ho => ?_) (fun _ => ⟨sentM m' l, hR7, GM.sent hcp.1.gm hl2 hww, fun f v m2 ho => ?_⟩)
      · rw [(hsame f v m2 ho).1, hE2]
      · have := hsame f v m2 ho
        have e3 : sentM m' l 3 = (l.length : Int) := if_pos rfl
        exact ⟨by rw [e3]; exact this.2.1, this.2.2⟩
def XL (σ : SG) (m mi t : Int → Int) (hi : Int) (O : Int → Int → Int → (Int → Int) → Prop) : AO → SG → Prop := Kx (Ki fun r s => (∀ f u v m', O f u v m' → f = -1 ∧ u = 0 ∧ v = r ∧ CI s m' mi hi) ∧ TP s t 0 (-1) ∧ Cf σ s) (fun E s => (E = xIA ∧ (∀ f u v m', O f u v m' → ¬ f = -1 ∧ TP s t 0 f) ∧ CI s m mi hi ∧ Cf σ s) ∨ (E = xUO ∧ (∀ f u v m', O f u v m' → f = -1 ∧ ¬ u = 0) ∧ TP s t 0 (-1) ∧ CI s m mi hi ∧ Cf σ s))
theorem r_learn (h : CI σ m mi hi) (hT : TP σ t e f0) (htb : ∀ j, 0 ≤ t j ∧ t j ≤ 255) (heb : 0 ≤ e ∧ e ≤ 400) (hS : SR σ) (hd : 10 ≤ d) : Eb g ad d mX10_learn 2 12 [.ref (ad 0)] σ (XL σ m mi t hi (lrnR t e m)) := by
  have hk2 := h.isd
  have hkn := h.kn
  have hne : rv σ 0 2 ≠ rv σ 0 1 := by omega
  have hq : ∀ E s, SR s → E = xIA → (∀ f v m', (∃ u, lrnR t e m f u v m') → ¬ f = -1 ∧ TP s t 0 f) → CI s m mi hi → Cf σ s → XL σ m mi t hi (lrnR t e m) (.inr E) s := fun E s i2 he h1 h2 h3 => Or.inr ⟨E, rfl, i2, Or.inl ⟨he, fun f u v m' ho => h1 f v m' ⟨u, ho⟩, h2, h3⟩⟩
  refine EbS rfl pl_X10 rfl rfl (bX10_learn_0 hS ⟨hk2, h.isk, ?_⟩)
  refine Cl.vo (k_copy (d := d - 1) hk2 h.isk hne h.rk h.gm hS (by omega)) (by omega) (fun s3 hS3 h3 => ?_)
  have r3 : rv s3 0 2 = rv σ 0 2 := by rw [h3.2.1]
  have t38 : ia s3 38 = t := by
    rw [h3.2.ia 38 (fun z => by unfold Kcl at z; omega)]
    exact hT.1
  have t1 : sc s3 37 1 = e := by
    rw [h3.2.sc 37 1 (fun z => by unfold Kcl at z; omega)]
    exact hT.2.1
  rw [r3]
  refine ⟨hk2, ?_⟩
  refine Cl.vo (c_readLesson (d := d - 1) hk2 h3.1 h.gm t38 htb t1 heb hS3 (by omega)) (by omega) (fun s5 hS5 h5 => ?_)
  have hF5 := cp_rd h h3.2 h5.2
  have r5 := (rd_bad h hF5.1).2.2.2
  have e38 : ia s5 38 = t := hF5.2.trans hT.1
  have hX := h5.1
  refine EI.k (c_isRight (d := d - 1) hS5) (by omega) (fun _ _ => ?_)
  cases hr : lessP t e (skp t e 0) m with
  | error f' =>
    rw [hr] at hX
    obtain ⟨⟨mc, hcb⟩, h0⟩ := hX
    have hfa := hcb.fa
    rw [show bi (sc s5 37 2 = -1) = 0 from bi_f (by omega)]
    refine ⟨fun _ => ?_, fun z => absurd rfl z⟩
    refine rd_end (O := fun f v m' => ∃ u, lrnR t e m f u v m') h hS5 hF5.1 e38 (fun f v m' ho => ?_) (by omega) (fun hf => by omega) hq
    obtain ⟨u, ho⟩ := ho
    unfold lrnR at ho
    rw [hr] at ho
    have ho' : f = f' := ho
    omega
  | ok a =>
    obtain ⟨x, p, m'⟩ := a
    rw [hr] at hX
    obtain ⟨hcp, hls⟩ := hX
    have hok := lessP_ok h.gm (scn_le heb.1).2 hr
    have hin := lessP_in hr
    rw [show bi (sc s5 37 2 = -1) = 1 from bi_t hcp.1.fa, r5]
    refine ⟨fun z => absurd z (by decide), fun _ => ⟨hk2, ?_⟩⟩
    refine Cl.i (c_enter (d := d - 1) (G := fun u v m2 => lrRel x (qI x.1.length x.2.1.length 0) 0 m' u m2 v) (x := x) (z := m' 0) hk2 ⟨hls, Fr.refl s5, m', hcp.1.rk, hcp.1.gm, rfl⟩ hin hok.2.2.1 hok.2.2.2 (fun u v m2 hg => ⟨m', hg, hcp.1.rk, hcp.1.gm, rfl⟩) hS5 (by omega)) (by omega) (fun r s10 hr10 hS10 h10 => ?_)
    obtain ⟨hLe, hm1, hn1⟩ := h10
    have hFE := hLe.fr
    have hF10 : Fr (Dcl (rv σ 0 2)) (setR σ 37 16 (rv s5 37 16)) s10 := hF5.1.trans (hFE.mono (fun c hc => Or.inr hc))
    have hE38 : ia s10 38 = t := by
      rw [hFE.ia 38 (fun z => by unfold Kcl at z; omega)]
      exact e38
    have hE2 : sc s10 37 2 = -1 := by
      rw [hFE.sc 37 2 (fun z => by unfold Kcl at z; omega)]
      exact hcp.1.fa
    have hout : ∀ f u v m2, lrnR t e m f u v m2 → f = -1 ∧ lrRel x (qI x.1.length x.2.1.length 0) 0 m' u m2 v := fun f u v m2 ho => by
      unfold lrnR at ho
      rw [hr] at ho
      exact ho
    refine rd_end (O := fun f v m' => ∃ u, lrnR t e m f u v m') h hS10 hF10 hE38 (fun f v m2 ho => ?_) (by omega) (fun hf => ⟨fun c => ?_, fun c => ⟨by omega, ?_⟩⟩) hq
    · obtain ⟨u, ho⟩ := ho
      rw [(hout f u v m2 ho).1, hE2]
    · refine rd_kp h hF10 hE38 hE2 hS10 (by omega) (fun hS9 hTP hCf hCI _ i1 i2 => Or.inl ⟨r, rfl, i1, i2, fun f u v m2 ho => ?_, hTP, hCf⟩)
      have h1 := hout f u v m2 ho
      obtain ⟨mi', hrel, hRi, hGi, _⟩ := (hn1 c).2.2 u v m2 h1.2
      have hrel' : u = 0 ∧ m2 = mi' ∧ v = 0 + r := hrel
      refine ⟨h1.1, hrel'.1, by omega, ?_⟩
      rw [hrel'.2.1]
      exact hCI mi' hRi hGi
    · have hF8 : Fr (Dcl (rv σ 0 2)) (setR σ 37 16 (rv s5 37 16)) (setS s10 37 1 0) := hF10.S (Or.inl ⟨by omega, by omega⟩)
      have hb := rd_bad h hF8
      refine fun i2 => Or.inr ⟨_, rfl, i2, Or.inr ⟨rfl, fun f u v m2 ho => ?_, ⟨hE38, by simp (config := {decide := true}) only [sc_S, ia_S, la_S, rv_S, sc_I, rv_I, la_I, ia_I, sc_L, rv_L, ia_L, la_L, sc_A, rv_A, la_A, ia_A, sc_B, rv_B, ia_B, la_B, sc_R, ia_R, la_R, rv_R, ia_w, la_w, rv_w, sc_w, if_true, if_false], by simp (config := {decide := true}) only [sc_S, ia_S, la_S, rv_S, sc_I, rv_I, la_I, ia_I, sc_L, rv_L, ia_L, la_L, sc_A, rv_A, la_A, ia_A, sc_B, rv_B, ia_B, la_B, sc_R, ia_R, la_R, rv_R, ia_w, la_w, rv_w, sc_w, if_true, if_false]; exact hE2⟩, hb.1, hb.2.1⟩⟩
      have h1 := hout f u v m2 ho
      have := hm1 c u v m2 h1.2
      exact ⟨h1.1, by omega⟩
end TXs
