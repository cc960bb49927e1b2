section AGR
variable {g : AG} {ad : Nat → Nat} {d : Nat} {σ : SG} {m : Int → Int}
/-- how many of the first n ways there are -/
def mnF (m : Int → Int) : Nat → Int → Int
  | 0, k => k
  | j + 1, k => if wayK m k = none then k else mnF m j (k + 1)
def mnM (m : Int → Int) (n : Int) : Int := mnF m n.toNat 0
theorem mnF_b : ∀ (j : Nat) (k : Int), k ≤ mnF m j k ∧ mnF m j k ≤ k + j
  | 0, k => by rw [mnF]; omega
  | j + 1, k => by
    rw [mnF]
    have := mnF_b j (k + 1)
    split <;> omega
def edX (m : Int → Int) (i j : Int) : Int := edT (fun a => (tx m i).getD a 0) (fun b => (tx m j).getD b 0) (tx m i).length (tx m j).length
def sumE (m : Int → Int) (M i : Int) : Int := (ir 0 M).foldl (fun s j => s + edX m i j) 0
def agV (m : Int → Int) (n : Int) : Int := ((ir 0 (mnM m n)).foldl (fun (b : Int × Int) i => if b.1 = -1 ∨ sumE m (mnM m n) i < b.2 then (i, sumE m (mnM m n) i) else b) (-1, 0)).1
def agreedT (n : Int) : Int := if 1 ≤ n ∧ n ≤ 10 then 0 else 1
theorem edX_b (hW : WF m) (i j : Int) : 0 ≤ edX m i j ∧ edX m i j ≤ 36 := by
  have h1 := tx_len hW i
  have h2 := tx_len hW j
  have := edT_b (A := fun a => (tx m i).getD a 0) (B := fun b => (tx m j).getD b 0) (tx m i).length (tx m j).length
  unfold edX
  omega
theorem sumE_b (hW : WF m) {M : Int} (hM : 0 ≤ M) (i : Int) : 0 ≤ sumE m M i ∧ sumE m M i ≤ 36 * M := by
  have key : ∀ (n : Nat) (j s : Int), j + n = M → 0 ≤ s → 0 ≤ (ir j M).foldl (fun s j => s + edX m i j) s ∧ (ir j M).foldl (fun s j => s + edX m i j) s ≤ s + 36 * n := by
    intro n
    induction n with
    | zero => intro j s hj hs; rw [ir_nil (by omega)]; exact ⟨hs, by show s ≤ s + 36 * ((0 : Nat) : Int); omega⟩
    | succ n ih =>
      intro j s hj hs
      rw [ir_cons (by omega), List.foldl_cons]
      have h1 := edX_b hW i j
      have := ih (j + 1) (s + edX m i j) (by omega) (by omega)
      omega
  have := key M.toNat 0 0 (by omega) (by omega)
  unfold sumE
  omega
/-- the texts of the first k ways lie there -/
def TX (m : Int → Int) (s : SG) (k : Int) : Prop := ∀ i, 0 ≤ i → i < k → ia s 130 i = (tx m i).length ∧ ∀ a : Nat, a < (tx m i).length → ia s 129 (18 * i + a) = (tx m i).getD a 0
theorem e_agreed {x1 : Int} (em : ia σ 103 = m) (hW : WF m) (hS : SR σ) (hI : LI σ) (h1 : iR x1) (hd : 21 ≤ d) : EQ g ad d mX11_agreed [.ref (ad 102), vi x1] σ (if agreedT x1 = 0 then agV m x1 else 0) (agreedT x1) := by
  have i0 : iR 0 := iR_lit rfl
  have im : iR (-1) := iR_lit rfl
  have hS0 : SR (setS σ 102 0 0) := SR_setS hS i0
  refine EbS rfl pl_X11 rfl rfl (bX11_agreed_0 h1 hS ?_)
  refine EI.k (by apply e_isIn <;> (first | with_reducible assumption | with_reducible exact iR_of (by omega) (by omega) | omega | with_reducible (exact bi_01) | assumption)) (by omega) (fun _ _ => ?_)
  refine bi_zn (fun c1 => ?_) (fun c1 => ?_)
  · have hT : agreedT x1 = 0 := if_pos c1
    rw [hT, if_pos rfl]
    simp (config := {decide := true}) only [sc_S, ia_S, la_S, rv_S, sc_I, rv_I, la_I, ia_I, sc_L, rv_L, ia_L, la_L, sc_A, rv_A, la_A, ia_A, sc_B, rv_B, ia_B, la_B, sc_R, ia_R, la_R, rv_R, ia_w, la_w, rv_w, sc_w, if_true, if_false]
    refine ⟨fun _ _ _ _ => ?_, fun q => q.elim⟩
    have hMb := mnF_b (m := m) x1.toNat 0
    have hMb' : 0 ≤ mnM m x1 ∧ mnM m x1 ≤ 10 := by unfold mnM; omega
    -- behind the texts
    have tail : ∀ τ, SR τ → LI τ → Fq σ τ → sc τ 102 0 = 0 → TX m τ (mnM m x1) → aX11_agreed_100 g ad d (Ki fun r s => r = agV m x1 ∧ sc s 102 0 = 0 ∧ Fq σ s ∧ LI s) 0 0 τ x1 (mnM m x1) (-1) 0 0 := by
      intro τ hSt hLt hFt e0 hTX
      have iM : iR (mnM m x1) := iR_of (by omega) (by omega)
      refine up_loop (P := fun i => ∀ τ b, SR τ → LI τ → Fq σ τ → sc τ 102 0 = 0 → TX m τ (mnM m x1) → (-1 ≤ b.1 ∧ b.1 < 10) → (0 ≤ b.2 ∧ b.2 ≤ 360) → ((ir i (mnM m x1)).foldl (fun (b : Int × Int) i => if b.1 = -1 ∨ sumE m (mnM m x1) i < b.2 then (i, sumE m (mnM m x1) i) else b) b).1 = agV m x1 → aX11_agreed_100 g ad d (Ki fun r s => r = agV m x1 ∧ sc s 102 0 = 0 ∧ Fq σ s ∧ LI s) 0 0 τ x1 (mnM m x1) b.1 b.2 i) (hi := mnM m x1) 0 hMb'.1 ?_ ?_ τ (-1, 0) hSt hLt hFt e0 hTX (by decide) (by decide) rfl
      · intro τ b hSt hLt hFt e0 hTX hb1 hb2 hv
        rw [ir_nil (Int.le_refl _)] at hv
        exact bX11_agreed_100 h1 iM (iR_of (by omega) (by omega)) (iR_of (by omega) (by omega)) iM hSt ⟨fun _ => re_i ⟨hv, e0, hFt, hLt⟩, fun q => absurd (Int.le_refl _) q⟩
      · intro i hi0 hi1 ih τ b hSt hLt hFt e0 hTX hb1 hb2 hv
        have ii : iR i := iR_of (by omega) (by omega)
        have ib1 : iR b.1 := iR_of (by omega) (by omega)
        have ib2 : iR b.2 := iR_of (by omega) (by omega)
        rw [ir_cons hi1, List.foldl_cons] at hv
        refine bX11_agreed_100 h1 iM ib1 ib2 ii hSt ⟨fun q => absurd q (by omega), fun _ => ?_⟩
        intros
        have hsb := sumE_b hW hMb'.1 i
        refine up_loop (P := fun j => ∀ τ s, SR τ → LI τ → Fq σ τ → sc τ 102 0 = 0 → TX m τ (mnM m x1) → (0 ≤ s ∧ s ≤ 36 * j) → (ir j (mnM m x1)).foldl (fun s j => s + edX m i j) s = sumE m (mnM m x1) i → aX11_agreed_112 g ad d (Ki fun r s => r = agV m x1 ∧ sc s 102 0 = 0 ∧ Fq σ s ∧ LI s) 0 0 τ x1 (mnM m x1) b.1 b.2 i s j) (hi := mnM m x1) 0 hMb'.1 ?_ ?_ τ 0 hSt hLt hFt e0 hTX (by omega) rfl
        · intro τ s hSt hLt hFt e0 hTX hs hv2
          rw [ir_nil (Int.le_refl _)] at hv2
          have hv2' : s = sumE m (mnM m x1) i := hv2
          refine bX11_agreed_112 h1 iM ib1 ib2 ii (iR_of (by omega) (by omega)) iM hSt ⟨fun _ => ⟨fun c => ⟨iR_of (by omega) (by omega), fun _ _ _ _ _ _ => ?_⟩, fun c => ⟨fun c2 => ⟨iR_of (by omega) (by omega), fun _ _ _ _ _ _ => ?_⟩, fun c2 => ⟨iR_of (by omega) (by omega), fun _ _ _ _ _ _ => ?_⟩⟩⟩, fun q => absurd (Int.le_refl _) q⟩
          · rw [if_pos (Or.inl c)] at hv
            rw [hv2']
            exact ih τ (i, sumE m (mnM m x1) i) hSt hLt hFt e0 hTX ⟨by show -1 ≤ i; omega, by show i < 10; omega⟩ ⟨by show 0 ≤ sumE m (mnM m x1) i; omega, by show sumE m (mnM m x1) i ≤ 360; omega⟩ hv
          · rw [if_pos (Or.inr (by omega))] at hv
            rw [hv2']
            exact ih τ (i, sumE m (mnM m x1) i) hSt hLt hFt e0 hTX ⟨by show -1 ≤ i; omega, by show i < 10; omega⟩ ⟨by show 0 ≤ sumE m (mnM m x1) i; omega, by show sumE m (mnM m x1) i ≤ 360; omega⟩ hv
          · rw [if_neg (by omega)] at hv
            exact ih τ b hSt hLt hFt e0 hTX hb1 hb2 hv
        · intro j hj0 hj1 ihj τ s hSt hLt hFt e0 hTX hs hv2
          rw [ir_cons hj1, List.foldl_cons] at hv2
          have hti := hTX i hi0 hi1
          have htj := hTX j hj0 hj1
          have hli := tx_len hW i
          have hlj := tx_len hW j
          have heb := edX_b hW i j
          refine bX11_agreed_112 h1 iM ib1 ib2 ii (iR_of (by omega) (by omega)) (iR_of (by omega) (by omega)) hSt ⟨fun q => absurd q (by omega), fun _ => ⟨⟨by omega, by omega⟩, ⟨by omega, by omega⟩, ?_⟩⟩
          rw [hti.1, htj.1]
          refine Cl.i (e_apart (d := d - 1) (A := fun a => (tx m i).getD a 0) (B := fun b => (tx m j).getD b 0) aI129 aI129 ⟨by decide, by decide⟩ (fun a ha => hti.2 a (by omega)) (fun a ha => htj.2 a (by omega)) (by omega) (by omega) (by omega) (by omega) ⟨by omega, by omega⟩ hSt (by omega)) (by omega) (fun r2 s2 hr2 hS2 h2 => ?_)
          have er : r2 = edX m i j := by
            rw [h2.1]
            rfl
          refine ⟨iR_of (by omega) (by omega), iR_of (by omega) (by omega), fun _ _ _ _ _ _ _ _ => ?_⟩
          refine ihj s2 _ hS2 (StkF_LI h2.2 rfl rfl hLt) (hFt.trans (h2.2.q rfl rfl)) (by rw [h2.2.s 0 rfl]; exact e0) ?_ (by omega) (by rw [er]; exact hv2)
          intro a ha0 ha1
          rw [h2.2.a 129 rfl, h2.2.a 130 rfl]
          exact hTX a ha0 ha1
    -- the texts
    have key : ∀ (j : Nat) (k : Int) (τ : SG), 0 ≤ k → k + j = x1 → SR τ → LI τ → Fq σ τ → sc τ 102 0 = 0 → TX m τ k → mnF m j k = mnM m x1 → aX11_agreed_30 g ad d (Ki fun r s => r = agV m x1 ∧ sc s 102 0 = 0 ∧ Fq σ s ∧ LI s) 0 0 τ x1 k := by
      intro j
      induction j with
      | zero =>
        intro k τ hk0 hk hSt hLt hFt e0 hTX hv
        have hv' : k = mnM m x1 := hv
        refine bX11_agreed_30 h1 (iR_of (by omega) (by omega)) hSt ⟨fun _ _ _ _ _ _ _ => ?_, fun q => absurd (by omega) q⟩
        rw [hv'] at hTX ⊢
        exact tail τ hSt hLt hFt e0 hTX
      | succ j ih =>
        intro k τ hk0 hk hSt hLt hFt e0 hTX hv
        have ik : iR k := iR_of (by omega) (by omega)
        have et : ia τ 103 = m := hFt.mm.trans em
        rw [mnF] at hv
        refine bX11_agreed_30 h1 ik hSt ⟨fun q => absurd q (by omega), fun _ => ?_⟩
        refine Cl.i (w_isWay (m := m) (d := d - 1) et hW hSt hLt hk0 (by omega) (by omega)) (by omega) (fun r s hr hS' h => ?_)
        obtain ⟨hh, hL, hF⟩ := h
        have hFs : Fq σ s := hFt.trans (hF.q rfl rfl)
        have e0s : sc s 102 0 = 0 := by rw [hF.s 0 rfl]; exact e0
        have hTXs : TX m s k := by
          intro a ha0 ha1
          rw [hF.a 129 rfl, hF.a 130 rfl]
          exact hTX a ha0 ha1
        rcases hh with ⟨w, e1, rfl, e3⟩ | ⟨e1, rfl⟩
        · rw [if_neg (by rw [e1]; simp)] at hv
          have htx : tx m k = txt m w.2 := by unfold tx; rw [e1]
          have hlen := tx_len hW k
          refine ⟨fun q => absurd q (by decide), fun _ => ⟨⟨hk0, by omega⟩, fun _ _ _ hS3 => ?_⟩⟩
          have e32 : sc s 102 32 = (tx m k).length := by rw [e3.2.2.2.1, htx]
          rw [e32] at hS3 ⊢
          refine up_loop (P := fun a => ∀ τ, SR τ → LI τ → Fq σ τ → sc τ 102 0 = 0 → sc τ 102 32 = (tx m k).length → ia τ 116 = ia s 116 → TX m τ k → ia τ 130 k = (tx m k).length → (∀ b : Nat, (b : Int) < a → ia τ 129 (18 * k + b) = (tx m k).getD b 0) → aX11_agreed_55 g ad d (Ki fun r s => r = agV m x1 ∧ sc s 102 0 = 0 ∧ Fq σ s ∧ LI s) 0 0 τ x1 k a) (hi := ((tx m k).length : Int)) 0 (by omega) ?_ ?_ _ hS3 ?_ ?_ (by simp (config := {decide := true}) only [sc_S, ia_S, la_S, rv_S, sc_I, rv_I, la_I, ia_I, sc_L, rv_L, ia_L, la_L, sc_A, rv_A, la_A, ia_A, sc_B, rv_B, ia_B, la_B, sc_R, ia_R, la_R, rv_R, ia_w, la_w, rv_w, sc_w, if_true, if_false]; exact e0s) (by simp (config := {decide := true}) only [sc_S, ia_S, la_S, rv_S, sc_I, rv_I, la_I, ia_I, sc_L, rv_L, ia_L, la_L, sc_A, rv_A, la_A, ia_A, sc_B, rv_B, ia_B, la_B, sc_R, ia_R, la_R, rv_R, ia_w, la_w, rv_w, sc_w, if_true, if_false]; exact e32) (by simp (config := {decide := true}) only [sc_S, ia_S, la_S, rv_S, sc_I, rv_I, la_I, ia_I, sc_L, rv_L, ia_L, la_L, sc_A, rv_A, la_A, ia_A, sc_B, rv_B, ia_B, la_B, sc_R, ia_R, la_R, rv_R, ia_w, la_w, rv_w, sc_w, if_true, if_false]) ?_ (by simp (config := {decide := true}) only [sc_S, ia_S, la_S, rv_S, sc_I, rv_I, la_I, ia_I, sc_L, rv_L, ia_L, la_L, sc_A, rv_A, la_A, ia_A, sc_B, rv_B, ia_B, la_B, sc_R, ia_R, la_R, rv_R, ia_w, la_w, rv_w, sc_w, if_true, if_false]; exact up_at) (fun b hb => by omega)
          · intro τ hSt hLt hFt e0 e32 e116 hTX e130 hrow
            refine bX11_agreed_55 h1 ik (iR_of (by omega) (by omega)) hSt ⟨fun _ => ⟨iR_of (by omega) (by omega), fun _ _ _ => ?_⟩, fun q => absurd (by rw [e32]; omega) q⟩
            refine ih (k + 1) τ (by omega) (by omega) hSt hLt hFt e0 (fun a ha0 ha1 => ?_) hv
            by_cases e : a = k
            · rw [e]
              exact ⟨e130, fun b hb => hrow b (by omega)⟩
            · exact hTX a ha0 (by omega)
          · intro a ha0 ha1 iha τ hSt hLt hFt e0 e32 e116 hTX e130 hrow
            refine bX11_agreed_55 h1 ik (iR_of (by omega) (by omega)) hSt ⟨fun q => absurd q (by rw [e32]; omega), fun _ => ⟨⟨ha0, by omega⟩, ⟨by omega, by omega⟩, iR_of (by omega) (by omega), fun _ _ _ hS4 => ?_⟩⟩
            have eva : ia τ 116 a = (tx m k).getD a.toNat 0 := by
              rw [e116, htx]
              have := hl_getD e3.2.2.2.2 (i := a.toNat) (by rw [← htx]; omega)
              rw [show (0 : Int) + ((a.toNat : Nat) : Int) = a by omega] at this
              exact this
            rw [eva] at hS4 ⊢
            have hFa : Fm [129] [] τ (setI τ 129 (18 * k + a) ((tx m k).getD a.toNat 0)) := (Fm.refl τ).setI (by decide)
            refine iha _ hS4 (StkF_LI hFa rfl rfl hLt) (hFt.trans (hFa.q rfl rfl)) (by simp (config := {decide := true}) only [sc_S, ia_S, la_S, rv_S, sc_I, rv_I, la_I, ia_I, sc_L, rv_L, ia_L, la_L, sc_A, rv_A, la_A, ia_A, sc_B, rv_B, ia_B, la_B, sc_R, ia_R, la_R, rv_R, ia_w, la_w, rv_w, sc_w, if_true, if_false]; exact e0) (by simp (config := {decide := true}) only [sc_S, ia_S, la_S, rv_S, sc_I, rv_I, la_I, ia_I, sc_L, rv_L, ia_L, la_L, sc_A, rv_A, la_A, ia_A, sc_B, rv_B, ia_B, la_B, sc_R, ia_R, la_R, rv_R, ia_w, la_w, rv_w, sc_w, if_true, if_false]; exact e32) (by simp (config := {decide := true}) only [sc_S, ia_S, la_S, rv_S, sc_I, rv_I, la_I, ia_I, sc_L, rv_L, ia_L, la_L, sc_A, rv_A, la_A, ia_A, sc_B, rv_B, ia_B, la_B, sc_R, ia_R, la_R, rv_R, ia_w, la_w, rv_w, sc_w, if_true, if_false]; exact e116) (fun b hb0 hb1 => ?_) (by simp (config := {decide := true}) only [sc_S, ia_S, la_S, rv_S, sc_I, rv_I, la_I, ia_I, sc_L, rv_L, ia_L, la_L, sc_A, rv_A, la_A, ia_A, sc_B, rv_B, ia_B, la_B, sc_R, ia_R, la_R, rv_R, ia_w, la_w, rv_w, sc_w, if_true, if_false]; exact e130) (fun b hb => ?_)
            · have := hTX b hb0 hb1
              simp (config := {decide := true}) only [sc_S, ia_S, la_S, rv_S, sc_I, rv_I, la_I, ia_I, sc_L, rv_L, ia_L, la_L, sc_A, rv_A, la_A, ia_A, sc_B, rv_B, ia_B, la_B, sc_R, ia_R, la_R, rv_R, ia_w, la_w, rv_w, sc_w, if_true, if_false]
              refine ⟨this.1, fun c hc => ?_⟩
              have hlb := tx_len hW b
              rw [up_ne (by omega)]
              exact this.2 c hc
            · simp (config := {decide := true}) only [sc_S, ia_S, la_S, rv_S, sc_I, rv_I, la_I, ia_I, sc_L, rv_L, ia_L, la_L, sc_A, rv_A, la_A, ia_A, sc_B, rv_B, ia_B, la_B, sc_R, ia_R, la_R, rv_R, ia_w, la_w, rv_w, sc_w, if_true, if_false]
              by_cases e : (b : Int) = a
              · rw [e, up_at]
                congr 1
                omega
              · rw [up_ne (by omega)]
                exact hrow b (by omega)
          · exact StkF_LI (A := [130]) (K := []) ((Fm.refl s).setI (by decide)) rfl rfl hL
          · exact hFs.trans (((Fm.refl s).setI (A := [130]) (K := []) (by decide)).q rfl rfl)
          · intro b hb0 hb1
            have := hTXs b hb0 hb1
            simp (config := {decide := true}) only [sc_S, ia_S, la_S, rv_S, sc_I, rv_I, la_I, ia_I, sc_L, rv_L, ia_L, la_L, sc_A, rv_A, la_A, ia_A, sc_B, rv_B, ia_B, la_B, sc_R, ia_R, la_R, rv_R, ia_w, la_w, rv_w, sc_w, if_true, if_false]
            rw [up_ne (by omega)]
            exact this
        · rw [if_pos e1] at hv
          refine ⟨fun _ _ _ _ _ _ _ => ?_, fun q => absurd rfl q⟩
          rw [hv] at hTXs ⊢
          exact tail s hS' hL hFs e0s hTXs
    exact key x1.toNat 0 _ (by omega) (by omega) hS0 (LI_S (by decide) hI) ((Fq.refl σ).S rfl) (by simp (config := {decide := true}) only [sc_S, ia_S, la_S, rv_S, sc_I, rv_I, la_I, ia_I, sc_L, rv_L, ia_L, la_L, sc_A, rv_A, la_A, ia_A, sc_B, rv_B, ia_B, la_B, sc_R, ia_R, la_R, rv_R, ia_w, la_w, rv_w, sc_w, if_true, if_false]) (fun a ha0 ha1 => by omega) rfl
  · have hT : agreedT x1 = 1 := if_neg c1
    simp (config := {decide := true}) only [sc_S, ia_S, la_S, rv_S, sc_I, rv_I, la_I, ia_I, sc_L, rv_L, ia_L, la_L, sc_A, rv_A, la_A, ia_A, sc_B, rv_B, ia_B, la_B, sc_R, ia_R, la_R, rv_R, ia_w, la_w, rv_w, sc_w, if_true, if_false]
    rw [if_neg (by omega)]
    exact ⟨fun q => absurd q (by decide), fun _ => EQ_no hT rfl hI⟩
/-! WIDTH -/
def wdB (m : Int → Int) (n : Int) : Bool := decide (¬ fkM (up m 8 n) (stkM (up m 8 n) n).S = -1 ∧ fcM (up m 8 n) (stkM (up m 8 n) n).S = exM m)
def widthV (m : Int → Int) : Int := sea (wdB m) 40 1
theorem e_width (em : ia σ 103 = m) (hW : WF m) (hS : SR σ) (hI : LI σ) (hd : 12 ≤ d) : EQ g ad d mX11_width [.ref (ad 102)] σ (widthV m) 0 := by
  have im : iR (-1) := iR_lit rfl
  have h8 := hW.1.2.2.2.2.2.2.2.2
  have i8 : iR (m 8) := iR_of (by omega) (by omega)
  refine EbS rfl pl_X11 rfl rfl (bX11_width_0 hS ?_)
  refine Cl.i (w_exact0 (m := m) (d := d - 1) (by simp (config := {decide := true}) only [sc_S, ia_S, la_S, rv_S, sc_I, rv_I, la_I, ia_I, sc_L, rv_L, ia_L, la_L, sc_A, rv_A, la_A, ia_A, sc_B, rv_B, ia_B, la_B, sc_R, ia_R, la_R, rv_R, ia_w, la_w, rv_w, sc_w, if_true, if_false]; exact em) hW (SR_setS hS (iR_lit rfl)) (LI_S (by decide) hI) (by omega)) (by omega) (fun r1 s1 hr1 hS1 h1 => ?_)
  obtain ⟨e1, hL1, hF1⟩ := h1
  have es1 : ia s1 103 = m := by rw [hF1.a 103 rfl]; exact em
  have hq1 : Fq σ s1 := ((Fq.refl σ).S rfl).trans (hF1.q rfl rfl)
  have h01 : sc s1 102 0 = 0 := by rw [hF1.s 0 rfl]; simp (config := {decide := true}) only [sc_S, ia_S, la_S, rv_S, sc_I, rv_I, la_I, ia_I, sc_L, rv_L, ia_L, la_L, sc_A, rv_A, la_A, ia_A, sc_B, rv_B, ia_B, la_B, sc_R, ia_R, la_R, rv_R, ia_w, la_w, rv_w, sc_w, if_true, if_false]
  rw [es1]
  intros
  -- the frame, but for m's width
  have back : ∀ τ n, Fm [103, 117, 118, 119, 120, 121, 122, 123, 124, 125, 126] [22, 23, 43, 44, 45, 46, 47] s1 τ → ia τ 103 = up m 8 n → Fq σ (setI τ 103 8 (m 8)) ∧ LI (setI τ 103 8 (m 8)) ∧ sc (setI τ 103 8 (m 8)) 102 0 = 0 := by
    intro τ n hF et
    have e103 : ia (setI τ 103 8 (m 8)) 103 = m := by
      simp (config := {decide := true}) only [sc_S, ia_S, la_S, rv_S, sc_I, rv_I, la_I, ia_I, sc_L, rv_L, ia_L, la_L, sc_A, rv_A, la_A, ia_A, sc_B, rv_B, ia_B, la_B, sc_R, ia_R, la_R, rv_R, ia_w, la_w, rv_w, sc_w, if_true, if_false]
      rw [et, up_up, up_self]
    refine ⟨hq1.trans ⟨hF.1, fun c _ => by rw [la_I, hF.2.1], fun c hc => ?_, fun c k hk => ?_⟩, ?_, ?_⟩
    · by_cases e : c = 103
      · rw [e, e103, es1]
      · rw [ia_I, if_neg e]
        exact hF.2.2.1 c (by simp; omega)
    · rw [sc_I]
      exact hF.2.2.2 c k (by simp; omega)
    · intro q
      rw [sc_I, hF.s 20 rfl] at q
      rw [e103]
      have := hL1 q
      rw [es1] at this
      simp (config := {decide := true}) only [sc_S, ia_S, la_S, rv_S, sc_I, rv_I, la_I, ia_I, sc_L, rv_L, ia_L, la_L, sc_A, rv_A, la_A, ia_A, sc_B, rv_B, ia_B, la_B, sc_R, ia_R, la_R, rv_R, ia_w, la_w, rv_w, sc_w, if_true, if_false]
      rw [hF.a 112 rfl]
      exact this
    · rw [sc_I, hF.s 0 rfl]; exact h01
  have key : ∀ (j : Nat) (n : Int) (τ : SG) (u : Int), 1 ≤ n → n + j = 41 → SR τ → Fm [103, 117, 118, 119, 120, 121, 122, 123, 124, 125, 126] [22, 23, 43, 44, 45, 46, 47] s1 τ → ia τ 103 = up m 8 u → sea (wdB m) j n = widthV m → aX11_width_23 g ad d (Ki fun r s => r = widthV m ∧ sc s 102 0 = 0 ∧ Fq σ s ∧ LI s) 0 0 τ r1 (m 8) (-1) n := by
    intro j
    induction j with
    | zero =>
      intro n τ u hn0 hn hSt hF et hv
      have hb := back τ u hF et
      exact bX11_width_23 hr1 i8 im (iR_of (by omega) (by omega)) hSt ⟨fun _ => re_i ⟨hv, hb.2.2, hb.1, hb.2.1⟩, fun q => absurd (by omega) q⟩
    | succ j ih =>
      intro n τ u hn0 hn hSt hF et hv
      have in_ : iR n := iR_of (by omega) (by omega)
      have hWn : WF (up m 8 n) := WF_up hW (by omega) (by omega)
      have e8 : (up m 8 n) 8 = n := up_at
      rw [sea] at hv
      refine bX11_width_23 hr1 i8 im in_ hSt ⟨fun q => absurd q (by omega), fun _ => ⟨fun q => absurd rfl q, fun _ => ?_⟩⟩
      refine Cl.vo (e_stacks (d := d - 1) (m := up m 8 n) (by simp (config := {decide := true}) only [sc_S, ia_S, la_S, rv_S, sc_I, rv_I, la_I, ia_I, sc_L, rv_L, ia_L, la_L, sc_A, rv_A, la_A, ia_A, sc_B, rv_B, ia_B, la_B, sc_R, ia_R, la_R, rv_R, ia_w, la_w, rv_w, sc_w, if_true, if_false]; rw [et, up_up]) hWn (SR_setI hSt in_) (by omega)) (by omega) (fun s hS' h => ?_)
      obtain ⟨hP, hFs⟩ := h
      have hF2 : Fm [103, 117, 118, 119, 120, 121, 122, 123, 124, 125, 126] [22, 23, 43, 44, 45, 46, 47] s1 s := (hF.setI (by decide)).trans (hFs.mono (by decide) (by decide))
      have ets : ia s 103 = up m 8 n := by rw [hFs.a 103 rfl]; simp (config := {decide := true}) only [sc_S, ia_S, la_S, rv_S, sc_I, rv_I, la_I, ia_I, sc_L, rv_L, ia_L, la_L, sc_A, rv_A, la_A, ia_A, sc_B, rv_B, ia_B, la_B, sc_R, ia_R, la_R, rv_R, ia_w, la_w, rv_w, sc_w, if_true, if_false]; rw [et, up_up]
      have hfk := hP.fk
      have hfc := hP.fc
      rw [e8] at hfk hfc
      have yes : wdB m n = true → SR s → iR (n + 1) → aX11_width_23 g ad d (Ki fun r s => r = widthV m ∧ sc s 102 0 = 0 ∧ Fq σ s ∧ LI s) 0 0 s r1 (m 8) n (n + 1) := by
        intro hy hSs in1
        rw [if_pos hy] at hv
        have hb := back s n hF2 ets
        exact bX11_width_23 hr1 i8 in_ in1 hSs ⟨fun _ => re_i ⟨hv, hb.2.2, hb.1, hb.2.1⟩, fun _ => ⟨fun _ => re_i ⟨hv, hb.2.2, hb.1, hb.2.1⟩, fun q => absurd q (by omega)⟩⟩
      have no : ¬ wdB m n = true → aX11_width_23 g ad d (Ki fun r s => r = widthV m ∧ sc s 102 0 = 0 ∧ Fq σ s ∧ LI s) 0 0 s r1 (m 8) (-1) (n + 1) := by
        intro hy
        rw [if_neg hy] at hv
        exact ih (n + 1) s n (by omega) (by omega) hS' hF2 ets hv
      rw [hfk, hfc]
      refine ⟨fun c => ⟨iR_of (by omega) (by omega), fun _ _ _ _ _ => no ?_⟩, fun c => ⟨fun c2 => ⟨iR_of (by omega) (by omega), fun _ _ _ _ _ => no ?_⟩, fun c2 => ⟨iR_of (by omega) (by omega), fun _ _ _ i1 hSs => yes ?_ hSs i1⟩⟩⟩
      · unfold wdB
        rw [decide_eq_true_eq]
        exact fun q => q.1 c
      · unfold wdB
        rw [decide_eq_true_eq]
        exact fun q => c2 (q.2.trans e1.symm)
      · unfold wdB
        rw [decide_eq_true_eq]
        exact ⟨c, c2.trans e1⟩
  exact key 40 1 s1 (m 8) (by omega) (by omega) hS1 (Fm.refl s1) (by rw [es1, up_self]) rfl
end AGR
