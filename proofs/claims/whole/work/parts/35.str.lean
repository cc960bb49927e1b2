section SRr
variable {g : AG} {ad : Nat → Nat} {d : Nat} {σ : SG} {m : Int → Int}
/-- a step's cost wherever it stands: with fluency inside its target -/
def ownC (m : Int → Int) (a o : Int) : Int := (ir 1 (tgN m o)).foldl (fun c k => c + aft m (tgt m o a (k - 1)) (tgt m o a k)) (if o = 99 then m 5 else of_ m o 8)
theorem ownC_b (hW : WF m) {a o : Int} (ho : isO m o) : 0 ≤ ownC m a o ∧ ownC m a o ≤ 297 := by
  have h5 := hW.1.2.2.2.2.2.1
  have ht := tgN_b hW.2.1 ho
  have h0 : 0 ≤ (if o = 99 then m 5 else of_ m o 8) ∧ (if o = 99 then m 5 else of_ m o 8) ≤ 99 := by
    split
    · exact h5
    · rcases ho with h | h
      · contradiction
      · exact (hW.2.1 o h.1 h.2).2.2.1
  have key : ∀ (n : Nat) (k : Int) (c : Int), k + n = tgN m o → 0 ≤ c → 0 ≤ (ir k (tgN m o)).foldl (fun c k => c + aft m (tgt m o a (k - 1)) (tgt m o a k)) c ∧ (ir k (tgN m o)).foldl (fun c k => c + aft m (tgt m o a (k - 1)) (tgt m o a k)) c ≤ c + 99 * n := by
    intro n
    induction n with
    | zero => intro k c hk hc; rw [ir_nil (by omega)]; exact ⟨hc, by show c ≤ c + 99 * ((0 : Nat) : Int); omega⟩
    | succ n ih =>
      intro k c hk hc
      rw [ir_cons (by omega), List.foldl_cons]
      have ha := aft_b hW.1 hW.2.2.1 (tgt m o a (k - 1)) (tgt m o a k)
      have := ih (k + 1) (c + aft m (tgt m o a (k - 1)) (tgt m o a k)) (by omega) (by omega)
      omega
  unfold ownC
  by_cases c : tgN m o ≤ 1
  · rw [ir_nil c]
    exact ⟨h0.1, by show (if o = 99 then m 5 else of_ m o 8) ≤ 297; omega⟩
  · have := key (tgN m o - 1).toNat 1 _ (by omega) h0.1
    omega
/-- the least of the options that cover just a stretch -/
def optF (m : Int → Int) (a b : Int) : Int := (ir 0 (m 1) ++ [99]).foldl (fun best o => if (isOpt m o a && decide (cov m o = b - a + 1)) = true then min best (ownC m a o) else best) 1000000000
theorem optF_b (hW : WF m) (a b : Int) : 0 ≤ optF m a b ∧ optF m a b ≤ 1000000000 := by
  unfold optF
  refine foldl_inv (I := fun x : Int => 0 ≤ x ∧ x ≤ 1000000000) _ _ (fun x o ho hx => ?_) (by omega)
  have hoO : isO m o := by
    rcases List.mem_append.mp ho with h | h
    · exact Or.inr (mem_ir.mp h)
    · exact Or.inl (List.mem_singleton.mp h)
  have := ownC_b hW (a := a) hoO
  split
  · omega
  · exact hx
theorem e_optionFor {x1 x2 : Int} (em : ia σ 103 = m) (hW : WF m) (hS : SR σ) (h1 : 0 ≤ x1 ∧ x1 ≤ x2) (h2 : x2 < m 3) (hd : 4 ≤ d) : EI g ad d mX11_optionFor [.ref (ad 102), vi x1, vi x2] σ (optF m x1 x2) σ := by
  have hW0 := hW.1
  have hm1 := hW.1.2.1
  have h3 := hW.1.2.2.2.1
  have i1 : iR x1 := iR_of (by omega) (by omega)
  have i2 : iR x2 := iR_of (by omega) (by omega)
  refine EbS rfl pl_X11 rfl rfl (bX11_optionFor_0 i1 i2 hS ?_)
  refine EI.k (by apply (w_next em) <;> (first | with_reducible assumption | with_reducible exact iR_of (by omega) (by omega) | omega | with_reducible (exact bi_01) | assumption)) (by omega) (fun _ _ => ?_)
  intros
  refine o_loop (m := m) hW0 (B := fun o => ∀ b, (0 ≤ b ∧ b ≤ 1000000000) → (ol m o).foldl (fun best o => if (isOpt m o x1 && decide (cov m o = x2 - x1 + 1)) = true then min best (ownC m x1 o) else best) b = optF m x1 x2 → aX11_optionFor_11 g ad d (Ki fun r s => r = optF m x1 x2 ∧ s = σ) 0 0 σ x1 x2 b o) ?_ ?_ 1000000000 (by omega) (by rw [ol_first hW0]; rfl)
  · intro b hb hv
    exact bX11_optionFor_11 i1 i2 (iR_of (by omega) (by omega)) (iR_lit rfl) hS ⟨fun _ => re_i ⟨by rw [← hv, ol_100]; rfl, rfl⟩, fun q => absurd (by decide) q⟩
  · intro o ho ih b hb hv
    have hob := isO_b hW0 ho
    have io : iR o := iR_of (by omega) (by omega)
    have ib : iR b := iR_of (by omega) (by omega)
    have htn := tgN_b hW.2.1 ho
    have how := ownC_b hW (a := x1) ho
    rw [ol_cons hW0 ho, List.foldl_cons] at hv
    refine bX11_optionFor_11 i1 i2 ib io hS ⟨fun q => absurd q (by omega), fun _ => ?_⟩
    refine EI.k (by apply (w_isOption em) <;> (first | with_reducible assumption | with_reducible exact iR_of (by omega) (by omega) | omega | with_reducible (exact bi_01) | assumption)) (by omega) (fun _ _ => ?_)
    refine bi_zn (fun c1 => ?_) (fun c1 => ?_)
    · refine EI.k (by apply (w_covers em) <;> (first | with_reducible assumption | with_reducible exact iR_of (by omega) (by omega) | omega | with_reducible (exact bi_01) | assumption)) (by omega) (fun _ _ => ?_)
      refine ⟨iR_of (by omega) (by omega), fun c2 => ?_, fun c2 => ?_⟩
      · rw [if_pos (by rw [c1, decide_eq_true c2]; rfl)] at hv
        -- the inner loop
        have inner : ∀ c, c = (if o = 99 then m 5 else of_ m o 8) → (0 ≤ c ∧ c ≤ 99) → aX11_optionFor_74 g ad d (Ki fun r s => r = optF m x1 x2 ∧ s = σ) 0 0 σ x1 x2 b o c 1 := by
          intro c hc hcb
          have lp : ∀ k, 1 ≤ k → k ≤ 4 → ∀ c, (0 ≤ c ∧ c ≤ 99 * k) → (ir k (tgN m o)).foldl (fun c k => c + aft m (tgt m o x1 (k - 1)) (tgt m o x1 k)) c = ownC m x1 o → aX11_optionFor_74 g ad d (Ki fun r s => r = optF m x1 x2 ∧ s = σ) 0 0 σ x1 x2 b o c k := by
            intro k hk1 hk4
            refine up_loop (P := fun k => ∀ c, (0 ≤ c ∧ c ≤ 99 * k) → (ir k (tgN m o)).foldl (fun c k => c + aft m (tgt m o x1 (k - 1)) (tgt m o x1 k)) c = ownC m x1 o → aX11_optionFor_74 g ad d (Ki fun r s => r = optF m x1 x2 ∧ s = σ) 0 0 σ x1 x2 b o c k) (hi := 4) k hk4 ?_ ?_
            · intro c hc hv2
              rw [ir_nil (by omega)] at hv2
              have hv2' : c = ownC m x1 o := hv2
              refine bX11_optionFor_74 i1 i2 ib io (iR_of (by omega) (by omega)) (iR_lit rfl) hS ?_
              refine EI.k (by apply (w_targetMany em) <;> (first | with_reducible assumption | with_reducible exact iR_of (by omega) (by omega) | omega | with_reducible (exact bi_01) | assumption)) (by omega) (fun _ _ => ?_)
              refine ⟨fun _ => ?_, fun q => absurd (by omega) q⟩
              refine EI.k (by apply e_lesser <;> (first | with_reducible assumption | with_reducible exact iR_of (by omega) (by omega) | omega | with_reducible (exact bi_01) | assumption)) (by omega) (fun _ _ => ?_)
              refine EI.k (by apply (w_next em) <;> (first | with_reducible assumption | with_reducible exact iR_of (by omega) (by omega) | omega | with_reducible (exact bi_01) | assumption)) (by omega) (fun _ _ => ?_)
              intros
              rw [hv2']
              exact ih _ (by omega) hv
            · intro j hj0 hj1 ihj c hc hv2
              refine bX11_optionFor_74 i1 i2 ib io (iR_of (by omega) (by omega)) (iR_of (by omega) (by omega)) hS ?_
              refine EI.k (by apply (w_targetMany em) <;> (first | with_reducible assumption | with_reducible exact iR_of (by omega) (by omega) | omega | with_reducible (exact bi_01) | assumption)) (by omega) (fun _ _ => ?_)
              refine ⟨fun cc => ?_, fun cc => ?_⟩
              · rw [ir_nil cc] at hv2
                have hv2' : c = ownC m x1 o := hv2
                refine EI.k (by apply e_lesser <;> (first | with_reducible assumption | with_reducible exact iR_of (by omega) (by omega) | omega | with_reducible (exact bi_01) | assumption)) (by omega) (fun _ _ => ?_)
                refine EI.k (by apply (w_next em) <;> (first | with_reducible assumption | with_reducible exact iR_of (by omega) (by omega) | omega | with_reducible (exact bi_01) | assumption)) (by omega) (fun _ _ => ?_)
                intros
                rw [hv2']
                exact ih _ (by omega) hv
              · rw [ir_cons (by omega), List.foldl_cons] at hv2
                refine EI.k (by apply (w_targetOf em) <;> (first | with_reducible assumption | with_reducible exact iR_of (by omega) (by omega) | omega | with_reducible (exact bi_01) | assumption)) (by omega) (fun _ _ => ?_)
                refine EI.k (by apply (w_targetOf em) <;> (first | with_reducible assumption | with_reducible exact iR_of (by omega) (by omega) | omega | with_reducible (exact bi_01) | assumption)) (by omega) (fun _ _ => ?_)
                have hab := aft_b hW.1 hW.2.2.1 (tgt m o x1 (j - 1)) (tgt m o x1 j)
                refine EI.k (by apply (w_after0 em) <;> (first | with_reducible assumption | with_reducible exact iR_of (by omega) (by omega) | omega | with_reducible (exact bi_01) | assumption)) (by omega) (fun _ _ => ?_)
                refine ⟨iR_of (by omega) (by omega), iR_of (by omega) (by omega), fun _ _ _ _ _ _ _ => ?_⟩
                exact ihj _ (by omega) hv2
          exact lp 1 (by omega) (by omega) c (by omega) (by rw [hc]; rfl)
        refine ⟨fun c3 => ?_, fun c3 => ?_⟩
        · have ho' : 0 ≤ o ∧ o < m 1 := by
            rcases ho with h | h
            · exact absurd h c3
            · exact h
          have hc8 := (hW.2.1 o ho'.1 ho'.2).2.2.1
          refine EI.k (by apply (w_of em) <;> (first | with_reducible assumption | with_reducible exact iR_of (by omega) (by omega) | omega | with_reducible (exact bi_01) | assumption)) (by omega) (fun _ _ => ?_)
          intros
          exact inner _ (by rw [if_neg c3]) hc8
        · rw [em]
          intros
          exact inner _ (by rw [if_pos c3]) hW.1.2.2.2.2.2.1
      · rw [if_neg (by rw [decide_eq_false c2]; simp)] at hv
        refine EI.k (by apply (w_next em) <;> (first | with_reducible assumption | with_reducible exact iR_of (by omega) (by omega) | omega | with_reducible (exact bi_01) | assumption)) (by omega) (fun _ _ => ?_)
        intros
        exact ih b hb hv
    · rw [if_neg (by simp [c1])] at hv
      refine EI.k (by apply (w_next em) <;> (first | with_reducible assumption | with_reducible exact iR_of (by omega) (by omega) | omega | with_reducible (exact bi_01) | assumption)) (by omega) (fun _ _ => ?_)
      intros
      exact ih b hb hv
/-! STRETCHES -/
def strG (m : Int → Int) (f : Int × Int → Int) (x : Int × Int) : Int := (ir x.1 x.2).foldl (fun best c => min best (f (x.1, c) + f (c + 1, x.2))) (optF m x.1 x.2)
def strM (m : Int → Int) (a b : Int) : Int := fxM 0 (strG m) (fun x => (x.2 - x.1).toNat) (a, b)
theorem strM_eq {a b : Int} (h : a ≤ b) : strM m a b = (ir a b).foldl (fun best c => min best (strM m a c + strM m (c + 1) b)) (optF m a b) := by
  refine fxM_eq (F := strG m) (bot := 0) (D := fun x => x.1 ≤ x.2) (μ := fun x => (x.2 - x.1).toNat) (fun x hx f f' hf => ?_) (x := (a, b)) h
  unfold strG
  refine foldl_cong _ _ (fun best c hc => ?_)
  have hc' := mem_ir.mp hc
  rw [hf (x.1, c) (by show x.1 ≤ c; omega) (by show (c - x.1).toNat < (x.2 - x.1).toNat; omega), hf (c + 1, x.2) (by show c + 1 ≤ x.2; omega) (by show (x.2 - (c + 1)).toNat < (x.2 - x.1).toNat; omega)]
theorem mfold_le {v : Int → Int} : ∀ (l : List Int) (b : Int), l.foldl (fun b c => min b (v c)) b ≤ b ∧ ∀ c ∈ l, l.foldl (fun b c => min b (v c)) b ≤ v c
  | [], b => ⟨Int.le_refl _, fun c hc => by cases hc⟩
  | q :: l, b => by
    rw [List.foldl_cons]
    have h := mfold_le (v := v) l (min b (v q))
    refine ⟨by omega, fun c hc => ?_⟩
    rcases List.mem_cons.mp hc with rfl | hc
    · omega
    · exact h.2 c hc
theorem mfold_ge {v : Int → Int} {z : Int} : ∀ (l : List Int) (b : Int), z ≤ b → (∀ c ∈ l, z ≤ v c) → z ≤ l.foldl (fun b c => min b (v c)) b
  | [], b, h, _ => h
  | q :: l, b, h, h2 => by
    rw [List.foldl_cons]
    have := h2 q (List.mem_cons_self ..)
    exact mfold_ge l _ (by omega) (fun c hc => h2 c (List.mem_cons_of_mem _ hc))
theorem optF_1 (hW : WF m) {a : Int} (h : 0 ≤ a ∧ a < m 3) : optF m a a ≤ 297 := by
  have hl := fmin_le (c := fun o => isOpt m o a && decide (cov m o = a - a + 1)) (v := fun o => ownC m a o) (ir 0 (m 1) ++ [99]) 1000000000
  have := hl.2 99 (List.mem_append.mpr (Or.inr (List.mem_singleton.mpr rfl))) (by
    have e1 : isOpt m 99 a = true := by unfold isOpt; rw [if_pos rfl]; exact decide_eq_true h
    have e2 : cov m 99 = 1 := if_pos rfl
    rw [e1, e2]
    simp)
  have hb := ownC_b hW (a := a) (o := 99) (Or.inl rfl)
  unfold optF
  omega
theorem strM_b (hW : WF m) : ∀ (n : Nat) (a b : Int), 0 ≤ a → a ≤ b → b < m 3 → (b - a).toNat ≤ n → 0 ≤ strM m a b ∧ strM m a b ≤ 297 * (b - a + 1) := by
  intro n
  induction n with
  | zero =>
    intro a b h0 h1 h2 hn
    have e : a = b := by omega
    subst e
    rw [strM_eq (Int.le_refl _), ir_nil (Int.le_refl _)]
    have h3 := optF_1 hW (a := a) ⟨h0, h2⟩
    have h4 := optF_b hW a a
    exact ⟨h4.1, by show optF m a a ≤ 297 * (a - a + 1); omega⟩
  | succ n ih =>
    intro a b h0 h1 h2 hn
    by_cases c : a = b
    · subst c
      rw [strM_eq (Int.le_refl _), ir_nil (Int.le_refl _)]
      have h3 := optF_1 hW (a := a) ⟨h0, h2⟩
      have h4 := optF_b hW a a
      exact ⟨h4.1, by show optF m a a ≤ 297 * (a - a + 1); omega⟩
    · rw [strM_eq h1]
      refine ⟨mfold_ge _ _ (optF_b hW a b).1 (fun x hx => ?_), ?_⟩
      · have hx' := mem_ir.mp hx
        have q1 := ih a x h0 (by omega) (by omega) (by omega)
        have q2 := ih (x + 1) b (by omega) (by omega) h2 (by omega)
        omega
      · have q1 := ih a a h0 (by omega) (by omega) (by omega)
        have q2 := ih (a + 1) b (by omega) (by omega) h2 (by omega)
        have := (mfold_le (v := fun c => strM m a c + strM m (c + 1) b) (ir a b) (optF m a b)).2 a (mem_ir.mpr ⟨Int.le_refl _, by omega⟩)
        omega
/-- the table is right for all stretches shorter than n, and of length n ahead of a -/
def StT (m t : Int → Int) : Prop := ∀ a b, 0 ≤ a → a ≤ b → b < m 3 → t (6 * a + b) = strM m a b
theorem e_laysStretches (em : ia σ 103 = m) (hW : WF m) (hS : SR σ) (hd : 5 ≤ d) : Eb g ad d mX11_laysStretches 0 0 [.ref (ad 102)] σ (Kv fun s => StT m (ia s 117) ∧ Fm [117] [] σ s) := by
  have h3 := hW.1.2.2.2.1
  refine EbS rfl pl_X11 rfl rfl (bX11_laysStretches_0 hS ?_)
  intros
  refine up_loop (P := fun n => ∀ τ, SR τ → Fm [117] [] σ τ → (∀ a b, 0 ≤ a → a ≤ b → b < m 3 → b - a + 1 < n → ia τ 117 (6 * a + b) = strM m a b) → aX11_laysStretches_2 g ad d (Kv fun s => StT m (ia s 117) ∧ Fm [117] [] σ s) 0 0 τ n) (hi := m 3 + 1) 1 (by omega) ?_ ?_ σ hS (Fm.refl σ) (fun a b _ _ _ _ => by omega)
  · intro τ hSt hF hall
    have et : ia τ 103 = m := (hF.a 103 rfl).trans em
    exact bX11_laysStretches_2 (iR_of (by omega) (by omega)) hSt ⟨fun _ => re_v ⟨fun a b h0 h1 h2 => hall a b h0 h1 h2 (by omega), hF⟩, fun q => absurd (by rw [et]; omega) q⟩
  · intro n hn0 hn1 ih τ hSt hF hall
    have et : ia τ 103 = m := (hF.a 103 rfl).trans em
    have in_ : iR n := iR_of (by omega) (by omega)
    refine bX11_laysStretches_2 in_ hSt ⟨fun q => absurd q (by rw [et]; omega), fun _ _ _ _ => ?_⟩
    refine up_loop (P := fun a => ∀ τ, SR τ → Fm [117] [] σ τ → (∀ a' b, 0 ≤ a' → a' ≤ b → b < m 3 → (b - a' + 1 < n ∨ b - a' + 1 = n ∧ a' < a) → ia τ 117 (6 * a' + b) = strM m a' b) → aX11_laysStretches_14 g ad d (Kv fun s => StT m (ia s 117) ∧ Fm [117] [] σ s) 0 0 τ n a) (hi := m 3 - n + 1) 0 (by omega) ?_ ?_ τ hSt hF (fun a b h0 h1 h2 h3 => hall a b h0 h1 h2 (by omega))
    · intro τ hSt hF hall
      have et : ia τ 103 = m := (hF.a 103 rfl).trans em
      refine bX11_laysStretches_14 in_ (iR_of (by omega) (by omega)) hSt ⟨iR_of (by omega) (by omega), fun _ => ⟨iR_of (by omega) (by omega), fun _ _ => ?_⟩, fun q => absurd (by rw [et]; omega) q⟩
      exact ih τ hSt hF (fun a b h0 h1 h2 h3 => hall a b h0 h1 h2 (by omega))
    · intro a ha0 ha1 iha τ hSt hF hall
      have et : ia τ 103 = m := (hF.a 103 rfl).trans em
      have ia_ : iR a := iR_of (by omega) (by omega)
      have ib : iR (a + n - 1) := iR_of (by omega) (by omega)
      refine bX11_laysStretches_14 in_ ia_ hSt ⟨iR_of (by omega) (by omega), fun q => absurd q (by rw [et]; omega), fun _ => ?_⟩
      refine EI.k (by apply (e_optionFor et hW) <;> (first | with_reducible assumption | with_reducible exact iR_of (by omega) (by omega) | omega | with_reducible (exact bi_01) | assumption)) (by omega) (fun _ _ => ?_)
      refine ⟨ib, fun _ _ _ _ _ _ => ?_⟩
      have hob := optF_b hW a (a + n - 1)
      refine up_loop (P := fun c => ∀ best, (0 ≤ best ∧ best ≤ 1000000000) → (ir c (a + n - 1)).foldl (fun best c => min best (strM m a c + strM m (c + 1) (a + n - 1))) best = strM m a (a + n - 1) → aX11_laysStretches_43 g ad d (Kv fun s => StT m (ia s 117) ∧ Fm [117] [] σ s) 0 0 τ n a (a + n - 1) best c) (hi := a + n - 1) a (by omega) ?_ ?_ _ hob (strM_eq (by omega)).symm
      · intro best hb hv
        rw [ir_nil (Int.le_refl _)] at hv
        have hv' : best = strM m a (a + n - 1) := hv
        refine bX11_laysStretches_43 in_ ia_ ib (iR_of (by omega) (by omega)) ib hSt ⟨fun _ => ⟨⟨by omega, by omega⟩, iR_of (by omega) (by omega), fun _ _ hS' => ?_⟩, fun q => absurd (Int.le_refl _) q⟩
        refine iha _ hS' (hF.setI (by decide)) (fun a' b h0 h1 h2 h3' => ?_)
        simp (config := {decide := true}) only [sc_S, ia_S, la_S, rv_S, sc_I, rv_I, la_I, ia_I, sc_L, rv_L, ia_L, la_L, sc_A, rv_A, la_A, ia_A, sc_B, rv_B, ia_B, la_B, sc_R, ia_R, la_R, rv_R, ia_w, la_w, rv_w, sc_w, if_true, if_false]
        by_cases e : 6 * a' + b = 6 * a + (a + n - 1)
        · have e1 : a' = a := by omega
          have e2 : b = a + n - 1 := by omega
          subst e1; subst e2
          rw [up_at]
          exact hv'
        · rw [up_ne e]
          exact hall a' b h0 h1 h2 (by omega)
      · intro c hc0 hc1 ihc best hb hv
        rw [ir_cons hc1, List.foldl_cons] at hv
        have e1 := hall a c ha0 hc0 (by omega) (by omega)
        have e2 := hall (c + 1) (a + n - 1) (by omega) (by omega) (by omega) (by omega)
        have b1 := strM_b hW 6 a c ha0 hc0 (by omega) (by omega)
        have b2 := strM_b hW 6 (c + 1) (a + n - 1) (by omega) (by omega) (by omega) (by omega)
        refine bX11_laysStretches_43 in_ ia_ ib (iR_of (by omega) (by omega)) (iR_of (by omega) (by omega)) hSt ⟨fun q => absurd q (by omega), fun _ => ⟨⟨by omega, by omega⟩, ⟨by omega, by omega⟩, ?_⟩⟩
        rw [e1, e2]
        refine EI.k (by apply e_lesser <;> (first | with_reducible assumption | with_reducible exact iR_of (by omega) (by omega) | omega | with_reducible (exact bi_01) | assumption)) (by omega) (fun _ _ => ?_)
        refine ⟨iR_of (by omega) (by omega), fun _ _ _ _ _ _ => ?_⟩
        exact ihc _ (by omega) hv
def stretchT (m : Int → Int) (a b : Int) : Int := if 0 ≤ a ∧ a < m 3 then if 0 ≤ b ∧ b < m 3 then if a ≤ b then 0 else 2 else 1 else 1
def stretchV (m : Int → Int) (a b : Int) : Int := if stretchT m a b = 0 then strM m a b else 0
theorem e_stretch {x1 x2 : Int} (em : ia σ 103 = m) (hW : WF m) (hS : SR σ) (hI : LI σ) (h1 : iR x1) (h2 : iR x2) (hd : 6 ≤ d) : EQ g ad d mX11_stretch [.ref (ad 102), vi x1, vi x2] σ (stretchV m x1 x2) (stretchT m x1 x2) := by
  have hW0 := hW.1
  have h3 := hW.1.2.2.2.1
  have hS0 : SR (setS σ 102 0 0) := SR_setS hS (iR_lit rfl)
  refine EbS rfl pl_X11 rfl rfl (bX11_stretch_0 h1 h2 hS ?_)
  refine EI.k (by apply (w_isPlace em) <;> (first | with_reducible assumption | with_reducible exact iR_of (by omega) (by omega) | omega | with_reducible (exact bi_01) | assumption)) (by omega) (fun _ _ => ?_)
  refine bi_zn (fun c1 => ?_) (fun c1 => ?_)
  · refine EI.k (by apply (w_isPlace em) <;> (first | with_reducible assumption | with_reducible exact iR_of (by omega) (by omega) | omega | with_reducible (exact bi_01) | assumption)) (by omega) (fun _ _ => ?_)
    refine bi_nz (fun c2 => ⟨fun c3 => ?_, fun c3 => ?_⟩) (fun c2 => ?_)
    · have hT : stretchT m x1 x2 = 0 := by unfold stretchT; rw [if_pos c1, if_pos c2, if_pos c3]
      simp (config := {decide := true}) only [sc_S, ia_S, la_S, rv_S, sc_I, rv_I, la_I, ia_I, sc_L, rv_L, ia_L, la_L, sc_A, rv_A, la_A, ia_A, sc_B, rv_B, ia_B, la_B, sc_R, ia_R, la_R, rv_R, ia_w, la_w, rv_w, sc_w, if_true, if_false]
      refine ⟨fun _ => ?_, fun q => q.elim⟩
      refine Cl.vo (e_laysStretches (d := d - 1) (m := m) (by simp (config := {decide := true}) only [sc_S, ia_S, la_S, rv_S, sc_I, rv_I, la_I, ia_I, sc_L, rv_L, ia_L, la_L, sc_A, rv_A, la_A, ia_A, sc_B, rv_B, ia_B, la_B, sc_R, ia_R, la_R, rv_R, ia_w, la_w, rv_w, sc_w, if_true, if_false]; exact em) hW hS0 (by omega)) (by omega) (fun s hS' h => ⟨⟨by omega, by omega⟩, re_i ⟨?_, ?_, ((Fq.refl σ).S rfl).trans (h.2.q rfl rfl), ?_⟩⟩)
      · unfold stretchV; rw [if_pos hT]
        exact h.1 x1 x2 c1.1 c3 c2.2
      · rw [hT, h.2.s 0 rfl]; simp (config := {decide := true}) only [sc_S, ia_S, la_S, rv_S, sc_I, rv_I, la_I, ia_I, sc_L, rv_L, ia_L, la_L, sc_A, rv_A, la_A, ia_A, sc_B, rv_B, ia_B, la_B, sc_R, ia_R, la_R, rv_R, ia_w, la_w, rv_w, sc_w, if_true, if_false]
      · intro q
        rw [h.2.s 20 rfl] at q
        simp (config := {decide := true}) only [sc_S, ia_S, la_S, rv_S, sc_I, rv_I, la_I, ia_I, sc_L, rv_L, ia_L, la_L, sc_A, rv_A, la_A, ia_A, sc_B, rv_B, ia_B, la_B, sc_R, ia_R, la_R, rv_R, ia_w, la_w, rv_w, sc_w, if_true, if_false] at q
        have := hI q
        rw [h.2.a 103 rfl, h.2.a 112 rfl]
        exact this
    · have hT : stretchT m x1 x2 = 2 := by unfold stretchT; rw [if_pos c1, if_pos c2, if_neg c3]
      simp (config := {decide := true}) only [sc_S, ia_S, la_S, rv_S, sc_I, rv_I, la_I, ia_I, sc_L, rv_L, ia_L, la_L, sc_A, rv_A, la_A, ia_A, sc_B, rv_B, ia_B, la_B, sc_R, ia_R, la_R, rv_R, ia_w, la_w, rv_w, sc_w, if_true, if_false]
      refine ⟨fun q => absurd q (by decide), fun _ => EQ_no hT ?_ hI⟩
      unfold stretchV; rw [hT]; rfl
    · have hT : stretchT m x1 x2 = 1 := by unfold stretchT; rw [if_pos c1, if_neg c2]
      simp (config := {decide := true}) only [sc_S, ia_S, la_S, rv_S, sc_I, rv_I, la_I, ia_I, sc_L, rv_L, ia_L, la_L, sc_A, rv_A, la_A, ia_A, sc_B, rv_B, ia_B, la_B, sc_R, ia_R, la_R, rv_R, ia_w, la_w, rv_w, sc_w, if_true, if_false]
      refine ⟨fun q => absurd q (by decide), fun _ => EQ_no hT ?_ hI⟩
      unfold stretchV; rw [hT]; rfl
  · have hT : stretchT m x1 x2 = 1 := by unfold stretchT; rw [if_neg c1]
    simp (config := {decide := true}) only [sc_S, ia_S, la_S, rv_S, sc_I, rv_I, la_I, ia_I, sc_L, rv_L, ia_L, la_L, sc_A, rv_A, la_A, ia_A, sc_B, rv_B, ia_B, la_B, sc_R, ia_R, la_R, rv_R, ia_w, la_w, rv_w, sc_w, if_true, if_false]
    refine ⟨fun q => absurd q (by decide), fun _ => EQ_no hT ?_ hI⟩
    unfold stretchV; rw [hT]; rfl
/-! AHEAD -/
def bitB (s k : Int) : Bool := decide (bAnd (bShr s k) 1 = 1)
theorem e_isOf {x0 x1 : Int} (h0 : iR x0) (h1 : iR x1) (hS : SR σ) : EI g ad d mX11_isOf [vi x0, vi x1] σ (bi (bitB x0 x1 = true)) σ := by
  refine EbS rfl pl_X11 rfl rfl (bX11_isOf_0 h0 h1 hS ⟨fun c => re_i ⟨(bi_f ?_).symm, rfl⟩, fun c => re_i ⟨(bi_t ?_).symm, rfl⟩⟩)
  · unfold bitB; simp [c]
  · unfold bitB; simp [c]
/-- the end of the run -/
def rnE (m : Int → Int) (s : Int) : Nat → Int → Int
  | 0, b => b
  | n + 1, b => if b + 1 < m 3 ∧ ¬ bitB s (b + 1) = true then rnE m s n (b + 1) else b
theorem rnE_b (s : Int) : ∀ (n : Nat) (b : Int), b < m 3 → b ≤ rnE m s n b ∧ rnE m s n b < m 3
  | 0, b, h => ⟨Int.le_refl _, h⟩
  | n + 1, b, h => by
    rw [rnE]
    split
    · rename_i c
      have := rnE_b s n (b + 1) c.1
      omega
    · exact ⟨Int.le_refl _, h⟩
def rnM (m : Int → Int) (s b : Int) : Int := rnE m s (m 3 - 1 - b).toNat b
theorem rnM_step {s b : Int} (h : b < m 3) : rnM m s b = if b + 1 < m 3 ∧ ¬ bitB s (b + 1) = true then rnM m s (b + 1) else b := by
  unfold rnM
  by_cases c : b + 1 < m 3
  · rw [show (m 3 - 1 - b).toNat = (m 3 - 1 - (b + 1)).toNat + 1 by omega, rnE]
  · rw [show (m 3 - 1 - b).toNat = 0 by omega, rnE, if_neg (fun q => c q.1)]
def ahF (m : Int → Int) (s : Int) : Nat → Int → Int
  | 0, _ => 0
  | n + 1, a => if m 3 ≤ a then 0 else if bitB s a = true then ahF m s n (a + 1) else strM m a (rnM m s a) + ahF m s n (rnM m s a + 1)
def ahM (m : Int → Int) (s : Int) : Int := ahF m s 7 0
theorem ahF_b (hW : WF m) (s : Int) : ∀ (n : Nat) (a : Int), 0 ≤ a → 0 ≤ ahF m s n a ∧ ahF m s n a ≤ 1782 * n := by
  have h3 := hW.1.2.2.2.1
  intro n
  induction n with
  | zero => intro a _; exact ⟨Int.le_refl _, by show (0 : Int) ≤ 1782 * ((0 : Nat) : Int); omega⟩
  | succ n ih =>
    intro a h0
    rw [ahF]
    by_cases c : m 3 ≤ a
    · rw [if_pos c]; omega
    · rw [if_neg c]
      by_cases c2 : bitB s a = true
      · rw [if_pos c2]
        have := ih (a + 1) (by omega)
        omega
      · rw [if_neg c2]
        have hr := rnE_b (m := m) s (m 3 - 1 - a).toNat a (by omega)
        have hr' : a ≤ rnM m s a ∧ rnM m s a < m 3 := hr
        have h1 := ih (rnM m s a + 1) (by omega)
        have h2 := strM_b hW 6 a (rnM m s a) h0 hr'.1 hr'.2 (by omega)
        omega
theorem ahM_b (hW : WF m) (s : Int) : 0 ≤ ahM m s ∧ ahM m s ≤ 12474 := by
  have := ahF_b hW s 7 0 (Int.le_refl _)
  unfold ahM
  omega
theorem e_aheadOf {x1 : Int} (em : ia σ 103 = m) (hW : WF m) (hS : SR σ) (hT : StT m (ia σ 117)) (h1 : iR x1) (hd : 1 ≤ d) : EI g ad d mX11_aheadOf [.ref (ad 102), vi x1] σ (ahM m x1) σ := by
  have h3 := hW.1.2.2.2.1
  refine EbS rfl pl_X11 rfl rfl (bX11_aheadOf_0 h1 hS ?_)
  intros
  have key : ∀ (n : Nat) (a sum : Int), 0 ≤ a → (a ≤ m 3 ∧ m 3 - a < n) → (0 ≤ sum ∧ sum ≤ 100000 - 1782 * n) → sum + ahF m x1 n a = ahM m x1 → aX11_aheadOf_4 g ad d (Ki fun r s => r = ahM m x1 ∧ s = σ) 0 0 σ x1 sum a := by
    intro n
    induction n with
    | zero => intro a sum h0 h; omega
    | succ n ih =>
      intro a sum ha0 ha hs hv
      have ia_ : iR a := iR_of (by omega) (by omega)
      have is_ : iR sum := iR_of (by omega) (by omega)
      rw [ahF] at hv
      by_cases c : m 3 ≤ a
      · rw [if_pos c] at hv
        exact bX11_aheadOf_4 h1 is_ ia_ hS ⟨fun _ => re_i ⟨by omega, rfl⟩, fun q => absurd (by rw [em]; exact c) q⟩
      · rw [if_neg c] at hv
        refine bX11_aheadOf_4 h1 is_ ia_ hS ⟨fun q => absurd q (by rw [em]; exact c), fun _ => ?_⟩
        refine EI.k (by apply e_isOf <;> (first | with_reducible assumption | with_reducible exact iR_of (by omega) (by omega) | omega | with_reducible (exact bi_01) | assumption)) (by omega) (fun _ _ => ?_)
        refine bi_zn (fun c2 => ⟨iR_of (by omega) (by omega), fun _ _ _ _ => ?_⟩) (fun c2 => ?_)
        · rw [if_pos c2] at hv
          exact ih (a + 1) sum (by omega) (by omega) (by omega) hv
        · rw [if_neg c2] at hv
          intros
          have hr : a ≤ rnM m x1 a ∧ rnM m x1 a < m 3 := rnE_b (m := m) x1 (m 3 - 1 - a).toNat a (by omega)
          have hsb := strM_b hW 6 a (rnM m x1 a) ha0 hr.1 hr.2 (by omega)
          have inner : ∀ (j : Nat) (b : Int), a ≤ b → b < m 3 → m 3 - b ≤ j → rnM m x1 b = rnM m x1 a → aX11_aheadOf_31 g ad d (Ki fun r s => r = ahM m x1 ∧ s = σ) 0 0 σ x1 sum a b := by
            intro j
            induction j with
            | zero => intro b h0 h1 h2; omega
            | succ j ihj =>
              intro b hb0 hb1 hbj hrb
              have ib : iR b := iR_of (by omega) (by omega)
              have hst := rnM_step (m := m) (s := x1) hb1
              have endd : rnM m x1 a = b → (0 ≤ 6 * a + b ∧ 6 * a + b < 36) ∧ iR (sum + ia σ 117 (6 * a + b)) ∧ (iR x1 → iR (sum + ia σ 117 (6 * a + b)) → iR (b + 1) → SR σ → aX11_aheadOf_4 g ad d (Ki fun r s => r = ahM m x1 ∧ s = σ) 0 0 σ x1 (sum + ia σ 117 (6 * a + b)) (b + 1)) := by
                intro hb
                rw [hT a b ha0 hb0 hb1]
                rw [hb] at hv hsb
                refine ⟨⟨by omega, by omega⟩, iR_of (by omega) (by omega), fun _ _ _ _ => ?_⟩
                exact ih (b + 1) _ (by omega) (by omega) (by omega) (by omega)
              refine bX11_aheadOf_31 h1 is_ ia_ ib hS ⟨iR_of (by omega) (by omega), fun c4 => ?_, fun c4 => ?_⟩
              · rw [em] at c4
                rw [if_neg (by omega)] at hst
                exact endd (by omega)
              · rw [em] at c4
                refine EI.k (by apply e_isOf <;> (first | with_reducible assumption | with_reducible exact iR_of (by omega) (by omega) | omega | with_reducible (exact bi_01) | assumption)) (by omega) (fun _ _ => ?_)
                refine bi_nz (fun c5 => ?_) (fun c5 => ?_)
                · rw [if_neg (fun q => q.2 c5)] at hst
                  exact endd (by omega)
                · rw [if_pos ⟨by omega, c5⟩] at hst
                  intros
                  exact ihj (b + 1) (by omega) (by omega) (by omega) (by omega)
          exact inner 7 a (Int.le_refl _) (by omega) (by omega) rfl
  exact key 7 0 0 (by omega) (by omega) (by omega) (by unfold ahM; omega)
/-! keys -/
theorem bDiv_eq {a b : Int} (ha : 0 ≤ a ∧ a < 2147483648) (hb : 0 < b ∧ b < 2147483648) : bDiv a b = a / b := by
  unfold bDiv
  have h1 : (Int32.ofInt a).toInt = a := iR_ofInt ⟨by omega, ha.2⟩
  have h2 : (Int32.ofInt b).toInt = b := iR_ofInt ⟨by omega, hb.2⟩
  have hle : a / b ≤ a := Int.ediv_le_self b ha.1
  have hge : 0 ≤ a / b := Int.ediv_nonneg ha.1 (by omega)
  rw [Int32.toInt_div, h1, h2, Int.tdiv_eq_ediv_of_nonneg ha.1]
  exact Int.bmod_eq_of_le (by show -(4294967296 / 2 : Int) ≤ a / b; omega) (by show a / b < ((4294967296 + 1) / 2 : Int); omega)
theorem bRem_eq {a b : Int} (ha : 0 ≤ a ∧ a < 2147483648) (hb : 0 < b ∧ b < 2147483648) : bRem a b = a % b := by
  have hd := bDiv_eq ha hb
  unfold bDiv at hd
  unfold bRem
  have h1 : (Int32.ofInt a).toInt = a := iR_ofInt ⟨by omega, ha.2⟩
  have h2 : (Int32.ofInt b).toInt = b := iR_ofInt ⟨by omega, hb.2⟩
  have hm := Int.emod_nonneg a (show b ≠ 0 by omega)
  have hm2 := Int.emod_lt_of_pos a hb.1
  have he := Int.emod_add_mul_ediv a b
  have hc : a / b * b = b * (a / b) := Int.mul_comm _ _
  have hge : 0 ≤ a / b := Int.ediv_nonneg ha.1 (by omega)
  have hge2 : 0 ≤ b * (a / b) := Int.mul_nonneg (by omega) hge
  rw [Int32.toInt_sub, Int32.toInt_mul, hd, h1, h2, hc]
  have e1 : (b * (a / b)).bmod (2 ^ 32) = b * (a / b) := Int.bmod_eq_of_le (by show -(4294967296 / 2 : Int) ≤ _; omega) (by show _ < ((4294967296 + 1) / 2 : Int); omega)
  rw [e1]
  have e2 : a - b * (a / b) = a % b := by omega
  rw [e2]
  exact Int.bmod_eq_of_le (by show -(4294967296 / 2 : Int) ≤ _; omega) (by show _ < ((4294967296 + 1) / 2 : Int); omega)
theorem e_setOf {x1 : Int} (h1 : 0 ≤ x1 ∧ x1 < 18816) (hS : SR σ) : EI g ad d mX11_setOf [.ref (ad 102), vi x1] σ (x1 / 294) σ := by
  refine EbS rfl pl_X11 rfl rfl (bX11_setOf_0 (iR_of (by omega) (by omega)) hS ?_)
  rw [bDiv_eq (by omega) (by omega)]
  exact re_i ⟨rfl, rfl⟩
theorem e_placeOf {x1 : Int} (h1 : 0 ≤ x1 ∧ x1 < 18816) (hS : SR σ) : EI g ad d mX11_placeOf [.ref (ad 102), vi x1] σ (x1 / 42 % 7) σ := by
  refine EbS rfl pl_X11 rfl rfl (bX11_placeOf_0 (iR_of (by omega) (by omega)) hS ?_)
  rw [bDiv_eq (by omega) (by omega), bRem_eq (by omega) (by omega)]
  exact re_i ⟨rfl, rfl⟩
theorem e_lastOf {x1 : Int} (h1 : 0 ≤ x1 ∧ x1 < 18816) (hS : SR σ) : EI g ad d mX11_lastOf [.ref (ad 102), vi x1] σ (x1 % 42 - 1) σ := by
  refine EbS rfl pl_X11 rfl rfl (bX11_lastOf_0 (iR_of (by omega) (by omega)) hS ?_)
  rw [bRem_eq (by omega) (by omega)]
  exact ⟨iR_of (by omega) (by omega), re_i ⟨rfl, rfl⟩⟩
theorem e_scoreOf {x1 : Int} (em : ia σ 103 = m) (hW : WF m) (hS : SR σ) (hT : StT m (ia σ 117)) (h1 : 0 ≤ x1 ∧ x1 < 18816) (hc : -100000 ≤ ia σ 120 x1 ∧ ia σ 120 x1 ≤ 100000) (hd : 2 ≤ d) : EI g ad d mX11_scoreOf [.ref (ad 102), vi x1] σ (ia σ 120 x1 + ahM m (x1 / 294)) σ := by
  have hb := ahM_b hW (x1 / 294)
  refine EbS rfl pl_X11 rfl rfl (bX11_scoreOf_0 (iR_of (by omega) (by omega)) hS ⟨h1, ?_⟩)
  refine EI.k (by apply e_setOf <;> (first | with_reducible assumption | with_reducible exact iR_of (by omega) (by omega) | omega | with_reducible (exact bi_01) | assumption)) (by omega) (fun _ _ => ?_)
  refine EI.k (by apply (e_aheadOf em hW hS hT) <;> (first | with_reducible assumption | with_reducible exact iR_of (by omega) (by omega) | omega | with_reducible (exact bi_01) | assumption)) (by omega) (fun _ _ => ?_)
  exact ⟨iR_of (by omega) (by omega), re_i ⟨rfl, rfl⟩⟩
theorem bits_all : ∀ a : Fin 64, (ir 0 6).foldl (fun n k => n + bAnd (bShr (a.val : Int) k) 1) 0 = (pc (a.val : Int) : Int) := by decide +kernel
theorem bit01 : ∀ (a : Fin 64) (k : Fin 7), bAnd (bShr (a.val : Int) (k.val : Int)) 1 = 0 ∨ bAnd (bShr (a.val : Int) (k.val : Int)) 1 = 1 := by decide +kernel
theorem e_bits {x0 : Int} (h0 : 0 ≤ x0 ∧ x0 ≤ 63) (hS : SR σ) : EI g ad d mX11_bits [vi x0] σ (pc x0) σ := by
  have i0 : iR x0 := iR_of (by omega) (by omega)
  have hlt : x0.toNat < 64 := by omega
  have e0 : ((x0.toNat : Nat) : Int) = x0 := by omega
  have hb : ∀ k : Int, 0 ≤ k → k < 6 → bAnd (bShr x0 k) 1 = 0 ∨ bAnd (bShr x0 k) 1 = 1 := by
    intro k hk0 hk1
    have := bit01 ⟨x0.toNat, hlt⟩ ⟨k.toNat, by omega⟩
    simp only at this
    rw [e0, show ((k.toNat : Nat) : Int) = k by omega] at this
    exact this
  have hall := bits_all ⟨x0.toNat, hlt⟩
  simp only at hall
  rw [e0] at hall
  refine EbS rfl pl_X11 rfl rfl (bX11_bits_0 i0 hS ?_)
  intros
  refine up_loop (P := fun k => ∀ n, (0 ≤ n ∧ n ≤ k) → (ir k 6).foldl (fun n k => n + bAnd (bShr x0 k) 1) n = pc x0 → aX11_bits_4 g ad d (Ki fun r s => r = (pc x0 : Int) ∧ s = σ) 0 0 σ x0 n k) (hi := 6) 0 (by omega) ?_ ?_ 0 (by omega) ?_
  · intro n hn hv
    exact bX11_bits_4 i0 (iR_of (by omega) (by omega)) (iR_lit rfl) hS ⟨fun _ => re_i ⟨hv, rfl⟩, fun q => absurd (by decide) q⟩
  · intro k hk0 hk1 ih n hn hv
    rw [ir_cons hk1, List.foldl_cons] at hv
    have := hb k hk0 hk1
    exact bX11_bits_4 i0 (iR_of (by omega) (by omega)) (iR_of (by omega) (by omega)) hS ⟨fun q => absurd q (by omega), fun _ => ⟨iR_of (by omega) (by omega), iR_of (by omega) (by omega), fun _ _ _ _ => ih _ (by omega) hv⟩⟩
  · exact hall
end SRr
