/-- the options that there are, in their order -/
def ops (m : Int → Int) : List Op := (sr m 0).filter (fun q => isOpt m q.2 q.1)
def fiW (m : Int → Int) (q : Op) : Int := if tgN m q.2 = 0 then -1 else tgt m q.2 q.1 0
def laW (m : Int → Int) (q : Op) : Int := if tgN m q.2 = 0 then -1 else tgt m q.2 q.1 (tgN m q.2 - 1)
/-- row i of the table of Options -/
def OpE (s : SG) (m : Int → Int) (i : Int) (q : Op) : Prop := (ia s 49 i = q.1) ∧ (ia s 50 i = q.1 + cov m q.2) ∧ (ia s 51 i = msk m q.2 q.1) ∧ (ia s 52 i = q.2) ∧ (∀ j, 0 ≤ j → j < tgN m q.2 → ia s 53 (i * 3 + j) = tgt m q.2 q.1 j) ∧ (ia s 54 i = tgN m q.2) ∧ (ia s 55 i = fiW m q) ∧ (ia s 56 i = laW m q) ∧ (ia s 57 i = ownC m q.1 q.2)
theorem OpE.st {s : SG} {m : Int → Int} {i : Int} {q : Op} (h_ : OpE s m i q) : ia s 49 i = q.1 := h_.1
theorem OpE.en {s : SG} {m : Int → Int} {i : Int} {q : Op} (h_ : OpE s m i q) : ia s 50 i = q.1 + cov m q.2 := h_.2.1
theorem OpE.cv {s : SG} {m : Int → Int} {i : Int} {q : Op} (h_ : OpE s m i q) : ia s 51 i = msk m q.2 q.1 := h_.2.2.1
theorem OpE.nu {s : SG} {m : Int → Int} {i : Int} {q : Op} (h_ : OpE s m i q) : ia s 52 i = q.2 := h_.2.2.2.1
theorem OpE.tg {s : SG} {m : Int → Int} {i : Int} {q : Op} (h_ : OpE s m i q) : ∀ j, 0 ≤ j → j < tgN m q.2 → ia s 53 (i * 3 + j) = tgt m q.2 q.1 j := h_.2.2.2.2.1
theorem OpE.tn {s : SG} {m : Int → Int} {i : Int} {q : Op} (h_ : OpE s m i q) : ia s 54 i = tgN m q.2 := h_.2.2.2.2.2.1
theorem OpE.fi {s : SG} {m : Int → Int} {i : Int} {q : Op} (h_ : OpE s m i q) : ia s 55 i = fiW m q := h_.2.2.2.2.2.2.1
theorem OpE.la_ {s : SG} {m : Int → Int} {i : Int} {q : Op} (h_ : OpE s m i q) : ia s 56 i = laW m q := h_.2.2.2.2.2.2.2.1
theorem OpE.ow {s : SG} {m : Int → Int} {i : Int} {q : Op} (h_ : OpE s m i q) : ia s 57 i = ownC m q.1 q.2 := h_.2.2.2.2.2.2.2.2
def OpL (s : SG) (m : Int → Int) (L : List Op) : Prop := sc s 48 9 = (L.length : Int) ∧ ∀ (i : Nat) (q : Op), L[i]? = some q → OpE s m i q
/-- Options hold those of m -/
def OPT (s : SG) (m : Int → Int) (k : Nat) : Prop := (OpL s m (ops m)) ∧ (sc s 48 10 = m 3) ∧ (rv s 48 11 = k)
theorem OPT.l {s : SG} {m : Int → Int} {k : Nat} (h_ : OPT s m k) : OpL s m (ops m) := h_.1
theorem OPT.pl {s : SG} {m : Int → Int} {k : Nat} (h_ : OPT s m k) : sc s 48 10 = m 3 := h_.2.1
theorem OPT.kn {s : SG} {m : Int → Int} {k : Nat} (h_ : OPT s m k) : rv s 48 11 = k := h_.2.2
section OPs
variable {g : AG} {ad : Nat → Nat} {d : Nat} {σ : SG} {m t : Int → Int} {k : Nat}
def Ocl (c : Nat) : Prop := 48 ≤ c ∧ c ≤ 57
theorem Ocl_K (hk : isK k) (c : Nat) (h : Kcl k c) : ¬ Ocl c := by
  have := isK_b hk
  unfold Kcl at h
  unfold Ocl
  omega
theorem OpE.fr {s : SG} {i : Int} {q : Op} (h : OpE σ m i q) (ha : ∀ c, 49 ≤ c → c ≤ 57 → ia s c = ia σ c) : OpE s m i q := by
  refine ⟨?_, ?_, ?_, ?_, ?_, ?_, ?_, ?_, ?_⟩
  · rw [ha 49 (by omega) (by omega)]; exact h.st
  · rw [ha 50 (by omega) (by omega)]; exact h.en
  · rw [ha 51 (by omega) (by omega)]; exact h.cv
  · rw [ha 52 (by omega) (by omega)]; exact h.nu
  · rw [ha 53 (by omega) (by omega)]; exact h.tg
  · rw [ha 54 (by omega) (by omega)]; exact h.tn
  · rw [ha 55 (by omega) (by omega)]; exact h.fi
  · rw [ha 56 (by omega) (by omega)]; exact h.la_
  · rw [ha 57 (by omega) (by omega)]; exact h.ow
theorem OPT.fr {s : SG} {C : Nat → Prop} (h : OPT σ m k) (hF : Fr C σ s) (hC : ∀ c, C c → ¬ Ocl c) : OPT s m k := by
  have h1 : ∀ c, Ocl c → ia s c = ia σ c := fun c hc => hF.ia c (fun z => hC c z hc)
  have h2 : ∀ j, sc s 48 j = sc σ 48 j := fun j => hF.sc 48 j (fun z => hC 48 z ⟨by omega, by omega⟩)
  exact ⟨⟨by rw [h2]; exact h.l.1, fun i q hq => (h.l.2 i q hq).fr (fun c a b => h1 c ⟨by omega, b⟩)⟩, by rw [h2]; exact h.pl, by rw [hF.1]; exact h.kn⟩
theorem wx_id {a : Int} (h : 0 ≤ a ∧ a < m 0) (h0 : m 0 ≤ 40) : wx a = a := if_neg (by omega)
theorem ops_mem {q : Op} (h : q ∈ ops m) : (0 ≤ q.1 ∧ q.1 < m 3) ∧ isO m q.2 ∧ isOpt m q.2 q.1 = true := by
  unfold ops at h
  rw [List.mem_filter, mem_sr] at h
  exact ⟨h.1.1, h.1.2, h.2⟩
theorem ops_len (h0 : W0 m) : (ops m).length ≤ 186 := Nat.le_trans (List.length_filter_le _ _) (sr_len h0)
theorem mk_msk_all : ∀ (a : Fin 4) (b : Fin 6), b.val + a.val ≤ 6 → bShl 1 ((b.val : Int) + (a.val : Int)) - bShl 1 (b.val : Int) = (2 ^ a.val - 1) * 2 ^ b.val := by decide
theorem mk_msk {o s : Int} (hc : 1 ≤ cov m o ∧ cov m o ≤ 3) (hs : 0 ≤ s) (hsc : s + cov m o ≤ 6) : bShl 1 (s + cov m o) - bShl 1 s = msk m o s := by
  unfold msk
  have h1 : (cov m o).toNat < 4 := by omega
  have h2 : s.toNat < 6 := by omega
  have := mk_msk_all ⟨(cov m o).toNat, h1⟩ ⟨s.toNat, h2⟩ (by show s.toNat + (cov m o).toNat ≤ 6; omega)
  rw [show (((⟨(cov m o).toNat, h1⟩ : Fin 4).val : Nat) : Int) = cov m o from by show (((cov m o).toNat : Nat) : Int) = _; omega, show (((⟨s.toNat, h2⟩ : Fin 6).val : Nat) : Int) = s from by show ((s.toNat : Nat) : Int) = _; omega] at this
  exact this
def addS (σ : SG) (n x1 x2 x3 x4 : Int) : SG := setI (setI (setI (setI (setI σ 49 n x1) 50 n (x1 + x2)) 51 n (bShl 1 (x1 + x2) - bShl 1 x1)) 52 n x3) 57 n x4
theorem o_add {x1 x3 x4 n : Int} (hn : sc σ 48 9 = n) (hnb : 0 ≤ n ∧ n < 186) (hc : 1 ≤ cov m x3 ∧ cov m x3 ≤ 3) (h1 : 0 ≤ x1) (h12 : x1 + cov m x3 ≤ 6) (h3 : iR x3) (h4 : iR x4) (hS : SR σ) : EV g ad d mX5_add [.ref (ad 48), vi x1, vi (cov m x3), vi x3, vi x4] σ (addS σ n x1 (cov m x3) x3 x4) := by
  have hm := msk_b hc h1 h12
  rw [← mk_msk hc h1 h12] at hm
  refine EbS rfl pl_X5 rfl rfl (bX5_add_0 (iR_of (by omega) (by omega)) (iR_of (by omega) (by omega)) h3 h4 hS ?_)
  simp (config := {decide := true}) only [sc_S, ia_S, la_S, rv_S, sc_I, rv_I, la_I, ia_I, sc_L, rv_L, ia_L, la_L, sc_A, rv_A, la_A, ia_A, sc_B, rv_B, ia_B, la_B, sc_R, ia_R, la_R, rv_R, ia_w, la_w, rv_w, sc_w, if_true, if_false]
  rw [hn]
  refine ⟨hnb, hnb, iR_of (by omega) (by omega), hnb, iR_of (by omega) (by omega), hnb, hnb, re_v rfl⟩
/-- where the words of a target lie -/
def TgC (σ : SG) (m : Int → Int) (c1 : Nat) (x2 : Int) (q : Op) : Prop := ∀ j, 0 ≤ j → j < tgN m q.2 → ia σ c1 (x2 + j) = tgt m q.2 q.1 j
/-- a row of the table but for its target -/
def OpH (s : SG) (m : Int → Int) (i : Int) (q : Op) : Prop := ia s 49 i = q.1 ∧ ia s 50 i = q.1 + cov m q.2 ∧ ia s 51 i = msk m q.2 q.1 ∧ ia s 52 i = q.2 ∧ ia s 57 i = (if q.2 = 99 then m 5 else of_ m q.2 8)
theorem o_bring {x2 : Int} {c1 n1 : Nat} {L : List Op} {q : Op} (hk : isK k) (hR : RK σ k m) (hW : WF m) (hrv : rv σ 48 11 = k) (hc1 : aI c1 n1) (hck : c1 < 37) (hL : OpL σ m L) (hLo : ∀ q' ∈ L, isO m q'.2) (hn : L.length < 186) (hH : OpH σ m L.length q) (hq : (0 ≤ q.1 ∧ q.1 < m 3) ∧ isO m q.2) (hT : TgC σ m c1 x2 q) (h2 : 0 ≤ x2 ∧ x2 + tgN m q.2 ≤ n1) (hn1 : n1 ≤ 2000) (hS : SR σ) (hd : 2 ≤ d) : Eb g ad d mX5_bring 0 0 [.ref (ad 48), .ref (ad c1), vi x2, vi (tgN m q.2)] σ (Kv fun s => OpL s m (L ++ [q]) ∧ Fr Ocl σ s ∧ sc s 48 10 = sc σ 48 10) := by
  have ht := tgN_b hW.2.1 hq.2
  have hm0 := hW.1.1
  have i2 : iR x2 := iR_of (by omega) (by omega)
  have i3 : iR (tgN m q.2) := iR_of (by omega) (by omega)
  have htw : ∀ j, 0 ≤ j → j < tgN m q.2 → 0 ≤ tgt m q.2 q.1 j ∧ tgt m q.2 q.1 j < m 0 := fun j a b => tgt_b hW hq.2 hq.1 ⟨a, b⟩
  -- the costs within
  have loop : ∀ τ : SG, SR τ → Fr Ocl σ τ → sc τ 48 9 = (L.length : Int) → sc τ 48 10 = sc σ 48 10 → (∀ (i : Nat) (q' : Op), L[i]? = some q' → OpE τ m i q') → OpH τ m L.length q → (∀ j, 0 ≤ j → j < tgN m q.2 → ia τ 53 ((L.length : Int) * 3 + j) = tgt m q.2 q.1 j) → ia τ 54 L.length = tgN m q.2 → ia τ 55 L.length = fiW m q → ia τ 56 L.length = laW m q → aX5_bring_73 g ad d (Kv fun s => OpL s m (L ++ [q]) ∧ Fr Ocl σ s ∧ sc s 48 10 = sc σ 48 10) 0 0 τ x2 (tgN m q.2) 1 c1 := by
    intro τ hSt hF h9 h10 hE hHt h53 h54 h55 h56
    have fin : ∀ (τ' : SG) (j : Int), SR τ' → iR j → tgN m q.2 ≤ j → Fr Ocl τ τ' → sc τ' 48 = sc τ 48 → (∀ c, ¬ c = 57 → ia τ' c = ia τ c) → (∀ i, ¬ i = (L.length : Int) → ia τ' 57 i = ia τ 57 i) → ia τ' 57 L.length = ownC m q.1 q.2 → aX5_bring_73 g ad d (Kv fun s => OpL s m (L ++ [q]) ∧ Fr Ocl σ s ∧ sc s 48 10 = sc σ 48 10) 0 0 τ' x2 (tgN m q.2) j c1 := by
      intro τ' j hS' ij hj hF' hsc hia h57 how
      have e9 : sc τ' 48 9 = (L.length : Int) := by rw [hsc]; exact h9
      refine bX5_bring_73 hc1 i2 i3 ij hS' ⟨fun _ => ?_, fun z => absurd hj z⟩
      rw [e9]
      refine ⟨iR_of (by omega) (by omega), re_v ⟨⟨by rw [sc_S, if_pos ⟨rfl, rfl⟩, List.length_append, List.length_singleton]; omega, fun i q' hq' => ?_⟩, (hF.trans hF').S ⟨by omega, by omega⟩, by rw [sc_S, if_neg (by omega), hsc]; exact h10⟩⟩
      have goal : OpE τ' m i q' := by
        by_cases c : i < L.length
        · rw [List.getElem?_append_left c] at hq'
          have := hE i q' hq'
          refine ⟨?_, ?_, ?_, ?_, ?_, ?_, ?_, ?_, ?_⟩
          · rw [hia 49 (by omega)]; exact this.st
          · rw [hia 50 (by omega)]; exact this.en
          · rw [hia 51 (by omega)]; exact this.cv
          · rw [hia 52 (by omega)]; exact this.nu
          · rw [hia 53 (by omega)]; exact this.tg
          · rw [hia 54 (by omega)]; exact this.tn
          · rw [hia 55 (by omega)]; exact this.fi
          · rw [hia 56 (by omega)]; exact this.la_
          · rw [h57 _ (by omega)]; exact this.ow
        · rw [List.getElem?_append_right (by omega)] at hq'
          have hi1 : i - L.length < 1 := (List.getElem?_eq_some_iff.mp hq').1
          have hi2 : i = L.length := by omega
          subst hi2
          rw [Nat.sub_self] at hq'
          have := Option.some.inj hq'
          subst this
          obtain ⟨b1, b2, b3, b4, b5⟩ := hHt
          refine ⟨?_, ?_, ?_, ?_, ?_, ?_, ?_, ?_, ?_⟩
          · rw [hia 49 (by omega)]; exact b1
          · rw [hia 50 (by omega)]; exact b2
          · rw [hia 51 (by omega)]; exact b3
          · rw [hia 52 (by omega)]; exact b4
          · rw [hia 53 (by omega)]; exact h53
          · rw [hia 54 (by omega)]; exact h54
          · rw [hia 55 (by omega)]; exact h55
          · rw [hia 56 (by omega)]; exact h56
          · exact how
      exact goal.fr (fun c _ _ => rfl)
    by_cases c1' : tgN m q.2 ≤ 1
    · refine fin τ 1 hSt (iR_lit rfl) c1' (Fr.refl τ) rfl (fun _ _ => rfl) (fun _ _ => rfl) ?_
      unfold ownC
      rw [ir_nil c1']
      exact hHt.2.2.2.2
    · refine up_loop (P := fun j => ∀ (τ' : SG) (c : Int), SR τ' → Fr Ocl τ τ' → sc τ' 48 = sc τ 48 → (∀ c, ¬ c = 57 → ia τ' c = ia τ c) → (∀ i, ¬ i = (L.length : Int) → ia τ' 57 i = ia τ 57 i) → ia τ' 57 L.length = c → (0 ≤ c ∧ c ≤ 99 * j) → (ir j (tgN m q.2)).foldl (fun c k => c + aft m (tgt m q.2 q.1 (k - 1)) (tgt m q.2 q.1 k)) c = ownC m q.1 q.2 → aX5_bring_73 g ad d (Kv fun s => OpL s m (L ++ [q]) ∧ Fr Ocl σ s ∧ sc s 48 10 = sc σ 48 10) 0 0 τ' x2 (tgN m q.2) j c1) (hi := tgN m q.2) 1 (by omega) ?_ ?_ τ _ hSt (Fr.refl τ) rfl (fun _ _ => rfl) (fun _ _ => rfl) rfl ?_ (by rw [hHt.2.2.2.2]; rfl)
      · intro τ' c hS' hF' hsc hia h57 hcv hcb hv
        rw [ir_nil (Int.le_refl _)] at hv
        exact fin τ' _ hS' i3 (Int.le_refl _) hF' hsc hia h57 (by rw [hcv]; exact hv)
      · intro j hj0 hj1 ih τ' c hS' hF' hsc hia h57 hcv hcb hv
        rw [ir_cons hj1, List.foldl_cons] at hv
        have e9 : sc τ' 48 9 = (L.length : Int) := by rw [hsc]; exact h9
        have hFσ := hF.trans hF'
        have ec1 : ia τ' c1 = ia σ c1 := hFσ.ia c1 (fun z => by unfold Ocl at z; omega)
        have erv : rv τ' 48 11 = k := by rw [hFσ.1]; exact hrv
        refine bX5_bring_73 hc1 i2 i3 (iR_of (by omega) (by omega)) hS' ⟨fun z => absurd z (by omega), fun _ => ?_⟩
        rw [e9, erv, ec1, hT j (by omega) hj1, show x2 + j - 1 = x2 + (j - 1) by omega, hT (j - 1) (by omega) (by omega), hcv]
        have hw1 := htw j (by omega) hj1
        have hw2 := htw (j - 1) (by omega) (by omega)
        have ha := aft_b hW.1 hW.2.2.1 (tgt m q.2 q.1 (j - 1)) (tgt m q.2 q.1 j)
        refine ⟨⟨by omega, by omega⟩, hk, ⟨by omega, by omega⟩, ⟨by omega, by omega⟩, ?_⟩
        refine EI.k (k_flow (d := d - 1) hk (hR.fr hFσ (fun c hc => Ocl_K hk c hc)) hW ⟨by omega, by omega⟩ ⟨by omega, by omega⟩ hS') (by omega) (fun _ _ => ?_)
        rw [wx_id hw1 hm0.2, wx_id hw2 hm0.2]
        refine ⟨iR_of (by omega) (by omega), iR_of (by omega) (by omega), fun _ _ _ hS6 => ?_⟩
        refine ih _ (c + aft m (tgt m q.2 q.1 (j - 1)) (tgt m q.2 q.1 j)) hS6 (hF'.I ⟨by omega, by omega⟩) hsc (fun c hc => by rw [ia_I, if_neg hc]; exact hia c hc) (fun i hi => by rw [ia_I, if_pos rfl, up_ne hi]; exact h57 i hi) (by rw [ia_I, if_pos rfl, up_at]) (by omega) hv
      · rw [hHt.2.2.2.2]
        have h5 := hW.1.2.2.2.2.2.1
        split
        · omega
        · rcases hq.2 with h | h
          · contradiction
          · have := (hW.2.1 _ h.1 h.2).2.2.1
            omega
  refine EbS rfl pl_X5 rfl rfl (bX5_bring_0 hc1 i2 i3 hS ?_)
  simp (config := {decide := true}) only [sc_S, ia_S, la_S, rv_S, sc_I, rv_I, la_I, ia_I, sc_L, rv_L, ia_L, la_L, sc_A, rv_A, la_A, ia_A, sc_B, rv_B, ia_B, la_B, sc_R, ia_R, la_R, rv_R, ia_w, la_w, rv_w, sc_w, if_true, if_false]
  rw [hL.1]
  have hnb : (0 : Int) ≤ (L.length : Int) ∧ (L.length : Int) < 186 := ⟨by omega, by omega⟩
  -- what the copy leaves
  have hF1 : Fr Ocl σ (setA σ 53 (cpy (ia σ c1) (ia σ 53) x2 ((L.length : Int) * 3) (tgN m q.2))) := (Fr.refl σ).A ⟨by omega, by omega⟩
  have e53 : ∀ j, 0 ≤ j → j < tgN m q.2 → cpy (ia σ c1) (ia σ 53) x2 ((L.length : Int) * 3) (tgN m q.2) ((L.length : Int) * 3 + j) = tgt m q.2 q.1 j := fun j a b => by
    unfold cpy
    rw [if_pos ⟨by omega, by omega⟩, show x2 + ((L.length : Int) * 3 + j - (L.length : Int) * 3) = x2 + j by omega]
    exact hT j a b
  have go : ∀ v w : Int, v = fiW m q → w = laW m q → SR (setI (setI (setI (setA σ 53 (cpy (ia σ c1) (ia σ 53) x2 ((L.length : Int) * 3) (tgN m q.2))) 54 L.length (tgN m q.2)) 55 L.length v) 56 L.length w) → aX5_bring_73 g ad d (Kv fun s => OpL s m (L ++ [q]) ∧ Fr Ocl σ s ∧ sc s 48 10 = sc σ 48 10) 0 0 (setI (setI (setI (setA σ 53 (cpy (ia σ c1) (ia σ 53) x2 ((L.length : Int) * 3) (tgN m q.2))) 54 L.length (tgN m q.2)) 55 L.length v) 56 L.length w) x2 (tgN m q.2) 1 c1 := by
    intro v w hv hw hSs
    refine loop _ hSs (((hF1.I ⟨by omega, by omega⟩).I ⟨by omega, by omega⟩).I ⟨by omega, by omega⟩) hL.1 rfl (fun i q' hq' => ?_) ?_ ?_ ?_ ?_ ?_
    · have := hL.2 i q' hq'
      have hi : i < L.length := (List.getElem?_eq_some_iff.mp hq').1
      have hmem : q' ∈ L := List.mem_of_getElem? hq'
      refine ⟨?_, ?_, ?_, ?_, ?_, ?_, ?_, ?_, ?_⟩
      · simp (config := {decide := true}) only [sc_S, ia_S, la_S, rv_S, sc_I, rv_I, la_I, ia_I, sc_L, rv_L, ia_L, la_L, sc_A, rv_A, la_A, ia_A, sc_B, rv_B, ia_B, la_B, sc_R, ia_R, la_R, rv_R, ia_w, la_w, rv_w, sc_w, if_true, if_false]; exact this.st
      · simp (config := {decide := true}) only [sc_S, ia_S, la_S, rv_S, sc_I, rv_I, la_I, ia_I, sc_L, rv_L, ia_L, la_L, sc_A, rv_A, la_A, ia_A, sc_B, rv_B, ia_B, la_B, sc_R, ia_R, la_R, rv_R, ia_w, la_w, rv_w, sc_w, if_true, if_false]; exact this.en
      · simp (config := {decide := true}) only [sc_S, ia_S, la_S, rv_S, sc_I, rv_I, la_I, ia_I, sc_L, rv_L, ia_L, la_L, sc_A, rv_A, la_A, ia_A, sc_B, rv_B, ia_B, la_B, sc_R, ia_R, la_R, rv_R, ia_w, la_w, rv_w, sc_w, if_true, if_false]; exact this.cv
      · simp (config := {decide := true}) only [sc_S, ia_S, la_S, rv_S, sc_I, rv_I, la_I, ia_I, sc_L, rv_L, ia_L, la_L, sc_A, rv_A, la_A, ia_A, sc_B, rv_B, ia_B, la_B, sc_R, ia_R, la_R, rv_R, ia_w, la_w, rv_w, sc_w, if_true, if_false]; exact this.nu
      · intro j a b
        simp (config := {decide := true}) only [sc_S, ia_S, la_S, rv_S, sc_I, rv_I, la_I, ia_I, sc_L, rv_L, ia_L, la_L, sc_A, rv_A, la_A, ia_A, sc_B, rv_B, ia_B, la_B, sc_R, ia_R, la_R, rv_R, ia_w, la_w, rv_w, sc_w, if_true, if_false]
        have hj3 := tgN_b hW.2.1 (hLo q' hmem)
        unfold cpy
        rw [if_neg (by omega)]
        exact this.tg j a b
      · simp (config := {decide := true}) only [sc_S, ia_S, la_S, rv_S, sc_I, rv_I, la_I, ia_I, sc_L, rv_L, ia_L, la_L, sc_A, rv_A, la_A, ia_A, sc_B, rv_B, ia_B, la_B, sc_R, ia_R, la_R, rv_R, ia_w, la_w, rv_w, sc_w, if_true, if_false]; rw [up_ne (by omega)]; exact this.tn
      · simp (config := {decide := true}) only [sc_S, ia_S, la_S, rv_S, sc_I, rv_I, la_I, ia_I, sc_L, rv_L, ia_L, la_L, sc_A, rv_A, la_A, ia_A, sc_B, rv_B, ia_B, la_B, sc_R, ia_R, la_R, rv_R, ia_w, la_w, rv_w, sc_w, if_true, if_false]; rw [up_ne (by omega)]; exact this.fi
      · simp (config := {decide := true}) only [sc_S, ia_S, la_S, rv_S, sc_I, rv_I, la_I, ia_I, sc_L, rv_L, ia_L, la_L, sc_A, rv_A, la_A, ia_A, sc_B, rv_B, ia_B, la_B, sc_R, ia_R, la_R, rv_R, ia_w, la_w, rv_w, sc_w, if_true, if_false]; rw [up_ne (by omega)]; exact this.la_
      · simp (config := {decide := true}) only [sc_S, ia_S, la_S, rv_S, sc_I, rv_I, la_I, ia_I, sc_L, rv_L, ia_L, la_L, sc_A, rv_A, la_A, ia_A, sc_B, rv_B, ia_B, la_B, sc_R, ia_R, la_R, rv_R, ia_w, la_w, rv_w, sc_w, if_true, if_false]; exact this.ow
    · obtain ⟨b1, b2, b3, b4, b5⟩ := hH
      refine ⟨?_, ?_, ?_, ?_, ?_⟩
      · simp (config := {decide := true}) only [sc_S, ia_S, la_S, rv_S, sc_I, rv_I, la_I, ia_I, sc_L, rv_L, ia_L, la_L, sc_A, rv_A, la_A, ia_A, sc_B, rv_B, ia_B, la_B, sc_R, ia_R, la_R, rv_R, ia_w, la_w, rv_w, sc_w, if_true, if_false]; exact b1
      · simp (config := {decide := true}) only [sc_S, ia_S, la_S, rv_S, sc_I, rv_I, la_I, ia_I, sc_L, rv_L, ia_L, la_L, sc_A, rv_A, la_A, ia_A, sc_B, rv_B, ia_B, la_B, sc_R, ia_R, la_R, rv_R, ia_w, la_w, rv_w, sc_w, if_true, if_false]; exact b2
      · simp (config := {decide := true}) only [sc_S, ia_S, la_S, rv_S, sc_I, rv_I, la_I, ia_I, sc_L, rv_L, ia_L, la_L, sc_A, rv_A, la_A, ia_A, sc_B, rv_B, ia_B, la_B, sc_R, ia_R, la_R, rv_R, ia_w, la_w, rv_w, sc_w, if_true, if_false]; exact b3
      · simp (config := {decide := true}) only [sc_S, ia_S, la_S, rv_S, sc_I, rv_I, la_I, ia_I, sc_L, rv_L, ia_L, la_L, sc_A, rv_A, la_A, ia_A, sc_B, rv_B, ia_B, la_B, sc_R, ia_R, la_R, rv_R, ia_w, la_w, rv_w, sc_w, if_true, if_false]; exact b4
      · simp (config := {decide := true}) only [sc_S, ia_S, la_S, rv_S, sc_I, rv_I, la_I, ia_I, sc_L, rv_L, ia_L, la_L, sc_A, rv_A, la_A, ia_A, sc_B, rv_B, ia_B, la_B, sc_R, ia_R, la_R, rv_R, ia_w, la_w, rv_w, sc_w, if_true, if_false]; exact b5
    · intro j a b
      simp (config := {decide := true}) only [sc_S, ia_S, la_S, rv_S, sc_I, rv_I, la_I, ia_I, sc_L, rv_L, ia_L, la_L, sc_A, rv_A, la_A, ia_A, sc_B, rv_B, ia_B, la_B, sc_R, ia_R, la_R, rv_R, ia_w, la_w, rv_w, sc_w, if_true, if_false]
      exact e53 j a b
    · simp (config := {decide := true}) only [sc_S, ia_S, la_S, rv_S, sc_I, rv_I, la_I, ia_I, sc_L, rv_L, ia_L, la_L, sc_A, rv_A, la_A, ia_A, sc_B, rv_B, ia_B, la_B, sc_R, ia_R, la_R, rv_R, ia_w, la_w, rv_w, sc_w, if_true, if_false]; rw [up_at]
    · simp (config := {decide := true}) only [sc_S, ia_S, la_S, rv_S, sc_I, rv_I, la_I, ia_I, sc_L, rv_L, ia_L, la_L, sc_A, rv_A, la_A, ia_A, sc_B, rv_B, ia_B, la_B, sc_R, ia_R, la_R, rv_R, ia_w, la_w, rv_w, sc_w, if_true, if_false]; rw [up_at]; exact hv
    · simp (config := {decide := true}) only [sc_S, ia_S, la_S, rv_S, sc_I, rv_I, la_I, ia_I, sc_L, rv_L, ia_L, la_L, sc_A, rv_A, la_A, ia_A, sc_B, rv_B, ia_B, la_B, sc_R, ia_R, la_R, rv_R, ia_w, la_w, rv_w, sc_w, if_true, if_false]; rw [up_at]; exact hw
  have hc1a : ¬ c1 = 53 ∧ ¬ c1 = 54 ∧ ¬ c1 = 55 := by omega
  refine ⟨⟨by omega, by omega, by omega, by omega, by omega⟩, hd, hnb, fun c => ⟨⟨by omega, by omega⟩, hnb, fun _ => ⟨⟨by omega, by omega⟩, hnb, fun _ _ _ hSs => ?_⟩, fun z => absurd z c⟩, fun c => ⟨hnb, fun z => absurd c z, fun _ => ⟨hnb, fun _ _ _ hSs => ?_⟩⟩⟩
  · refine go _ _ ?_ ?_ hSs
    · unfold fiW
      rw [if_neg c]
      rw [if_neg hc1a.2.1, if_neg hc1a.1]
      have := hT 0 (by omega) (by omega)
      rw [Int.add_zero] at this
      exact this
    · unfold laW
      rw [if_neg c]
      rw [if_neg hc1a.2.2, if_neg hc1a.2.1, if_neg hc1a.1]
      have := hT (tgN m q.2 - 1) (by omega) (by omega)
      rw [show x2 + (tgN m q.2 - 1) = x2 + tgN m q.2 - 1 by omega] at this
      exact this
  · refine go _ _ ?_ ?_ hSs
    · unfold fiW
      rw [if_pos c]
    · unfold laW
      rw [if_pos c]
theorem so_c {s o : Int} (h1 : m 1 ≤ 30) (ho : 0 ≤ o ∧ o < m 1) : so m s o = (s, o) :: so m s (o + 1) := by
  unfold so
  rw [if_neg (by omega), if_neg (by omega), ir_cons ho.2]
  rfl
theorem so_e {s : Int} (h1 : m 1 ≤ 30) : so m s (m 1) = (s, 99) :: sr m (s + 1) := by
  unfold so
  rw [if_neg (by omega), ir_nil (Int.le_refl _)]
  rfl
theorem sr_0 {s : Int} (h : s < m 3) : sr m s = so m s 0 := by
  unfold sr so
  rw [ir_cons h, List.flatMap_cons, if_neg (by decide)]
  show soS m s ++ sr m (s + 1) = _
  unfold soS
  rw [List.append_assoc]
  rfl
theorem OpH_add {n x4 : Int} {q : Op} (hc : 1 ≤ cov m q.2 ∧ cov m q.2 ≤ 3) (hs : 0 ≤ q.1) (hsc : q.1 + cov m q.2 ≤ 6) (h4 : x4 = (if q.2 = 99 then m 5 else of_ m q.2 8)) : OpH (addS σ n q.1 (cov m q.2) q.2 x4) m n q := by
  unfold addS OpH
  refine ⟨?_, ?_, ?_, ?_, ?_⟩
  · simp (config := {decide := true}) only [sc_S, ia_S, la_S, rv_S, sc_I, rv_I, la_I, ia_I, sc_L, rv_L, ia_L, la_L, sc_A, rv_A, la_A, ia_A, sc_B, rv_B, ia_B, la_B, sc_R, ia_R, la_R, rv_R, ia_w, la_w, rv_w, sc_w, if_true, if_false]; rw [up_at]
  · simp (config := {decide := true}) only [sc_S, ia_S, la_S, rv_S, sc_I, rv_I, la_I, ia_I, sc_L, rv_L, ia_L, la_L, sc_A, rv_A, la_A, ia_A, sc_B, rv_B, ia_B, la_B, sc_R, ia_R, la_R, rv_R, ia_w, la_w, rv_w, sc_w, if_true, if_false]; rw [up_at]
  · simp (config := {decide := true}) only [sc_S, ia_S, la_S, rv_S, sc_I, rv_I, la_I, ia_I, sc_L, rv_L, ia_L, la_L, sc_A, rv_A, la_A, ia_A, sc_B, rv_B, ia_B, la_B, sc_R, ia_R, la_R, rv_R, ia_w, la_w, rv_w, sc_w, if_true, if_false]; rw [up_at]; exact mk_msk hc hs hsc
  · simp (config := {decide := true}) only [sc_S, ia_S, la_S, rv_S, sc_I, rv_I, la_I, ia_I, sc_L, rv_L, ia_L, la_L, sc_A, rv_A, la_A, ia_A, sc_B, rv_B, ia_B, la_B, sc_R, ia_R, la_R, rv_R, ia_w, la_w, rv_w, sc_w, if_true, if_false]; rw [up_at]
  · simp (config := {decide := true}) only [sc_S, ia_S, la_S, rv_S, sc_I, rv_I, la_I, ia_I, sc_L, rv_L, ia_L, la_L, sc_A, rv_A, la_A, ia_A, sc_B, rv_B, ia_B, la_B, sc_R, ia_R, la_R, rv_R, ia_w, la_w, rv_w, sc_w, if_true, if_false]; rw [up_at]; exact h4
theorem OpL_add {n x1 x2 x3 x4 : Int} {L : List Op} (h : OpL σ m L) (hn : n = L.length) : OpL (addS σ n x1 x2 x3 x4) m L := by
  refine ⟨h.1, fun i q hq => ?_⟩
  have := h.2 i q hq
  have hi : i < L.length := (List.getElem?_eq_some_iff.mp hq).1
  unfold addS
  refine ⟨?_, ?_, ?_, ?_, ?_, ?_, ?_, ?_, ?_⟩
  · simp (config := {decide := true}) only [sc_S, ia_S, la_S, rv_S, sc_I, rv_I, la_I, ia_I, sc_L, rv_L, ia_L, la_L, sc_A, rv_A, la_A, ia_A, sc_B, rv_B, ia_B, la_B, sc_R, ia_R, la_R, rv_R, ia_w, la_w, rv_w, sc_w, if_true, if_false]; rw [up_ne (by omega)]; exact this.st
  · simp (config := {decide := true}) only [sc_S, ia_S, la_S, rv_S, sc_I, rv_I, la_I, ia_I, sc_L, rv_L, ia_L, la_L, sc_A, rv_A, la_A, ia_A, sc_B, rv_B, ia_B, la_B, sc_R, ia_R, la_R, rv_R, ia_w, la_w, rv_w, sc_w, if_true, if_false]; rw [up_ne (by omega)]; exact this.en
  · simp (config := {decide := true}) only [sc_S, ia_S, la_S, rv_S, sc_I, rv_I, la_I, ia_I, sc_L, rv_L, ia_L, la_L, sc_A, rv_A, la_A, ia_A, sc_B, rv_B, ia_B, la_B, sc_R, ia_R, la_R, rv_R, ia_w, la_w, rv_w, sc_w, if_true, if_false]; rw [up_ne (by omega)]; exact this.cv
  · simp (config := {decide := true}) only [sc_S, ia_S, la_S, rv_S, sc_I, rv_I, la_I, ia_I, sc_L, rv_L, ia_L, la_L, sc_A, rv_A, la_A, ia_A, sc_B, rv_B, ia_B, la_B, sc_R, ia_R, la_R, rv_R, ia_w, la_w, rv_w, sc_w, if_true, if_false]; rw [up_ne (by omega)]; exact this.nu
  · simp (config := {decide := true}) only [sc_S, ia_S, la_S, rv_S, sc_I, rv_I, la_I, ia_I, sc_L, rv_L, ia_L, la_L, sc_A, rv_A, la_A, ia_A, sc_B, rv_B, ia_B, la_B, sc_R, ia_R, la_R, rv_R, ia_w, la_w, rv_w, sc_w, if_true, if_false]; exact this.tg
  · simp (config := {decide := true}) only [sc_S, ia_S, la_S, rv_S, sc_I, rv_I, la_I, ia_I, sc_L, rv_L, ia_L, la_L, sc_A, rv_A, la_A, ia_A, sc_B, rv_B, ia_B, la_B, sc_R, ia_R, la_R, rv_R, ia_w, la_w, rv_w, sc_w, if_true, if_false]; exact this.tn
  · simp (config := {decide := true}) only [sc_S, ia_S, la_S, rv_S, sc_I, rv_I, la_I, ia_I, sc_L, rv_L, ia_L, la_L, sc_A, rv_A, la_A, ia_A, sc_B, rv_B, ia_B, la_B, sc_R, ia_R, la_R, rv_R, ia_w, la_w, rv_w, sc_w, if_true, if_false]; exact this.fi
  · simp (config := {decide := true}) only [sc_S, ia_S, la_S, rv_S, sc_I, rv_I, la_I, ia_I, sc_L, rv_L, ia_L, la_L, sc_A, rv_A, la_A, ia_A, sc_B, rv_B, ia_B, la_B, sc_R, ia_R, la_R, rv_R, ia_w, la_w, rv_w, sc_w, if_true, if_false]; exact this.la_
  · simp (config := {decide := true}) only [sc_S, ia_S, la_S, rv_S, sc_I, rv_I, la_I, ia_I, sc_L, rv_L, ia_L, la_L, sc_A, rv_A, la_A, ia_A, sc_B, rv_B, ia_B, la_B, sc_R, ia_R, la_R, rv_R, ia_w, la_w, rv_w, sc_w, if_true, if_false]; rw [up_ne (by omega)]; exact this.ow
theorem Fr_add {n x1 x2 x3 x4 : Int} : Fr Ocl σ (addS σ n x1 x2 x3 x4) := ((((((Fr.refl σ).I ⟨by omega, by omega⟩).I ⟨by omega, by omega⟩).I ⟨by omega, by omega⟩).I ⟨by omega, by omega⟩).I ⟨by omega, by omega⟩)
theorem o_gather (hk : isK k) (hR : RK σ k m) (hW : WF m) (hS : SR σ) (hd : 3 ≤ d) : Eb g ad d mX5_gather 0 0 [.ref (ad 48), .ref (ad k)] σ (Kv fun s => OPT s m k ∧ Fr Ocl (setR σ 48 11 k) s) := by
  have hm0 := hW.1.1
  have hm1 := hW.1.2.1
  have hm3 := hW.1.2.2.2.1
  have hm5 := hW.1.2.2.2.2.2.1
  have hl186 := ops_len hW.1
  refine EbS rfl pl_X5 rfl rfl (bX5_gather_0 hk hS ?_)
  have e13 : sc (setR σ 48 11 k) k 13 = m 3 := hR.n
  rw [e13]
  intro _ hS0
  have hF0 : Fr Ocl (setR σ 48 11 k) (setS (setS (setR σ 48 11 k) 48 10 (m 3)) 48 9 0) := ((Fr.refl _).S ⟨by omega, by omega⟩).S ⟨by omega, by omega⟩
  have hR0 : RK (setR σ 48 11 k) k m := ⟨hR.w, hR.p, hR.f, hR.n, hR.ln, hR.lt, hR.ss, hR.so, hR.ts, hR.tt, hR.co, hR.go, hR.gb, hR.fl, hR.pl, hR.st⟩
  have hrv0 : rv (setR σ 48 11 k) 48 11 = k := by
    show u2 (rv σ) 48 11 k 48 11 = k
    simp [u2]
  have h9_0 : sc (setS (setS (setR σ 48 11 k) 48 10 (m 3)) 48 9 0) 48 9 = 0 := by simp (config := {decide := true}) only [sc_S, ia_S, la_S, rv_S, sc_I, rv_I, la_I, ia_I, sc_L, rv_L, ia_L, la_L, sc_A, rv_A, la_A, ia_A, sc_B, rv_B, ia_B, la_B, sc_R, ia_R, la_R, rv_R, ia_w, la_w, rv_w, sc_w, if_true, if_false]
  have h10_0 : sc (setS (setS (setR σ 48 11 k) 48 10 (m 3)) 48 9 0) 48 10 = m 3 := by simp (config := {decide := true}) only [sc_S, ia_S, la_S, rv_S, sc_I, rv_I, la_I, ia_I, sc_L, rv_L, ia_L, la_L, sc_A, rv_A, la_A, ia_A, sc_B, rv_B, ia_B, la_B, sc_R, ia_R, la_R, rv_R, ia_w, la_w, rv_w, sc_w, if_true, if_false]
  generalize setS (setS (setR σ 48 11 k) 48 10 (m 3)) 48 9 0 = τ0 at hS0 hF0 h9_0 h10_0
  refine up_loop (P := fun s => ∀ (τ : SG) (L : List Op), SR τ → Fr Ocl (setR σ 48 11 k) τ → OpL τ m L → sc τ 48 10 = m 3 → L ++ (sr m s).filter (fun q => isOpt m q.2 q.1) = ops m → aX5_gather_20 g ad d (Kv fun s => OPT s m k ∧ Fr Ocl (setR σ 48 11 k) s) 0 0 τ s k) (hi := m 3) 0 (by omega) ?_ ?_ τ0 [] hS0 hF0 ⟨h9_0, fun i q hq => by cases hq⟩ h10_0 rfl
  · intro τ L hSt hF hL h10 hv
    rw [sr_end (Int.le_refl _)] at hv
    have hv' : L = ops m := by rw [← hv]; exact (List.append_nil L).symm
    exact bX5_gather_20 hk (iR_of (by omega) (by omega)) hSt ⟨fun _ => re_v ⟨⟨by rw [← hv']; exact hL, h10, by rw [hF.1]; exact hrv0⟩, hF⟩, fun z => absurd (by rw [h10]; omega) z⟩
  · intro s hs0 hs1 ihs τ L hSt hF hL h10 hv
    have is : iR s := iR_of (by omega) (by omega)
    refine bX5_gather_20 hk is hSt ⟨fun z => absurd z (by rw [h10]; omega), fun _ _ _ _ => ?_⟩
    rw [sr_0 hs1] at hv
    -- one option more
    have step : ∀ (τ : SG) (L : List Op) (o : Int) (rest : List Op), SR τ → Fr Ocl (setR σ 48 11 k) τ → OpL τ m L → L ++ (s, o) :: rest = ops m → (∀ q' ∈ L, isO m q'.2) ∧ L.length < 186 ∧ isO m o ∧ isOpt m o s = true := by
      intro τ L o rest hSt hF hL hv
      have hle : L.length < (ops m).length := by rw [← hv, List.length_append, List.length_cons]; omega
      have hin : ∀ q', q' ∈ L → q' ∈ ops m := fun q' hq => by rw [← hv]; exact List.mem_append.mpr (Or.inl hq)
      have hme : (s, o) ∈ ops m := by rw [← hv]; exact List.mem_append.mpr (Or.inr (List.mem_cons_self ..))
      have := ops_mem hme
      exact ⟨fun q' hq => (ops_mem (hin q' hq)).2.1, by omega, this.2.1, this.2.2⟩
    refine up_loop (P := fun o => ∀ (τ : SG) (L : List Op), SR τ → Fr Ocl (setR σ 48 11 k) τ → OpL τ m L → sc τ 48 10 = m 3 → L ++ (so m s o).filter (fun q => isOpt m q.2 q.1) = ops m → aX5_gather_30 g ad d (Kv fun s => OPT s m k ∧ Fr Ocl (setR σ 48 11 k) s) 0 0 τ s o k) (hi := m 1) 0 (by omega) ?_ ?_ τ L hSt hF hL h10 hv
    · intro τ L hSt hF hL h10 hv
      have hRt := hR0.fr hF (fun c hc => Ocl_K hk c hc)
      have h9 : sc τ k 9 = m 1 := hRt.p
      rw [so_e hm1.2, List.filter_cons_of_pos (by show isOpt m 99 s = true; unfold isOpt; rw [if_pos rfl]; exact decide_eq_true ⟨hs0, hs1⟩)] at hv
      obtain ⟨hLo, hn, hiO, hopt⟩ := step τ L 99 _ hSt hF hL hv
      refine bX5_gather_30 hk is (iR_of (by omega) (by omega)) hSt ⟨fun _ => ?_, fun z => absurd (by rw [h9]; omega) z⟩
      have e5 : ia τ (k + 11) 1 = m 5 := hRt.st 1 (by omega) (by omega)
      rw [e5]
      have ec : cov m 99 = 1 := if_pos rfl
      have et : tgN m 99 = 1 := if_pos rfl
      have hadd := o_add (g := g) (ad := ad) (d := d - 1) (m := m) (x1 := s) (x3 := 99) (x4 := m 5) hL.1 ⟨by omega, by omega⟩ (by rw [ec]; omega) hs0 (by rw [ec]; omega) (iR_lit rfl) (iR_of (by omega) (by omega)) hSt
      rw [ec] at hadd
      refine EV.k hadd (by omega) (fun hS1 => ?_)
      have hF1 : Fr Ocl τ (addS τ L.length s 1 99 (m 5)) := Fr_add
      have hR1 := hRt.fr hF1 (fun c hc => Ocl_K hk c hc)
      have hH : OpH (addS τ L.length s 1 99 (m 5)) m L.length (s, 99) := by
        have := OpH_add (σ := τ) (m := m) (n := L.length) (q := (s, 99)) (x4 := m 5) (by show 1 ≤ cov m 99 ∧ cov m 99 ≤ 3; rw [ec]; omega) hs0 (by show s + cov m 99 ≤ 6; rw [ec]; omega) (by rw [if_pos rfl])
        have e2 : addS τ L.length s (cov m 99) 99 (m 5) = addS τ L.length s 1 99 (m 5) := by rw [ec]
        rw [← e2]
        exact this
      have hbr := o_bring (g := g) (ad := ad) (d := d - 1) (x2 := s) (q := (s, 99)) hk hR1 hW (by rw [hF1.1, hF.1]; exact hrv0) (aK hk).2.2.2.2.2.2.2.2.1 (by have := isK_b hk; omega) (OpL_add hL rfl) hLo hn hH ⟨⟨hs0, hs1⟩, hiO⟩ (fun j a b => by
        have hb2 : j < tgN m 99 := b
        have hj : j = 0 := by omega
        rw [hj, Int.add_zero]
        have := hR1.pl s hs0 hs1
        rw [this]
        show m (849 + s) = tgt m 99 s 0
        unfold tgt
        rw [if_pos rfl]) ⟨hs0, by show s + tgN m 99 ≤ ((6 : Nat) : Int); omega⟩ (by decide) hS1 (by omega)
      have e99 : tgN m ((s, 99) : Op).2 = 1 := et
      rw [e99] at hbr
      refine Cl.vo hbr (by omega) (fun s2 hS2 h2 => ⟨iR_of (by omega) (by omega), fun _ _ => ?_⟩)
      refine ihs s2 (L ++ [(s, 99)]) hS2 (hF.trans (hF1.trans h2.2.1)) h2.1 (by rw [h2.2.2]; exact h10) ?_
      rw [List.append_assoc]
      exact hv
    · intro o ho0 ho1 iho τ L hSt hF hL h10 hv
      have hRt := hR0.fr hF (fun c hc => Ocl_K hk c hc)
      have h9 : sc τ k 9 = m 1 := hRt.p
      have io : iR o := iR_of (by omega) (by omega)
      have io1 : iR (o + 1) := iR_of (by omega) (by omega)
      rw [so_c hm1.2 ⟨ho0, ho1⟩] at hv
      refine bX5_gather_30 hk is io hSt ⟨fun z => absurd z (by rw [h9]; omega), fun _ => ?_⟩
      refine EI.k (k_isOption (d := d - 1) hk hRt hW ⟨ho0, ho1⟩ ⟨hs0, by omega⟩ hSt (by omega)) (by omega) (fun _ _ => ?_)
      refine bi_zn (fun co => ?_) (fun co => ⟨io1, fun _ _ _ => iho τ L hSt hF hL h10 ?_⟩)
      rotate_left
      · rw [List.filter_cons_of_neg (by exact co)] at hv
        exact hv
      rw [List.filter_cons_of_pos (by exact co)] at hv
      obtain ⟨hLo, hn, hiO, hopt⟩ := step τ L o _ hSt hF hL hv
      have hne : ¬ o = 99 := by omega
      have ec : cov m o = of_ m o 0 := if_neg hne
      have et : tgN m o = of_ m o 4 := if_neg hne
      have hcv := cov_b hW.2.1 hiO
      have htb := tgN_b hW.2.1 hiO
      have hob := isOpt_b hopt
      have hcb := (hW.2.1 o ho0 ho1).2.2.1
      have es : ia τ (k + 4) o = cov m o := by rw [ec]; exact hRt.ss o ho0 ho1
      have eco : ia τ (k + 7) o = of_ m o 8 := hRt.co o ho0 ho1
      rw [es, eco]
      refine ⟨⟨ho0, by omega⟩, ?_⟩
      refine EV.k (o_add (d := d - 1) (m := m) (x1 := s) (x3 := o) (x4 := of_ m o 8) hL.1 ⟨by omega, by omega⟩ hcv hs0 (by omega) io (iR_of (by omega) (by omega)) hSt) (by omega) (fun hS1 => ?_)
      have hF1 : Fr Ocl τ (addS τ L.length s (cov m o) o (of_ m o 8)) := Fr_add
      have hR1 := hRt.fr hF1 (fun c hc => Ocl_K hk c hc)
      have hH : OpH (addS τ L.length s (cov m o) o (of_ m o 8)) m L.length (s, o) := OpH_add (σ := τ) (m := m) (n := L.length) (q := (s, o)) (x4 := of_ m o 8) hcv hs0 (by show s + cov m o ≤ 6; omega) (by rw [if_neg hne])
      have e6 : ia (addS τ L.length s (cov m o) o (of_ m o 8)) (k + 6) o = tgN m o := by rw [et]; exact hR1.ts o ho0 ho1
      rw [e6]
      refine Cl.vo (o_bring (d := d - 1) (x2 := o * 3) (q := (s, o)) hk hR1 hW (by rw [hF1.1, hF.1]; exact hrv0) (aK hk).2.2.2.2.1 (by have := isK_b hk; omega) (OpL_add hL rfl) hLo hn hH ⟨⟨hs0, hs1⟩, hiO⟩ (fun j a b => by
        have hb2 : j < tgN m o := b
        rw [hR1.tt o j ho0 ho1 a (by omega)]
        show of_ m o (5 + j) = tgt m o s j
        unfold tgt
        rw [if_neg hne]) ⟨by omega, by show o * 3 + tgN m o ≤ ((90 : Nat) : Int); omega⟩ (by decide) hS1 (by omega)) (by omega) (fun s2 hS2 h2 => ⟨io1, fun _ _ _ => ?_⟩)
      refine iho s2 (L ++ [(s, o)]) hS2 (hF.trans (hF1.trans h2.2.1)) h2.1 (by rw [h2.2.2]; exact h10) ?_
      rw [List.append_assoc]
      exact hv
end OPs
