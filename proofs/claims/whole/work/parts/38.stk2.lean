section STL
variable {g : AG} {ad : Nat → Nat} {d : Nat} {σ : SG} {m : Int → Int}
theorem sco_b (hW : WF m) {S : SK} (hI : IS m S) {k : Int} (hk : ¬ S.ls k = 0) : 0 ≤ sco m S k ∧ sco m S k ≤ 20000 := by
  have h1 := hI.cst k hk
  have h2 := ahM_b hW (k / 294)
  have h3 := st_pc6 (hI.rng k hk).2.2.1
  have h4 : pc (k / 294) ≤ 6 := h3
  unfold sco
  omega
theorem full_b (h0 : W0 m) : 0 ≤ fullM m ∧ fullM m ≤ 63 := fullM_b h0
/-- the best of those not taken ahead of a key -/
def BI (m : Int → Int) (S : SK) (U : Int → Prop) (best score pos : Int) : Prop := (best = -1 ∧ score = 0 ∧ ∀ k, 0 ≤ k → k < pos → ¬ U k) ∨ ((0 ≤ best ∧ best < pos) ∧ U best ∧ score = sco m S best ∧ ∀ k, 0 ≤ k → k < pos → U k → rkS m S best ≤ rkS m S k)
theorem BI_skip {S : SK} {U : Int → Prop} {best score pos pos' : Int} (h : BI m S U best score pos) (hle : pos ≤ pos') (hn : ∀ k, pos ≤ k → k < pos' → ¬ U k) : BI m S U best score pos' := by
  rcases h with ⟨h1, h2, h3⟩ | ⟨h1, h2, h3, h4⟩
  · refine Or.inl ⟨h1, h2, fun k hk0 hk1 hu => ?_⟩
    by_cases c : k < pos
    · exact h3 k hk0 c hu
    · exact hn k (by omega) hk1 hu
  · refine Or.inr ⟨⟨h1.1, by omega⟩, h2, h3, fun k hk0 hk1 hu => ?_⟩
    by_cases c : k < pos
    · exact h4 k hk0 c hu
    · exact absurd hu (hn k (by omega) hk1)
theorem BI_take {S : SK} {U : Int → Prop} {best score pos : Int} (h : BI m S U best score pos) (h0 : 0 ≤ pos) (hu : U pos) (hlt : best = -1 ∨ rkS m S pos ≤ rkS m S best) : BI m S U pos (sco m S pos) (pos + 1) := by
  refine Or.inr ⟨⟨h0, by omega⟩, hu, rfl, fun k hk0 hk1 hk => ?_⟩
  by_cases c : k = pos
  · rw [c]; exact Int.le_refl _
  · rcases h with ⟨h1, h2, h3⟩ | ⟨h1, h2, h3, h4⟩
    · exact absurd hk (h3 k hk0 (by omega))
    · have := h4 k hk0 (by omega) hk
      omega
theorem BI_keep {S : SK} {U : Int → Prop} {best score pos : Int} (h : BI m S U best score pos) (hb : ¬ best = -1) (hge : rkS m S best ≤ rkS m S pos) : BI m S U best score (pos + 1) := by
  rcases h with ⟨h1, h2, h3⟩ | ⟨h1, h2, h3, h4⟩
  · exact absurd h1 hb
  · refine Or.inr ⟨⟨h1.1, by omega⟩, h2, h3, fun k hk0 hk1 hk => ?_⟩
    by_cases c : k = pos
    · rw [c]; exact hge
    · exact h4 k hk0 (by omega) hk
/-- which one comes next of a sorted row, if so many are taken -/
theorem BI_next {S : SK} (hI : IS m S) (hW : WF m) (hb : S.mn < 4294967296) {n best score : Int} {t : Nat} {tk : Int → Int} (htk : ∀ k, k ∈ cand m S n → (tk k = 0 ↔ k ∉ (srt (rkS m S) (cand m S n)).take t)) (h : BI m S (fun k => k ∈ cand m S n ∧ tk k = 0) best score (294 * (fullM m + 1))) : best = ((srt (rkS m S) (cand m S n))[t]?).getD (-1) := by
  have hup := cand_up hI hW hb (n := n)
  have hmem : ∀ z, z ∈ srt (rkS m S) (cand m S n) ↔ z ∈ cand m S n := fun z => mem_srt
  generalize hL : srt (rkS m S) (cand m S n) = L at hup hmem htk
  have hunt : ∀ (j : Nat) (k : Int), L[j]? = some k → t ≤ j → k ∉ L.take t := by
    intro j k hj htj hin
    obtain ⟨i, hi⟩ := List.getElem?_of_mem hin
    have hit : i < t := by
      have := (List.getElem?_eq_some_iff.mp hi).1
      rw [List.length_take] at this
      omega
    rw [List.getElem?_take_of_lt hit] at hi
    have := up_at' hup hi hj (by omega)
    omega
  cases e : L[t]? with
  | none =>
    have hlen : L.length ≤ t := List.getElem?_eq_none_iff.mp e
    rcases h with ⟨h1, -, -⟩ | ⟨h1, h2, -⟩
    · exact h1
    · have hx := (htk best h2.1).mp h2.2
      rw [List.take_of_length_le hlen] at hx
      exact absurd ((hmem best).mpr h2.1) hx
  | some k =>
    have hkm : k ∈ cand m S n := (hmem k).mp (List.mem_of_getElem? e)
    have hk0 : tk k = 0 := (htk k hkm).mpr (hunt t k e (Nat.le_refl _))
    have hkr := (mem_cand.mp hkm).1
    rcases h with ⟨-, -, h3⟩ | ⟨h1, h2, h3, h4⟩
    · exact absurd ⟨hkm, hk0⟩ (h3 k hkr.1 hkr.2)
    · have hle := h4 k hkr.1 hkr.2 ⟨hkm, hk0⟩
      show best = k
      obtain ⟨j, hj⟩ := List.getElem?_of_mem ((hmem best).mpr h2.1)
      by_cases c1 : j < t
      · have : best ∈ L.take t := by
          refine List.mem_of_getElem? (i := j) ?_
          rw [List.getElem?_take_of_lt c1]
          exact hj
        exact absurd this ((htk best h2.1).mp h2.2)
      · by_cases c2 : j = t
        · rw [c2, e] at hj
          exact (Option.some.inj hj).symm
        · have := up_at' hup e hj (by omega)
          omega
theorem rkS_cmp {S : SK} (hI : IS m S) (hb : S.mn < 4294967296) {j k : Int} (hj : ¬ S.ls j = 0) (hk : ¬ S.ls k = 0) : rkS m S j ≤ rkS m S k ↔ sco m S j < sco m S k ∨ sco m S j = sco m S k ∧ S.md j ≤ S.md k := by
  have h1 := hI.mad j hj
  have h2 := hI.mad k hk
  unfold rkS
  omega
theorem e_nextOf {S : SK} {n : Int} {t : Nat} (em : ia σ 103 = m) (hW : WF m) (hR : RelS σ S) (hI : IS m S) (hT : StT m (ia σ 117)) (hb : S.mn < 4294967296) (hn : 0 ≤ n ∧ n ≤ 6) (htk : ∀ k, k ∈ cand m S n → (ia σ 119 k = 0 ↔ k ∉ (srt (rkS m S) (cand m S n)).take t)) (hS : SR σ) (hd : 3 ≤ d) : EI g ad d mX11_nextOf [.ref (ad 102), vi n] σ (((srt (rkS m S) (cand m S n))[t]?).getD (-1)) σ := by
  have hW0 := hW.1
  have hfb := full_b hW0
  have in_ : iR n := iR_of (by omega) (by omega)
  have im : iR (-1) := iR_lit rfl
  refine EbS rfl pl_X11 rfl rfl (bX11_nextOf_0 in_ hS ?_)
  intros
  have bb : ∀ best score pos, BI m S (fun k => k ∈ cand m S n ∧ ia σ 119 k = 0) best score pos → pos ≤ 18816 → iR best ∧ iR score := by
    intro best score pos h hp
    rcases h with ⟨h1, h2, h3⟩ | ⟨h1, h2, h3, h4⟩
    · rw [h1, h2]; exact ⟨im, iR_lit rfl⟩
    · have := sco_b hW hI (mem_cand.mp h2.1).2.2
      exact ⟨iR_of (by omega) (by omega), iR_of (by omega) (by omega)⟩
  refine up_loop (P := fun set => ∀ best score, BI m S (fun k => k ∈ cand m S n ∧ ia σ 119 k = 0) best score (294 * set) → aX11_nextOf_7 g ad d (Ki fun r s => r = ((srt (rkS m S) (cand m S n))[t]?).getD (-1) ∧ s = σ) 0 0 σ n best score set) (hi := fullM m + 1) 0 (by omega) ?_ ?_ (-1) 0 (Or.inl ⟨rfl, rfl, fun k h0 h1 => by omega⟩)
  · intro best score h
    have hbb := bb _ _ _ h (by omega)
    refine bX11_nextOf_7 in_ hbb.1 hbb.2 (iR_of (by omega) (by omega)) hS ?_
    refine EI.k (by apply (w_full em) <;> (first | with_reducible assumption | with_reducible exact iR_of (by omega) (by omega) | omega | with_reducible (exact bi_01) | assumption)) (by omega) (fun _ _ => ?_)
    exact ⟨fun _ => re_i ⟨BI_next hI hW hb htk h, rfl⟩, fun q => absurd (by omega) q⟩
  · intro set hs0 hs1 ih best score h
    have hbb := bb _ _ _ h (by omega)
    refine bX11_nextOf_7 in_ hbb.1 hbb.2 (iR_of (by omega) (by omega)) hS ?_
    refine EI.k (by apply (w_full em) <;> (first | with_reducible assumption | with_reducible exact iR_of (by omega) (by omega) | omega | with_reducible (exact bi_01) | assumption)) (by omega) (fun _ _ => ?_)
    refine ⟨fun q => absurd q (by omega), fun _ => ?_⟩
    refine EI.k (by apply e_bits <;> (first | with_reducible assumption | with_reducible exact iR_of (by omega) (by omega) | omega | with_reducible (exact bi_01) | assumption)) (by omega) (fun _ _ => ?_)
    refine ⟨fun c => ⟨iR_of (by omega) (by omega), fun _ _ _ _ _ _ => ?_⟩, fun c => ⟨iR_of (by omega) (by omega), fun _ _ _ _ _ => ih best score (BI_skip h (by omega) (fun k hk0 hk1 hu => ?_))⟩⟩
    · refine up_loop (P := fun k => ∀ best score, BI m S (fun k => k ∈ cand m S n ∧ ia σ 119 k = 0) best score k → aX11_nextOf_36 g ad d (Ki fun r s => r = ((srt (rkS m S) (cand m S n))[t]?).getD (-1) ∧ s = σ) 0 0 σ n best score set k) (hi := 294 * set + 294) (294 * set) (by omega) ?_ ?_ best score h
      · intro best score h
        have hbb := bb _ _ _ h (by omega)
        refine bX11_nextOf_36 in_ hbb.1 hbb.2 (iR_of (by omega) (by omega)) (iR_of (by omega) (by omega)) hS ⟨iR_of (by omega) (by omega), fun _ => ⟨iR_of (by omega) (by omega), fun _ _ _ _ _ => ih best score ?_⟩, fun q => absurd (Int.le_refl _) q⟩
        rw [show 294 * (set + 1) = 294 * set + 294 by omega]
        exact h
      · intro k hk0 hk1 ihk best score h
        have hbb := bb _ _ _ h (by omega)
        have hkd : k / 294 = set := by omega
        have els := hR.ls k (by omega) (by omega)
        refine bX11_nextOf_36 in_ hbb.1 hbb.2 (iR_of (by omega) (by omega)) (iR_of (by omega) (by omega)) hS ⟨iR_of (by omega) (by omega), fun q => absurd q (by omega), fun _ => ⟨⟨by omega, by omega⟩, ?_⟩⟩
        rw [els]
        refine ⟨fun c1 => ⟨iR_of (by omega) (by omega), fun _ _ _ _ _ _ => ihk best score (BI_skip h (by omega) (fun j hj0 hj1 hu => ?_))⟩, fun c1 => ⟨fun c2 => ?_, fun c2 => ⟨iR_of (by omega) (by omega), fun _ _ _ _ _ _ => ihk best score (BI_skip h (by omega) (fun j hj0 hj1 hu => ?_))⟩⟩⟩
        · have e : j = k := by omega
          rw [e] at hu
          exact (mem_cand.mp hu.1).2.2 c1
        · have hcs := hI.cst k c1
          have hp6 : pc (k / 294) ≤ 6 := st_pc6 (hI.rng k c1).2.2.1
          have ecs := hR.cs k (by omega) (by omega) c1
          have hkm : k ∈ cand m S n := mem_cand.mpr ⟨⟨by omega, by omega⟩, by rw [hkd]; exact c, c1⟩
          have hsb := sco_b hW hI c1
          have hsc := e_scoreOf (g := g) (ad := ad) (d := d - 1) (x1 := k) em hW hS hT ⟨by omega, by omega⟩ (by rw [ecs]; omega) (by omega)
          rw [ecs] at hsc
          refine EI.k hsc (by omega) (fun _ _ => ?_)
          have esc : S.cs k + ahM m (k / 294) = sco m S k := rfl
          rw [esc]
          refine ⟨fun c3 => ⟨iR_of (by omega) (by omega), fun _ _ _ _ _ _ => ihk _ _ (BI_take h (by omega) ⟨hkm, c2⟩ (Or.inl c3))⟩, fun c3 => ?_⟩
          have hbest : 0 ≤ best ∧ best < k ∧ ¬ S.ls best = 0 ∧ score = sco m S best := by
            rcases h with ⟨h1, h2, h3⟩ | ⟨h1, h2, h3, h4⟩
            · exact absurd h1 c3
            · exact ⟨h1.1, h1.2, (mem_cand.mp h2.1).2.2, h3⟩
          have cmp1 := rkS_cmp hI hb hbest.2.2.1 c1
          have cmp2 := rkS_cmp hI hb c1 hbest.2.2.1
          refine ⟨fun c4 => ⟨iR_of (by omega) (by omega), fun _ _ _ _ _ _ => ihk _ _ (BI_keep h c3 (cmp1.mpr (by omega)))⟩, fun c4 => ⟨fun c5 => ⟨iR_of (by omega) (by omega), fun _ _ _ _ _ _ => ihk _ _ (BI_take h (by omega) ⟨hkm, c2⟩ (Or.inr (cmp2.mpr (by omega))))⟩, fun c5 => ⟨⟨by omega, by omega⟩, ?_⟩⟩⟩
          rw [hR.md k (by omega) (by omega) c1, hR.md best (by omega) (by omega) hbest.2.2.1]
          exact ⟨fun c6 => ⟨iR_of (by omega) (by omega), fun _ _ _ _ _ _ => ihk _ _ (BI_take h (by omega) ⟨hkm, c2⟩ (Or.inr (cmp2.mpr (by omega))))⟩, fun c6 => ⟨iR_of (by omega) (by omega), fun _ _ _ _ _ _ => ihk _ _ (BI_keep h c3 (cmp1.mpr (by omega)))⟩⟩
        · have e : j = k := by omega
          rw [e] at hu
          exact c2 hu.2
    · have hkm := (mem_cand.mp hu.1).2.1
      have hkd : k / 294 = set := by omega
      rw [hkd] at hkm
      exact c hkm
/-- those ahead of a key -/
def candTo (S : SK) (n pos : Int) : List Int := (ir 0 pos).filter (fun k => decide ((pc (k / 294) : Int) = n) && decide (¬ S.ls k = 0))
theorem candTo_no {S : SK} {n pos pos' : Int} (h0 : 0 ≤ pos) (hle : pos ≤ pos') (hn : ∀ k, pos ≤ k → k < pos' → ¬ ((pc (k / 294) : Int) = n ∧ ¬ S.ls k = 0)) : candTo S n pos' = candTo S n pos := by
  refine up_loop (P := fun q => candTo S n q = candTo S n pos → candTo S n pos' = candTo S n pos) (hi := pos') pos hle (fun h => h) (fun k hk0 hk1 ih e => ih ?_) rfl
  unfold candTo at e ⊢
  rw [ir_snoc (by omega), List.filter_append, e, List.filter_cons_of_neg, List.filter_nil, List.append_nil]
  intro q
  rw [Bool.and_eq_true, decide_eq_true_eq, decide_eq_true_eq] at q
  exact hn k hk0 hk1 q
theorem candTo_yes {S : SK} {n pos : Int} (h0 : 0 ≤ pos) (h : (pc (pos / 294) : Int) = n ∧ ¬ S.ls pos = 0) : candTo S n (pos + 1) = candTo S n pos ++ [pos] := by
  unfold candTo
  rw [ir_snoc h0, List.filter_append, List.filter_cons_of_pos, List.filter_nil]
  rw [Bool.and_eq_true, decide_eq_true_eq, decide_eq_true_eq]
  exact h
def lowL (m : Int → Int) (S : SK) (l : List Int) : Int := l.foldl (fun b k => if b = -1 ∨ sco m S k < b then sco m S k else b) (-1)
theorem candTo_len {S : SK} {n pos : Int} (h0 : 0 ≤ pos) : ((candTo S n pos).length : Int) ≤ pos := by
  have := List.length_filter_le (fun k => decide ((pc (k / 294) : Int) = n) && decide (¬ S.ls k = 0)) (ir 0 pos)
  rw [ir_length] at this
  unfold candTo
  omega
theorem e_counts {S : SK} {n : Int} (em : ia σ 103 = m) (hW : WF m) (hR : RelS σ S) (hI : IS m S) (hT : StT m (ia σ 117)) (hn : 0 ≤ n ∧ n ≤ 6) (hS : SR σ) (hd : 3 ≤ d) : Eb g ad d mX11_counts 0 0 [.ref (ad 102), vi n] σ (Kv fun s => ia s 125 = up (ia σ 125) n (cand m S n).length ∧ ia s 126 = up (ia σ 126) n (lowM m S n) ∧ Fm [125, 126] [] σ s) := by
  have hW0 := hW.1
  have hfb := full_b hW0
  have in_ : iR n := iR_of (by omega) (by omega)
  have im : iR (-1) := iR_lit rfl
  have hlb : ∀ l, (∀ k ∈ l, ¬ S.ls k = 0) → lowL m S l = -1 ∨ 0 ≤ lowL m S l ∧ lowL m S l ≤ 20000 := by
    intro l hl
    refine foldl_inv (I := fun b : Int => b = -1 ∨ 0 ≤ b ∧ b ≤ 20000) l (-1) (fun b k hk hb => ?_) (Or.inl rfl)
    have := sco_b hW hI (hl k hk)
    split
    · omega
    · exact hb
  refine EbS rfl pl_X11 rfl rfl (bX11_counts_0 in_ hS ⟨⟨by omega, by omega⟩, ?_⟩)
  intro _ _ hS0
  refine up_loop (P := fun set => ∀ τ, SR τ → Fm [125, 126] [] σ τ → ia τ 125 = up (ia σ 125) n (candTo S n (294 * set)).length → ia τ 126 = up (ia σ 126) n (lowL m S (candTo S n (294 * set))) → aX11_counts_16 g ad d (Kv fun s => ia s 125 = up (ia σ 125) n (cand m S n).length ∧ ia s 126 = up (ia σ 126) n (lowM m S n) ∧ Fm [125, 126] [] σ s) 0 0 τ n set) (hi := fullM m + 1) 0 (by omega) ?_ ?_ _ hS0 (((Fm.refl σ).setI (by decide)).setI (by decide)) (by simp (config := {decide := true}) only [sc_S, ia_S, la_S, rv_S, sc_I, rv_I, la_I, ia_I, sc_L, rv_L, ia_L, la_L, sc_A, rv_A, la_A, ia_A, sc_B, rv_B, ia_B, la_B, sc_R, ia_R, la_R, rv_R, ia_w, la_w, rv_w, sc_w, if_true, if_false]; rfl) (by simp (config := {decide := true}) only [sc_S, ia_S, la_S, rv_S, sc_I, rv_I, la_I, ia_I, sc_L, rv_L, ia_L, la_L, sc_A, rv_A, la_A, ia_A, sc_B, rv_B, ia_B, la_B, sc_R, ia_R, la_R, rv_R, ia_w, la_w, rv_w, sc_w, if_true, if_false]; rfl)
  · intro τ hSt hF h5 h6
    have et : ia τ 103 = m := (hF.a 103 rfl).trans em
    refine bX11_counts_16 in_ (iR_of (by omega) (by omega)) hSt ?_
    refine EI.k (by apply (w_full et) <;> (first | with_reducible assumption | with_reducible exact iR_of (by omega) (by omega) | omega | with_reducible (exact bi_01) | assumption)) (by omega) (fun _ _ => ?_)
    exact ⟨fun _ => re_v ⟨h5, h6, hF⟩, fun q => absurd (by omega) q⟩
  · intro set hs0 hs1 ih τ hSt hF h5 h6
    have et : ia τ 103 = m := (hF.a 103 rfl).trans em
    refine bX11_counts_16 in_ (iR_of (by omega) (by omega)) hSt ?_
    refine EI.k (by apply (w_full et) <;> (first | with_reducible assumption | with_reducible exact iR_of (by omega) (by omega) | omega | with_reducible (exact bi_01) | assumption)) (by omega) (fun _ _ => ?_)
    refine ⟨fun q => absurd q (by omega), fun _ => ?_⟩
    refine EI.k (by apply e_bits <;> (first | with_reducible assumption | with_reducible exact iR_of (by omega) (by omega) | omega | with_reducible (exact bi_01) | assumption)) (by omega) (fun _ _ => ?_)
    refine ⟨fun c => ⟨iR_of (by omega) (by omega), fun _ _ _ _ => ?_⟩, fun c => ⟨iR_of (by omega) (by omega), fun _ _ _ => ?_⟩⟩
    · refine up_loop (P := fun k => ∀ τ, SR τ → Fm [125, 126] [] σ τ → ia τ 125 = up (ia σ 125) n (candTo S n k).length → ia τ 126 = up (ia σ 126) n (lowL m S (candTo S n k)) → aX11_counts_41 g ad d (Kv fun s => ia s 125 = up (ia σ 125) n (cand m S n).length ∧ ia s 126 = up (ia σ 126) n (lowM m S n) ∧ Fm [125, 126] [] σ s) 0 0 τ n set k) (hi := 294 * set + 294) (294 * set) (by omega) ?_ ?_ τ hSt hF h5 h6
      · intro τ hSt hF h5 h6
        refine bX11_counts_41 in_ (iR_of (by omega) (by omega)) (iR_of (by omega) (by omega)) hSt ⟨iR_of (by omega) (by omega), fun _ => ⟨iR_of (by omega) (by omega), fun _ _ _ => ?_⟩, fun q => absurd (Int.le_refl _) q⟩
        rw [show 294 * set + 294 = 294 * (set + 1) by omega] at h5 h6
        exact ih τ hSt hF h5 h6
      · intro k hk0 hk1 ihk τ hSt hF h5 h6
        have et : ia τ 103 = m := (hF.a 103 rfl).trans em
        have hkd : k / 294 = set := by omega
        have hRt : RelS τ S := hR.fm hF rfl rfl
        have els := hRt.ls k (by omega) (by omega)
        have hcl := candTo_len (S := S) (n := n) (pos := k) (by omega)
        refine bX11_counts_41 in_ (iR_of (by omega) (by omega)) (iR_of (by omega) (by omega)) hSt ⟨iR_of (by omega) (by omega), fun q => absurd q (by omega), fun _ => ⟨⟨by omega, by omega⟩, ?_⟩⟩
        rw [els]
        refine ⟨fun c1 => ⟨⟨by omega, by omega⟩, ?_⟩, fun c1 => ⟨iR_of (by omega) (by omega), fun _ _ _ _ => ?_⟩⟩
        · have hcs := hI.cst k c1
          have hp6 : pc (k / 294) ≤ 6 := st_pc6 (hI.rng k c1).2.2.1
          have hsb := sco_b hW hI c1
          have e5 : ia τ 125 n = (candTo S n k).length := by rw [h5, up_at]
          rw [e5]
          have hS5 : SR (setI τ 125 n (((candTo S n k).length : Int) + 1)) := SR_setI hSt (iR_of (by omega) (by omega))
          have ecs : ia (setI τ 125 n (((candTo S n k).length : Int) + 1)) 120 k = S.cs k := by simp (config := {decide := true}) only [sc_S, ia_S, la_S, rv_S, sc_I, rv_I, la_I, ia_I, sc_L, rv_L, ia_L, la_L, sc_A, rv_A, la_A, ia_A, sc_B, rv_B, ia_B, la_B, sc_R, ia_R, la_R, rv_R, ia_w, la_w, rv_w, sc_w, if_true, if_false]; exact hRt.cs k (by omega) (by omega) c1
          have hT5 : StT m (ia (setI τ 125 n (((candTo S n k).length : Int) + 1)) 117) := by simp (config := {decide := true}) only [sc_S, ia_S, la_S, rv_S, sc_I, rv_I, la_I, ia_I, sc_L, rv_L, ia_L, la_L, sc_A, rv_A, la_A, ia_A, sc_B, rv_B, ia_B, la_B, sc_R, ia_R, la_R, rv_R, ia_w, la_w, rv_w, sc_w, if_true, if_false]; rw [hF.a 117 rfl]; exact hT
          have hsc := e_scoreOf (g := g) (ad := ad) (d := d - 1) (x1 := k) (by simp (config := {decide := true}) only [sc_S, ia_S, la_S, rv_S, sc_I, rv_I, la_I, ia_I, sc_L, rv_L, ia_L, la_L, sc_A, rv_A, la_A, ia_A, sc_B, rv_B, ia_B, la_B, sc_R, ia_R, la_R, rv_R, ia_w, la_w, rv_w, sc_w, if_true, if_false]; exact et) hW hS5 hT5 ⟨by omega, by omega⟩ (by rw [ecs]; omega) (by omega)
          rw [ecs] at hsc
          refine ⟨iR_of (by omega) (by omega), EI.k hsc (by omega) (fun _ _ => ?_)⟩
          have esc : S.cs k + ahM m (k / 294) = sco m S k := rfl
          have hyes := candTo_yes (S := S) (n := n) (pos := k) (by omega) ⟨by rw [hkd]; exact c, c1⟩
          have hlow : lowL m S (candTo S n (k + 1)) = if lowL m S (candTo S n k) = -1 ∨ sco m S k < lowL m S (candTo S n k) then sco m S k else lowL m S (candTo S n k) := by
            rw [hyes]
            unfold lowL
            rw [List.foldl_append]
            rfl
          have e6 : ia (setI τ 125 n (((candTo S n k).length : Int) + 1)) 126 n = lowL m S (candTo S n k) := by simp (config := {decide := true}) only [sc_S, ia_S, la_S, rv_S, sc_I, rv_I, la_I, ia_I, sc_L, rv_L, ia_L, la_L, sc_A, rv_A, la_A, ia_A, sc_B, rv_B, ia_B, la_B, sc_R, ia_R, la_R, rv_R, ia_w, la_w, rv_w, sc_w, if_true, if_false]; rw [h6, up_at]
          rw [esc, e6]
          have h5' : ia (setI τ 125 n (((candTo S n k).length : Int) + 1)) 125 = up (ia σ 125) n (candTo S n (k + 1)).length := by
            simp (config := {decide := true}) only [sc_S, ia_S, la_S, rv_S, sc_I, rv_I, la_I, ia_I, sc_L, rv_L, ia_L, la_L, sc_A, rv_A, la_A, ia_A, sc_B, rv_B, ia_B, la_B, sc_R, ia_R, la_R, rv_R, ia_w, la_w, rv_w, sc_w, if_true, if_false]
            rw [h5, up_up, hyes, List.length_append]
            rfl
          have upd : ∀ v, lowL m S (candTo S n (k + 1)) = v → SR (setI (setI τ 125 n (((candTo S n k).length : Int) + 1)) 126 n v) → aX11_counts_41 g ad d (Kv fun s => ia s 125 = up (ia σ 125) n (cand m S n).length ∧ ia s 126 = up (ia σ 126) n (lowM m S n) ∧ Fm [125, 126] [] σ s) 0 0 (setI (setI τ 125 n (((candTo S n k).length : Int) + 1)) 126 n v) n set (k + 1) := by
            intro v hv hS'
            refine ihk _ hS' ((hF.setI (by decide)).setI (by decide)) ?_ ?_
            · rw [← h5']; simp (config := {decide := true}) only [sc_S, ia_S, la_S, rv_S, sc_I, rv_I, la_I, ia_I, sc_L, rv_L, ia_L, la_L, sc_A, rv_A, la_A, ia_A, sc_B, rv_B, ia_B, la_B, sc_R, ia_R, la_R, rv_R, ia_w, la_w, rv_w, sc_w, if_true, if_false]
            · simp (config := {decide := true}) only [sc_S, ia_S, la_S, rv_S, sc_I, rv_I, la_I, ia_I, sc_L, rv_L, ia_L, la_L, sc_A, rv_A, la_A, ia_A, sc_B, rv_B, ia_B, la_B, sc_R, ia_R, la_R, rv_R, ia_w, la_w, rv_w, sc_w, if_true, if_false]
              rw [h6, up_up, hv]
          refine ⟨fun c2 => ⟨iR_of (by omega) (by omega), fun _ _ _ hS' => upd _ (by rw [hlow, if_pos (Or.inl c2)]) hS'⟩, fun c2 => ⟨fun c3 => ⟨iR_of (by omega) (by omega), fun _ _ _ hS' => ?_⟩, fun c3 => ⟨iR_of (by omega) (by omega), fun _ _ _ hS' => upd _ (by rw [hlow, if_pos (Or.inr (by omega))]) hS'⟩⟩⟩
          refine ihk _ hS' (hF.setI (by decide)) h5' ?_
          simp (config := {decide := true}) only [sc_S, ia_S, la_S, rv_S, sc_I, rv_I, la_I, ia_I, sc_L, rv_L, ia_L, la_L, sc_A, rv_A, la_A, ia_A, sc_B, rv_B, ia_B, la_B, sc_R, ia_R, la_R, rv_R, ia_w, la_w, rv_w, sc_w, if_true, if_false]
          rw [h6, hlow, if_neg (by omega)]
        · have e := candTo_no (S := S) (n := n) (pos := k) (pos' := k + 1) (by omega) (by omega) (fun j hj0 hj1 q => by
            have e : j = k := by omega
            rw [e] at q
            exact q.2 c1)
          exact ihk τ hSt hF (by rw [e]; exact h5) (by rw [e]; exact h6)
    · have e := candTo_no (S := S) (n := n) (pos := 294 * set) (pos' := 294 * (set + 1)) (by omega) (by omega) (fun j hj0 hj1 q => by
        have e : j / 294 = set := by omega
        rw [e] at q
        exact c q.1)
      exact ih τ hSt hF (by rw [e]; exact h5) (by rw [e]; exact h6)
end STL
