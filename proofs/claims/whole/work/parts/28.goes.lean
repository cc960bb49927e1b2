section FR
variable {σ : SG} {i k a b : Nat} {v : Int}
theorem sc_S : sc (setS σ i k v) a b = if a = i ∧ b = k then v else sc σ a b := rfl
theorem ia_S : ia (setS σ i k v) = ia σ := rfl
theorem la_S : la (setS σ i k v) = la σ := rfl
theorem rv_S : rv (setS σ i k v) = rv σ := rfl
theorem sc_I {j : Int} : sc (setI σ i j v) = sc σ := rfl
theorem rv_I {j : Int} : rv (setI σ i j v) = rv σ := rfl
theorem la_I {j : Int} : la (setI σ i j v) = la σ := rfl
theorem ia_I {j : Int} : ia (setI σ i j v) a = if a = i then up (ia σ i) j v else ia σ a := rfl
theorem sc_L {j : Int} : sc (setL σ i j v) = sc σ := rfl
theorem rv_L {j : Int} : rv (setL σ i j v) = rv σ := rfl
theorem ia_L {j : Int} : ia (setL σ i j v) = ia σ := rfl
theorem la_L {j : Int} : la (setL σ i j v) a = if a = i then up (la σ i) j v else la σ a := rfl
theorem sc_A {f : Int → Int} : sc (setA σ i f) = sc σ := rfl
theorem rv_A {f : Int → Int} : rv (setA σ i f) = rv σ := rfl
theorem la_A {f : Int → Int} : la (setA σ i f) = la σ := rfl
theorem ia_A {f : Int → Int} : ia (setA σ i f) a = if a = i then f else ia σ a := rfl
theorem sc_B {f : Int → Int} : sc (setB σ i f) = sc σ := rfl
theorem rv_B {f : Int → Int} : rv (setB σ i f) = rv σ := rfl
theorem ia_B {f : Int → Int} : ia (setB σ i f) = ia σ := rfl
theorem la_B {f : Int → Int} : la (setB σ i f) a = if a = i then f else la σ a := rfl
theorem sc_R {w : Nat} : sc (setR σ i k w) = sc σ := rfl
theorem ia_R {w : Nat} : ia (setR σ i k w) = ia σ := rfl
theorem la_R {w : Nat} : la (setR σ i k w) = la σ := rfl
theorem rv_R {w : Nat} : rv (setR σ i k w) a b = if a = i ∧ b = k then w else rv σ a b := rfl
theorem ia_w {c l : Int} : ia (wst σ c l) = ia σ := rfl
theorem la_w {c l : Int} : la (wst σ c l) = la σ := rfl
theorem rv_w {c l : Int} : rv (wst σ c l) = rv σ := rfl
theorem sc_w {c l : Int} : sc (wst σ c l) a b = if a = 102 ∧ b = 23 then l else if a = 102 ∧ b = 22 then c else sc σ a b := rfl
end FR
theorem Fm.a {A K : List Nat} {σ s : SG} (h : Fm A K σ s) (c : Nat) (hc : decide (c ∈ A) = false) : ia s c = ia σ c := h.2.2.1 c (of_decide_eq_false hc)
theorem Fm.s {A K : List Nat} {σ s : SG} (h : Fm A K σ s) (k : Nat) (hk : decide (k ∈ K) = false) : sc s 102 k = sc σ 102 k := h.2.2.2 102 k (fun q => of_decide_eq_false hk q.2)
section GO
variable {g : AG} {ad : Nat → Nat} {σ : SG} {m : Int → Int}
/-- what goes answers: of the ways L, n steps done -/
def GoP (n bound : Int) (L : List Wy) (need a : Int) (r : Int) (s : SG) : Prop :=
  (∃ w, (cEq bound L)[need.toNat]? = some w ∧ r = 1 ∧ sc s 102 26 = n + w.2.length ∧ sc s 102 27 = bound ∧ ∀ (i : Nat) (q : Op), w.2[i]? = some q → ia s 114 (n + i) = q.1 ∧ ia s 115 (n + i) = q.2) ∨
  (((cEq bound L).length : Int) ≤ need ∧ r = 0 ∧ sc s 102 30 = need - (cEq bound L).length ∧ sc s 102 29 = bey bound a L)
def GoF (m : Int → Int) (n : Int) (σ s : SG) : Prop := LV m (ia s 112) ∧ Fm [112, 114, 115] [22, 23, 26, 27, 29, 30] σ s ∧ ∀ i, i < n → ia s 114 i = ia σ 114 i ∧ ia s 115 i = ia σ 115 i
theorem GoP_skip {n B need a r v : Int} {s : SG} {A L : List Wy} (h1 : ∀ w ∈ A, B < w.1) (h2 : bey B a A = v) (h : GoP n B L need v r s) : GoP n B (A ++ L) need a r s := by
  unfold GoP at h ⊢
  rw [cEq_app, cEq_none h1, List.nil_append, bey_app, h2]
  exact h
theorem cEq_map {B : Int} {p : Op} {L : List Wy} : cEq B (L.map (fun w => (w.1, p :: w.2))) = (cEq B L).map (fun w => (w.1, p :: w.2)) := by
  unfold cEq
  rw [List.filter_map]
  rfl
theorem bey_map {B a : Int} {p : Op} {L : List Wy} : bey B a (L.map (fun w => (w.1, p :: w.2))) = bey B a L := by
  unfold bey
  rw [List.foldl_map]
theorem GoP_found {n B need a : Int} {s : SG} {A L : List Wy} {p : Op} (hn : 0 ≤ n) (h : GoP (n + 1) B A need a 1 s) (h1 : ia s 114 n = p.1) (h2 : ia s 115 n = p.2) : GoP n B (A.map (fun w => (w.1, p :: w.2)) ++ L) need a 1 s := by
  rcases h with ⟨w, e1, -, e2, e3, e4⟩ | ⟨-, h, -⟩
  · refine Or.inl ⟨(w.1, p :: w.2), ?_, rfl, ?_, e3, ?_⟩
    · rw [cEq_app, cEq_map, List.getElem?_append_left, List.getElem?_map, e1]
      · rfl
      · rw [List.length_map]
        exact (List.getElem?_eq_some_iff.mp e1).1
    · rw [e2]
      show n + 1 + (w.2.length : Int) = n + ((w.2.length + 1 : Nat) : Int)
      omega
    · intro i q hq
      cases i with
      | zero =>
        have e : p = q := Option.some.inj hq
        subst e
        rw [show n + ((0 : Nat) : Int) = n by omega]
        exact ⟨h1, h2⟩
      | succ i =>
        have := e4 i q hq
        rw [show n + ((i + 1 : Nat) : Int) = n + 1 + (i : Int) by omega]
        exact this
  · exact absurd h (by decide)
theorem GoP_next {n B need a : Int} {s : SG} {A L : List Wy} {p : Op} (h : GoP (n + 1) B A need a 0 s) (r : Int) (t : SG) (h2 : GoP n B L (sc s 102 30) (sc s 102 29) r t) : GoP n B (A.map (fun w => (w.1, p :: w.2)) ++ L) need a r t := by
  rcases h with ⟨w, e1, h, -⟩ | ⟨e1, -, e2, e3⟩
  · exact absurd h (by decide)
  · unfold GoP at h2 ⊢
    rw [cEq_app, cEq_map, bey_app, bey_map, List.length_append, List.length_map]
    rw [e2, e3] at h2
    rcases h2 with ⟨w, f1, f2, f3, f4, f5⟩ | ⟨f1, f2, f3, f4⟩
    · refine Or.inl ⟨w, ?_, f2, f3, f4, f5⟩
      rw [List.getElem?_append_right (by rw [List.length_map]; omega), List.length_map, ← f1]
      congr 1
      omega
    · exact Or.inr ⟨by omega, f2, by omega, f4⟩
theorem GoP_need {n B need a : Int} {s : SG} {L : List Wy} (h : GoP n B L need a 0 s) : 0 ≤ sc s 102 30 ∧ sc s 102 30 ≤ need := by
  rcases h with ⟨w, e1, h, -⟩ | ⟨e1, -, e2, e3⟩
  · exact absurd h (by decide)
  · omega
theorem bey_b {b : Int} (hb : 0 ≤ b) : ∀ (L : List Wy) (a : Int), 0 ≤ a → 0 ≤ bey b a L ∧ bey b a L ≤ a
  | [], a, h => ⟨h, Int.le_refl _⟩
  | w :: L, a, h => by
    have e : bey b a (w :: L) = bey b (if b < w.1 then min a w.1 else a) L := rfl
    rw [e]
    by_cases c : b < w.1
    · rw [if_pos c]
      have := bey_b hb L (min a w.1) (by omega)
      omega
    · rw [if_neg c]
      exact bey_b hb L a h
theorem GoP_bey {n B need a : Int} {s : SG} {L : List Wy} (hB : 0 ≤ B) (ha : 0 ≤ a) (h : GoP n B L need a 0 s) : 0 ≤ sc s 102 29 ∧ sc s 102 29 ≤ a := by
  rcases h with ⟨w, e1, h, -⟩ | ⟨e1, -, e2, e3⟩
  · exact absurd h (by decide)
  · rw [e3]; exact bey_b hB L a ha
theorem GoF.up {n : Int} {σ s t : SG} (h : GoF m n σ s) (h1 : LV m (ia t 112)) (h2 : Fm [112, 114, 115] [22, 23, 26, 27, 29, 30] s t) (h3 : ∀ i, i < n → ia t 114 i = ia s 114 i ∧ ia t 115 i = ia s 115 i) : GoF m n σ t :=
  ⟨h1, h.2.1.trans h2, fun i hi => ⟨(h3 i hi).1.trans (h.2.2 i hi).1, (h3 i hi).2.trans (h.2.2 i hi).2⟩⟩
theorem e_goes (hW : WF m) : ∀ (k : Nat) {d : Nat} {σ : SG} {x : Nd} {c n : Int}, mu x < k → k + 11 ≤ d → nd m x → ia σ 103 = m → SR σ → LV m (ia σ 112) → 0 ≤ c → c ≤ 516 * pc x.1 → 0 ≤ n → n ≤ pc x.1 → 0 ≤ sc σ 102 30 → 0 ≤ sc σ 102 28 → sc σ 102 28 < 1000000000 → 0 ≤ sc σ 102 29 → sc σ 102 29 ≤ 1000000000 →
    Eb g ad d mX11_goes 0 0 [.ref (ad 102), vi x.1, vi x.2.1, vi x.2.2, vi c, vi n] σ (Ki fun r s => GoP n (sc σ 102 28) (wyc m c x) (sc σ 102 30) (sc σ 102 29) r s ∧ GoF m n σ s) := by
  intro k
  induction k with
  | zero =>
    intro d σ x c n hk
    omega
  | succ k ih =>
    intro d σ x c n hk hd hx em hS hL hc0 hc1 hn0 hn1 hne hB0 hB1 ha0 ha1
    have h0 := hW.1.1
    have h1 := hW.1.2.1
    have h3 := hW.1.2.2.2.1
    have hW0 := hW.1
    have h6 := st_pc6 hx.1
    have hx1 := hx.1
    have hx2 := hx.2.1
    have hx3 := hx.2.2
    have i1 : iR x.1 := iR_of (by omega) (by omega)
    have i2 : iR x.2.1 := iR_of (by omega) (by omega)
    have i3 : iR x.2.2 := iR_of (by omega) (by omega)
    have ic : iR c := iR_of (by omega) (by omega)
    have iN : iR n := iR_of (by omega) (by omega)
    have im : iR (-1) := iR_lit rfl
    have hne2 := (SR_sc hS 102 30).2
    refine EbS rfl pl_X11 rfl rfl (bX11_goes_0 i1 i2 i3 ic iN hS ?_)
    refine EI.k (by apply w_full <;> (first | with_reducible assumption | with_reducible exact iR_of (by omega) (by omega) | omega | with_reducible (exact bi_01) | assumption)) (by omega) (fun _ _ => ?_)
    refine ⟨fun c1 => ?_, fun c1 => ?_⟩
    · intros
      rw [wyc_step hW hx c1]
      have hf0 : GoF m n σ σ := ⟨hL, Fm.refl σ, fun _ _ => ⟨rfl, rfl⟩⟩
      refine so_loop (m := m) hW0
        (A := fun s => ∀ τ, SR τ → GoF m n σ τ → (0 ≤ sc τ 102 30 ∧ sc τ 102 30 ≤ sc σ 102 30) → (0 ≤ sc τ 102 29 ∧ sc τ 102 29 ≤ 1000000000) → (∀ r t, GoP n (sc σ 102 28) ((sr m s).flatMap (subW m c x)) (sc τ 102 30) (sc τ 102 29) r t → GoP n (sc σ 102 28) ((sr m 0).flatMap (subW m c x)) (sc σ 102 30) (sc σ 102 29) r t) → aX11_goes_90 g ad d (Ki fun r s => GoP n (sc σ 102 28) ((sr m 0).flatMap (subW m c x)) (sc σ 102 30) (sc σ 102 29) r s ∧ GoF m n σ s) 0 0 τ x.1 x.2.1 x.2.2 c n s)
        (B := fun s o => ∀ τ, SR τ → GoF m n σ τ → (0 ≤ sc τ 102 30 ∧ sc τ 102 30 ≤ sc σ 102 30) → (0 ≤ sc τ 102 29 ∧ sc τ 102 29 ≤ 1000000000) → (∀ r t, GoP n (sc σ 102 28) ((so m s o).flatMap (subW m c x)) (sc τ 102 30) (sc τ 102 29) r t → GoP n (sc σ 102 28) ((sr m 0).flatMap (subW m c x)) (sc σ 102 30) (sc σ 102 29) r t) → aX11_goes_108 g ad d (Ki fun r s => GoP n (sc σ 102 28) ((sr m 0).flatMap (subW m c x)) (sc σ 102 30) (sc σ 102 29) r s ∧ GoF m n σ s) 0 0 τ x.1 x.2.1 x.2.2 c n s o)
        ?_ ?_ ?_ ?_ σ hS hf0 ⟨hne, Int.le_refl _⟩ ⟨ha0, ha1⟩ (fun r t h => h)
      · intro τ hSt hF hnd hbe hG
        have et : ia τ 103 = m := (hF.2.1.a 103 rfl).trans em
        refine bX11_goes_90 i1 i2 i3 ic iN (iR_of (by omega) (by omega)) hSt ⟨fun _ => re_i ⟨?_, hF⟩, fun q => absurd (by rw [et]; omega) q⟩
        refine hG _ _ (Or.inr ?_)
        rw [sr_end (Int.le_refl _)]
        exact ⟨hnd.1, rfl, by show _ = sc τ 102 30 - ((0 : Nat) : Int); omega, rfl⟩
      · intro s hs0 hs1 hB τ hSt hF hnd hbe hG
        have et : ia τ 103 = m := (hF.2.1.a 103 rfl).trans em
        refine bX11_goes_90 i1 i2 i3 ic iN (iR_of (by omega) (by omega)) hSt ⟨fun q => absurd q (by rw [et]; omega), fun _ => ?_⟩
        refine EI.k (by apply w_next <;> (first | with_reducible assumption | with_reducible exact iR_of (by omega) (by omega) | omega | with_reducible (exact bi_01) | assumption)) (by omega) (fun _ _ => ?_)
        intros
        rw [sr_so hW0 hs1] at hG
        exact hB τ hSt hF hnd hbe hG
      · intro s hs0 hs1 hA τ hSt hF hnd hbe hG
        refine bX11_goes_108 i1 i2 i3 ic iN (iR_of (by omega) (by omega)) (iR_lit rfl) hSt ⟨fun _ => ⟨iR_of (by omega) (by omega), fun _ _ _ _ _ _ _ => ?_⟩, fun q => absurd (by decide) q⟩
        rw [so_100] at hG
        exact hA τ hSt hF hnd hbe hG
      · intro s o hs0 hs1 ho hnx τ hSt hF hnd hbe hG
        have et : ia τ 103 = m := (hF.2.1.a 103 rfl).trans em
        have eB : sc τ 102 28 = sc σ 102 28 := hF.2.1.s 28 rfl
        have hob := isO_b hW0 ho
        have io : iR o := iR_of (by omega) (by omega)
        have is_ : iR s := iR_of (by omega) (by omega)
        have hmem : (s, o) ∈ sr m 0 := mem_sr.mpr ⟨⟨hs0, hs1⟩, ho⟩
        rw [so_cons hW0 ho, List.flatMap_cons] at hG
        -- the next one
        have nx : ∀ t, SR t → GoF m n σ t → (0 ≤ sc t 102 30 ∧ sc t 102 30 ≤ sc σ 102 30) → (0 ≤ sc t 102 29 ∧ sc t 102 29 ≤ 1000000000) → (∀ r u, GoP n (sc σ 102 28) ((so m s (nxt m o)).flatMap (subW m c x)) (sc t 102 30) (sc t 102 29) r u → GoP n (sc σ 102 28) (subW m c x (s, o) ++ (so m s (nxt m o)).flatMap (subW m c x)) (sc τ 102 30) (sc τ 102 29) r u) → aX11_goes_279 g ad d (Ki fun r s => GoP n (sc σ 102 28) ((sr m 0).flatMap (subW m c x)) (sc σ 102 30) (sc σ 102 29) r s ∧ GoF m n σ s) 0 0 t x.1 x.2.1 x.2.2 c n s o := by
          intro t hS' hF' hn' hb' hG'
          have et' : ia t 103 = m := (hF'.2.1.a 103 rfl).trans em
          refine bX11_goes_279 i1 i2 i3 ic iN is_ io hS' ?_
          refine EI.k (by apply w_next <;> (first | with_reducible assumption | with_reducible exact iR_of (by omega) (by omega) | omega | with_reducible (exact bi_01) | assumption)) (by omega) (fun _ _ => ?_)
          intros
          exact hnx t hS' hF' hn' hb' (fun r u h => hG r u (hG' r u h))
        refine bX11_goes_108 i1 i2 i3 ic iN is_ io hSt ⟨fun q => absurd q (by omega), fun _ => ?_⟩
        refine EI.k (by apply w_may <;> (first | with_reducible assumption | with_reducible exact iR_of (by omega) (by omega) | omega | with_reducible (exact bi_01) | assumption)) (by omega) (fun _ _ => ?_)
        refine bi_nz (fun c4 => ?_) (fun c4 => ?_)
        · have hst := stp_nd hW hx hmem c4
          have hwr := wy_rest hW _ _ hst.1 (Nat.le_refl _)
          have hw1 := hst.2.2.2.2
          have hnd' := hst.1
          have esub : subW m c x (s, o) = (wyc m (c + wgt m x (s, o)) (stp m x (s, o))).map (fun w => (w.1, (s, o) :: w.2)) := if_pos c4
          have hrb := restM_b hW (set := (stp m x (s, o)).1) hnd'.2.1 hnd'.2.2
          refine EV.k (by apply w_weighs <;> (first | with_reducible assumption | with_reducible exact iR_of (by omega) (by omega) | omega | with_reducible (exact bi_01) | assumption)) (by omega) (fun _ => ?_)
          refine EI.k (by apply w_maskOf <;> (first | with_reducible assumption | with_reducible exact iR_of (by omega) (by omega) | omega | with_reducible (exact bi_01) | assumption)) (by omega) (fun _ _ => ?_)
          refine EI.k (by apply w_covers <;> (first | with_reducible assumption | with_reducible exact iR_of (by omega) (by omega) | omega | with_reducible (exact bi_01) | assumption)) (by omega) (fun _ _ => ?_)
          refine Cl.i (w_rest (d := d - 1) (m := m) et (by omega) hnd'.1 hnd'.2.1 hnd'.2.2 hW (by assumption) (by simp (config := {decide := true}) only [sc_S, ia_S, la_S, rv_S, sc_I, rv_I, la_I, ia_I, sc_L, rv_L, ia_L, la_L, sc_A, rv_A, la_A, ia_A, sc_B, rv_B, ia_B, la_B, sc_R, ia_R, la_R, rv_R, ia_w, la_w, rv_w, sc_w, if_true, if_false]; exact hF.1)) (by omega) (fun r6 s6 hr6 hS6 h6' => ?_)
          obtain ⟨e6, hL6, hF6⟩ := h6'
          have hF6' : Fm [112] [22, 23] τ s6 := (Fm.wst (Fm.refl τ) (by decide) (by decide)).trans hF6
          have e28 : sc s6 102 28 = sc σ 102 28 := (hF6'.s 28 rfl).trans eB
          have e29 : sc s6 102 29 = sc τ 102 29 := hF6'.s 29 rfl
          have e30 : sc s6 102 30 = sc τ 102 30 := hF6'.s 30 rfl
          have e114 : ia s6 114 = ia τ 114 := hF6'.a 114 rfl
          have e115 : ia s6 115 = ia τ 115 := hF6'.a 115 rfl
          have e103 : ia s6 103 = m := (hF6'.a 103 rfl).trans et
          have hG6 : GoF m n σ s6 := hF.up hL6 (hF6'.mono (by decide) (by decide)) (fun i _ => by rw [e114, e115]; exact ⟨rfl, rfl⟩)
          have ew : sc (wst τ (weigh m x.2.1 x.2.2 s o).1 (weigh m x.2.1 x.2.2 s o).2) 102 22 = wgt m x (s, o) := by simp (config := {decide := true}) only [sc_S, ia_S, la_S, rv_S, sc_I, rv_I, la_I, ia_I, sc_L, rv_L, ia_L, la_L, sc_A, rv_A, la_A, ia_A, sc_B, rv_B, ia_B, la_B, sc_R, ia_R, la_R, rv_R, ia_w, la_w, rv_w, sc_w, if_true, if_false]
          have ewl : sc (wst τ (weigh m x.2.1 x.2.2 s o).1 (weigh m x.2.1 x.2.2 s o).2) 102 23 = (stp m x (s, o)).2.2 := by simp (config := {decide := true}) only [sc_S, ia_S, la_S, rv_S, sc_I, rv_I, la_I, ia_I, sc_L, rv_L, ia_L, la_L, sc_A, rv_A, la_A, ia_A, sc_B, rv_B, ia_B, la_B, sc_R, ia_R, la_R, rv_R, ia_w, la_w, rv_w, sc_w, if_true, if_false]; rfl
          rw [ew, ewl]
          have er6 : r6 = restM m (stp m x (s, o)).1 (stp m x (s, o)).2.1 (stp m x (s, o)).2.2 := e6
          refine ⟨fun c7 => ⟨iR_of (by omega) (by omega), fun c8 => ⟨⟨hn0, by omega⟩, ?_⟩, fun c8 => ?_⟩, fun c7 => ?_⟩
          · have hSi : SR (setI (setI s6 114 n s) 115 n o) := SR_setI (SR_setI hS6 is_) io
            have ei : ia (setI (setI s6 114 n s) 115 n o) 103 = m := by simp (config := {decide := true}) only [sc_S, ia_S, la_S, rv_S, sc_I, rv_I, la_I, ia_I, sc_L, rv_L, ia_L, la_L, sc_A, rv_A, la_A, ia_A, sc_B, rv_B, ia_B, la_B, sc_R, ia_R, la_R, rv_R, ia_w, la_w, rv_w, sc_w, if_true, if_false]; exact e103
            refine EI.k (by apply w_maskOf <;> (first | with_reducible assumption | with_reducible exact iR_of (by omega) (by omega) | omega | with_reducible (exact bi_01) | assumption)) (by omega) (fun _ _ => ?_)
            refine EI.k (by apply w_covers <;> (first | with_reducible assumption | with_reducible exact iR_of (by omega) (by omega) | omega | with_reducible (exact bi_01) | assumption)) (by omega) (fun _ _ => ?_)
            refine Cl.i (ih (d := d - 1) (σ := setI (setI s6 114 n s) 115 n o) (x := stp m x (s, o)) (c := c + wgt m x (s, o)) (n := n + 1) (by omega) (by omega) hnd' ei hSi (by simp (config := {decide := true}) only [sc_S, ia_S, la_S, rv_S, sc_I, rv_I, la_I, ia_I, sc_L, rv_L, ia_L, la_L, sc_A, rv_A, la_A, ia_A, sc_B, rv_B, ia_B, la_B, sc_R, ia_R, la_R, rv_R, ia_w, la_w, rv_w, sc_w, if_true, if_false]; exact hL6) (by omega) (by omega) (by omega) (by omega) (by simp (config := {decide := true}) only [sc_S, ia_S, la_S, rv_S, sc_I, rv_I, la_I, ia_I, sc_L, rv_L, ia_L, la_L, sc_A, rv_A, la_A, ia_A, sc_B, rv_B, ia_B, la_B, sc_R, ia_R, la_R, rv_R, ia_w, la_w, rv_w, sc_w, if_true, if_false]; omega) (by simp (config := {decide := true}) only [sc_S, ia_S, la_S, rv_S, sc_I, rv_I, la_I, ia_I, sc_L, rv_L, ia_L, la_L, sc_A, rv_A, la_A, ia_A, sc_B, rv_B, ia_B, la_B, sc_R, ia_R, la_R, rv_R, ia_w, la_w, rv_w, sc_w, if_true, if_false]; omega) (by simp (config := {decide := true}) only [sc_S, ia_S, la_S, rv_S, sc_I, rv_I, la_I, ia_I, sc_L, rv_L, ia_L, la_L, sc_A, rv_A, la_A, ia_A, sc_B, rv_B, ia_B, la_B, sc_R, ia_R, la_R, rv_R, ia_w, la_w, rv_w, sc_w, if_true, if_false]; omega) (by simp (config := {decide := true}) only [sc_S, ia_S, la_S, rv_S, sc_I, rv_I, la_I, ia_I, sc_L, rv_L, ia_L, la_L, sc_A, rv_A, la_A, ia_A, sc_B, rv_B, ia_B, la_B, sc_R, ia_R, la_R, rv_R, ia_w, la_w, rv_w, sc_w, if_true, if_false]; omega) (by simp (config := {decide := true}) only [sc_S, ia_S, la_S, rv_S, sc_I, rv_I, la_I, ia_I, sc_L, rv_L, ia_L, la_L, sc_A, rv_A, la_A, ia_A, sc_B, rv_B, ia_B, la_B, sc_R, ia_R, la_R, rv_R, ia_w, la_w, rv_w, sc_w, if_true, if_false]; omega)) (by omega) (fun r7 s7 hr7 hS7 h7 => ?_)
            obtain ⟨hP7, hF7⟩ := h7
            have q28 : sc (setI (setI s6 114 n s) 115 n o) 102 28 = sc σ 102 28 := by simp (config := {decide := true}) only [sc_S, ia_S, la_S, rv_S, sc_I, rv_I, la_I, ia_I, sc_L, rv_L, ia_L, la_L, sc_A, rv_A, la_A, ia_A, sc_B, rv_B, ia_B, la_B, sc_R, ia_R, la_R, rv_R, ia_w, la_w, rv_w, sc_w, if_true, if_false]; exact e28
            have q29 : sc (setI (setI s6 114 n s) 115 n o) 102 29 = sc τ 102 29 := by simp (config := {decide := true}) only [sc_S, ia_S, la_S, rv_S, sc_I, rv_I, la_I, ia_I, sc_L, rv_L, ia_L, la_L, sc_A, rv_A, la_A, ia_A, sc_B, rv_B, ia_B, la_B, sc_R, ia_R, la_R, rv_R, ia_w, la_w, rv_w, sc_w, if_true, if_false]; exact e29
            have q30 : sc (setI (setI s6 114 n s) 115 n o) 102 30 = sc τ 102 30 := by simp (config := {decide := true}) only [sc_S, ia_S, la_S, rv_S, sc_I, rv_I, la_I, ia_I, sc_L, rv_L, ia_L, la_L, sc_A, rv_A, la_A, ia_A, sc_B, rv_B, ia_B, la_B, sc_R, ia_R, la_R, rv_R, ia_w, la_w, rv_w, sc_w, if_true, if_false]; exact e30
            rw [q28, q29, q30] at hP7
            have a4 := hF7.2.2 n (by omega)
            have a4' : ia s7 114 n = s ∧ ia s7 115 n = o := by
              refine ⟨a4.1.trans ?_, a4.2.trans ?_⟩
              · simp (config := {decide := true}) only [sc_S, ia_S, la_S, rv_S, sc_I, rv_I, la_I, ia_I, sc_L, rv_L, ia_L, la_L, sc_A, rv_A, la_A, ia_A, sc_B, rv_B, ia_B, la_B, sc_R, ia_R, la_R, rv_R, ia_w, la_w, rv_w, sc_w, if_true, if_false]; exact up_at
              · simp (config := {decide := true}) only [sc_S, ia_S, la_S, rv_S, sc_I, rv_I, la_I, ia_I, sc_L, rv_L, ia_L, la_L, sc_A, rv_A, la_A, ia_A, sc_B, rv_B, ia_B, la_B, sc_R, ia_R, la_R, rv_R, ia_w, la_w, rv_w, sc_w, if_true, if_false]; exact up_at
            have hG7 : GoF m n σ s7 := hG6.up hF7.1 ((Fm.setI (Fm.setI (Fm.refl s6) (by decide)) (by decide)).trans hF7.2.1) (fun i hi => by
              have a5 := hF7.2.2 i (by omega)
              refine ⟨a5.1.trans ?_, a5.2.trans ?_⟩
              · simp (config := {decide := true}) only [sc_S, ia_S, la_S, rv_S, sc_I, rv_I, la_I, ia_I, sc_L, rv_L, ia_L, la_L, sc_A, rv_A, la_A, ia_A, sc_B, rv_B, ia_B, la_B, sc_R, ia_R, la_R, rv_R, ia_w, la_w, rv_w, sc_w, if_true, if_false]; exact up_ne (by omega)
              · simp (config := {decide := true}) only [sc_S, ia_S, la_S, rv_S, sc_I, rv_I, la_I, ia_I, sc_L, rv_L, ia_L, la_L, sc_A, rv_A, la_A, ia_A, sc_B, rv_B, ia_B, la_B, sc_R, ia_R, la_R, rv_R, ia_w, la_w, rv_w, sc_w, if_true, if_false]; exact up_ne (by omega))
            refine ⟨fun c9 => ?_, fun c9 => re_i ⟨?_, hG7⟩⟩
            · intros
              rw [c9] at hP7
              have hn7 := GoP_need hP7
              have hb7 := GoP_bey hB0 hbe.1 hP7
              refine nx s7 hS7 hG7 (by omega) (by omega) (fun r u h => ?_)
              rw [esub]
              exact GoP_next hP7 r u h
            · refine hG _ _ ?_
              rw [esub]
              have e1 : r7 = 1 := by
                rcases hP7 with ⟨w, q1, q2, -⟩ | ⟨q1, q2, -⟩
                · exact q2
                · exact absurd q2 c9
              rw [e1] at hP7
              exact GoP_found hn0 hP7 a4'.1 a4'.2
          · refine EI.k (by apply e_lesser <;> (first | with_reducible assumption | with_reducible exact iR_of (by omega) (by omega) | omega | with_reducible (exact bi_01) | assumption)) (by omega) (fun _ _ => ?_)
            intros
            have hlt : ∀ w ∈ subW m c x (s, o), sc σ 102 28 < w.1 := by
              intro w hw
              rw [esub] at hw
              obtain ⟨w1, hw1, rfl⟩ := List.mem_map.mp hw
              obtain ⟨w2, hw2, rfl⟩ := List.mem_map.mp hw1
              have := (hwr.1 w2 hw2).1
              show sc σ 102 28 < c + wgt m x (s, o) + w2.1
              omega
            have hbe2 : bey (sc σ 102 28) (sc τ 102 29) (subW m c x (s, o)) = min (sc τ 102 29) (c + wgt m x (s, o) + r6) := by
              refine bey_least hlt ?_ ?_
              · intro w hw
                rw [esub] at hw
                obtain ⟨w1, hw1, rfl⟩ := List.mem_map.mp hw
                obtain ⟨w2, hw2, rfl⟩ := List.mem_map.mp hw1
                have := (hwr.1 w2 hw2).1
                show c + wgt m x (s, o) + r6 ≤ c + wgt m x (s, o) + w2.1
                omega
              · rcases hwr.2 with h | ⟨w, hw, e⟩
                · omega
                · refine ⟨(c + wgt m x (s, o) + w.1, (s, o) :: w.2), ?_, ?_⟩
                  · rw [esub]
                    exact List.mem_map.mpr ⟨_, List.mem_map.mpr ⟨w, hw, rfl⟩, rfl⟩
                  · show c + wgt m x (s, o) + w.1 = _
                    omega
            refine nx _ (by assumption) (hG6.up (by simp (config := {decide := true}) only [sc_S, ia_S, la_S, rv_S, sc_I, rv_I, la_I, ia_I, sc_L, rv_L, ia_L, la_L, sc_A, rv_A, la_A, ia_A, sc_B, rv_B, ia_B, la_B, sc_R, ia_R, la_R, rv_R, ia_w, la_w, rv_w, sc_w, if_true, if_false]; exact hL6) (Fm.setS (Fm.refl s6) (by decide)) (fun i _ => ⟨rfl, rfl⟩)) (by simp (config := {decide := true}) only [sc_S, ia_S, la_S, rv_S, sc_I, rv_I, la_I, ia_I, sc_L, rv_L, ia_L, la_L, sc_A, rv_A, la_A, ia_A, sc_B, rv_B, ia_B, la_B, sc_R, ia_R, la_R, rv_R, ia_w, la_w, rv_w, sc_w, if_true, if_false]; omega) (by simp (config := {decide := true}) only [sc_S, ia_S, la_S, rv_S, sc_I, rv_I, la_I, ia_I, sc_L, rv_L, ia_L, la_L, sc_A, rv_A, la_A, ia_A, sc_B, rv_B, ia_B, la_B, sc_R, ia_R, la_R, rv_R, ia_w, la_w, rv_w, sc_w, if_true, if_false]; omega) (fun r u h => ?_)
            refine GoP_skip hlt hbe2 ?_
            simp (config := {decide := true}) only [sc_S, ia_S, la_S, rv_S, sc_I, rv_I, la_I, ia_I, sc_L, rv_L, ia_L, la_L, sc_A, rv_A, la_A, ia_A, sc_B, rv_B, ia_B, la_B, sc_R, ia_R, la_R, rv_R, ia_w, la_w, rv_w, sc_w, if_true, if_false] at h
            rw [e29, e30] at h
            exact h
          · intros
            have e0 : subW m c x (s, o) = [] := by
              rw [esub]
              rcases hwr.2 with h | ⟨w, hw, e⟩
              · unfold wyc
                rw [h.2]
                rfl
              · have h2 := (hwr.1 w hw).2
                have h7 : mu (stp m x (s, o)) ≤ 6 := by unfold mu; omega
                omega
            refine nx s6 hS6 hG6 (by omega) (by omega) (fun r u h => ?_)
            rw [e0, List.nil_append, ← e29, ← e30]
            exact h
        · intros
          have e0 : subW m c x (s, o) = [] := if_neg c4
          refine nx τ hSt hF hnd hbe (fun r u h => ?_)
          rw [e0, List.nil_append]
          exact h
    · refine EI.k (by apply w_after0 <;> (first | with_reducible assumption | with_reducible exact iR_of (by omega) (by omega) | omega | with_reducible (exact bi_01) | assumption)) (by omega) (fun _ _ => ?_)
      have ha := aft_b hW.1 hW.2.2.1 x.2.2 (-1)
      rw [wyc_full hW hx c1]
      have hall : iR (c + aft m x.2.2 (-1)) := iR_of (by omega) (by omega)
      have fin : ∀ τ, SR τ → GoF m n σ τ → sc τ 102 30 = sc σ 102 30 → sc τ 102 29 = bey (sc σ 102 28) (sc σ 102 29) [(c + aft m x.2.2 (-1), [])] → aX11_goes_41 g ad d (Ki fun r s => GoP n (sc σ 102 28) [(c + aft m x.2.2 (-1), [])] (sc σ 102 30) (sc σ 102 29) r s ∧ GoF m n σ s) 0 0 τ x.1 x.2.1 x.2.2 c n (c + aft m x.2.2 (-1)) := by
        intro τ hSt hF e30 e29
        have eB : sc τ 102 28 = sc σ 102 28 := hF.2.1.s 28 rfl
        have hF2 : ∀ a b c', GoF m n σ (setS (setS (setS τ 102 30 a) 102 26 b) 102 27 c') := fun a b c' => hF.up (by simp (config := {decide := true}) only [sc_S, ia_S, la_S, rv_S, sc_I, rv_I, la_I, ia_I, sc_L, rv_L, ia_L, la_L, sc_A, rv_A, la_A, ia_A, sc_B, rv_B, ia_B, la_B, sc_R, ia_R, la_R, rv_R, ia_w, la_w, rv_w, sc_w, if_true, if_false]; exact hF.1) (Fm.setS (Fm.setS (Fm.setS (Fm.refl τ) (by decide)) (by decide)) (by decide)) (fun i _ => ⟨rfl, rfl⟩)
        refine bX11_goes_41 i1 i2 i3 ic iN hall hSt ⟨fun e => ⟨iR_of (by omega) (by omega), fun c4 => re_i ⟨?_, hF2 _ _ _⟩, fun c4 => re_i ⟨?_, hF2 _ _ _⟩⟩, fun e => re_i ⟨?_, hF⟩⟩
        · have e2 : cEq (sc σ 102 28) [(c + aft m x.2.2 (-1), ([] : List Op))] = [(c + aft m x.2.2 (-1), [])] := by
            unfold cEq
            rw [List.filter_cons_of_pos (by simp only [decide_eq_true_eq]; omega)]
            rfl
          refine Or.inr ?_
          rw [e2]
          simp (config := {decide := true}) only [sc_S, ia_S, la_S, rv_S, sc_I, rv_I, la_I, ia_I, sc_L, rv_L, ia_L, la_L, sc_A, rv_A, la_A, ia_A, sc_B, rv_B, ia_B, la_B, sc_R, ia_R, la_R, rv_R, ia_w, la_w, rv_w, sc_w, if_true, if_false] at c4
          refine ⟨by show ((1 : Nat) : Int) ≤ _; omega, rfl, by simp (config := {decide := true}) only [sc_S, ia_S, la_S, rv_S, sc_I, rv_I, la_I, ia_I, sc_L, rv_L, ia_L, la_L, sc_A, rv_A, la_A, ia_A, sc_B, rv_B, ia_B, la_B, sc_R, ia_R, la_R, rv_R, ia_w, la_w, rv_w, sc_w, if_true, if_false]; show _ = _ - ((1 : Nat) : Int); omega, by simp (config := {decide := true}) only [sc_S, ia_S, la_S, rv_S, sc_I, rv_I, la_I, ia_I, sc_L, rv_L, ia_L, la_L, sc_A, rv_A, la_A, ia_A, sc_B, rv_B, ia_B, la_B, sc_R, ia_R, la_R, rv_R, ia_w, la_w, rv_w, sc_w, if_true, if_false]; exact e29⟩
        · have e2 : cEq (sc σ 102 28) [(c + aft m x.2.2 (-1), ([] : List Op))] = [(c + aft m x.2.2 (-1), [])] := by
            unfold cEq
            rw [List.filter_cons_of_pos (by simp only [decide_eq_true_eq]; omega)]
            rfl
          refine Or.inl ⟨(c + aft m x.2.2 (-1), []), ?_, rfl, by simp (config := {decide := true}) only [sc_S, ia_S, la_S, rv_S, sc_I, rv_I, la_I, ia_I, sc_L, rv_L, ia_L, la_L, sc_A, rv_A, la_A, ia_A, sc_B, rv_B, ia_B, la_B, sc_R, ia_R, la_R, rv_R, ia_w, la_w, rv_w, sc_w, if_true, if_false]; show n = n + ((0 : Nat) : Int); omega, by simp (config := {decide := true}) only [sc_S, ia_S, la_S, rv_S, sc_I, rv_I, la_I, ia_I, sc_L, rv_L, ia_L, la_L, sc_A, rv_A, la_A, ia_A, sc_B, rv_B, ia_B, la_B, sc_R, ia_R, la_R, rv_R, ia_w, la_w, rv_w, sc_w, if_true, if_false]; omega, fun i q h => by cases h⟩
          simp (config := {decide := true}) only [sc_S, ia_S, la_S, rv_S, sc_I, rv_I, la_I, ia_I, sc_L, rv_L, ia_L, la_L, sc_A, rv_A, la_A, ia_A, sc_B, rv_B, ia_B, la_B, sc_R, ia_R, la_R, rv_R, ia_w, la_w, rv_w, sc_w, if_true, if_false] at c4
          rw [e2, show (sc σ 102 30).toNat = 0 by omega]
          rfl
        · have e2 : cEq (sc σ 102 28) [(c + aft m x.2.2 (-1), ([] : List Op))] = [] := by
            unfold cEq
            rw [List.filter_cons_of_neg (by simp only [decide_eq_true_eq]; omega)]
            rfl
          refine Or.inr ?_
          rw [e2]
          exact ⟨hne, rfl, by show _ = _ - ((0 : Nat) : Int); omega, e29⟩
      refine ⟨hall, fun c2 => ?_, fun c2 => ?_⟩
      · intros
        refine fin σ hS ⟨hL, Fm.refl σ, fun _ _ => ⟨rfl, rfl⟩⟩ rfl ?_
        show _ = if sc σ 102 28 < c + aft m x.2.2 (-1) then _ else _
        rw [if_neg (by omega)]
      · refine EI.k (by apply e_lesser <;> (first | with_reducible assumption | with_reducible exact iR_of (by omega) (by omega) | omega | with_reducible (exact bi_01) | assumption)) (by omega) (fun _ _ => ?_)
        intros
        refine fin _ (by assumption) ⟨by simp (config := {decide := true}) only [sc_S, ia_S, la_S, rv_S, sc_I, rv_I, la_I, ia_I, sc_L, rv_L, ia_L, la_L, sc_A, rv_A, la_A, ia_A, sc_B, rv_B, ia_B, la_B, sc_R, ia_R, la_R, rv_R, ia_w, la_w, rv_w, sc_w, if_true, if_false]; exact hL, Fm.setS (Fm.refl σ) (by decide), fun _ _ => ⟨rfl, rfl⟩⟩ (by simp (config := {decide := true}) only [sc_S, ia_S, la_S, rv_S, sc_I, rv_I, la_I, ia_I, sc_L, rv_L, ia_L, la_L, sc_A, rv_A, la_A, ia_A, sc_B, rv_B, ia_B, la_B, sc_R, ia_R, la_R, rv_R, ia_w, la_w, rv_w, sc_w, if_true, if_false]) ?_
        show _ = if sc σ 102 28 < c + aft m x.2.2 (-1) then _ else _
        rw [if_pos (by omega)]
        simp (config := {decide := true}) only [sc_S, ia_S, la_S, rv_S, sc_I, rv_I, la_I, ia_I, sc_L, rv_L, ia_L, la_L, sc_A, rv_A, la_A, ia_A, sc_B, rv_B, ia_B, la_B, sc_R, ia_R, la_R, rv_R, ia_w, la_w, rv_w, sc_w, if_true, if_false]
end GO
