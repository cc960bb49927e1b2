/-- the texts that were added -/
def LkT (s : SG) (T : List (List Int)) : Prop := sc s 88 3 = (T.length : Int) ∧ T.length ≤ 10 ∧ ∀ (i : Nat) (l : List Int), T[i]? = some l → l.length ≤ 18 ∧ ia s 101 i = l.length ∧ ∀ a : Nat, a < l.length → ia s (91 + i) a = l.getD a 0
def edW (a b : List Int) : Int := edT (fun i => a.getD i 0) (fun j => b.getD j 0) a.length b.length
def sumW (T : List (List Int)) (i : Int) : Int := (ir 0 T.length).foldl (fun s j => s + edW (T.getD i.toNat []) (T.getD j.toNat [])) 0
def midW (T : List (List Int)) : Int := ((ir 0 T.length).foldl (fun (b : Int × Int) i => if b.1 = -1 ∨ sumW T i < b.2 then (i, sumW T i) else b) (-1, 0)).1
section LI3
variable {g : AG} {ad : Nat → Nat} {d : Nat} {σ : SG} {m t : Int → Int} {k : Nat}
def Lcl (c : Nat) : Prop := 88 ≤ c ∧ c ≤ 101
theorem aI_T {i : Nat} (h : i < 10) : aI (90 + 1 + i) 18 := by
  rcases i with _ | _ | _ | _ | _ | _ | _ | _ | _ | _ | i
  · exact aI_91
  · exact aI_92
  · exact aI_93
  · exact aI_94
  · exact aI_95
  · exact aI_96
  · exact aI_97
  · exact aI_98
  · exact aI_99
  · exact aI_100
  · omega
theorem l_clear (hS : SR σ) : Eb g ad d mX4_clear 0 0 [.ref (ad 88)] σ (Kv fun s => LkT s [] ∧ Fr Lcl σ s) :=
  EbS rfl pl_X4 rfl rfl (bX4_clear_0 hS (re_v ⟨⟨by simp (config := {decide := true}) only [sc_S, ia_S, la_S, rv_S, sc_I, rv_I, la_I, ia_I, sc_L, rv_L, ia_L, la_L, sc_A, rv_A, la_A, ia_A, sc_B, rv_B, ia_B, la_B, sc_R, ia_R, la_R, rv_R, ia_w, la_w, rv_w, sc_w, if_true, if_false], by decide, fun i l h => by cases h⟩, (Fr.refl σ).S ⟨by omega, by omega⟩⟩))
theorem l_add {c1 n1 : Nat} {l : List Int} {T : List (List Int)} (hc1 : aI c1 n1) (hcc : c1 < 88 ∨ 101 < c1) (hT : LkT σ T) (h10 : T.length < 10) (hl : hl (ia σ c1) 0 l) (hln : l.length ≤ n1 ∧ l.length ≤ 18) (hS : SR σ) (hd : 2 ≤ d) : Eb g ad d mX4_add 0 0 [.ref (ad 88), .ref (ad c1), vi (l.length : Int)] σ (Kv fun s => LkT s (T ++ [l]) ∧ Fr Lcl σ s) := by
  refine EbS rfl pl_X4 rfl rfl (bX4_add_0 hc1 (iR_of (by omega) (by omega)) hS ?_)
  have hT1 := hT.1
  rw [hT1]
  refine ⟨fun z => by omega, fun _ => ⟨⟨by omega, by omega⟩, ⟨by omega, by omega, by omega, by omega, by omega⟩, hd, ?_⟩⟩
  rw [show (((T.length : Nat) : Int)).toNat = T.length by omega]
  simp (config := {decide := true}) only [sc_S, ia_S, la_S, rv_S, sc_I, rv_I, la_I, ia_I, sc_L, rv_L, ia_L, la_L, sc_A, rv_A, la_A, ia_A, sc_B, rv_B, ia_B, la_B, sc_R, ia_R, la_R, rv_R, ia_w, la_w, rv_w, sc_w, if_true, if_false]
  rw [hT1]
  refine ⟨⟨by omega, by omega⟩, iR_of (by omega) (by omega), re_v ⟨⟨?_, ?_, fun i l' hi => ?_⟩, ?_⟩⟩
  · simp (config := {decide := true}) only [sc_S, ia_S, la_S, rv_S, sc_I, rv_I, la_I, ia_I, sc_L, rv_L, ia_L, la_L, sc_A, rv_A, la_A, ia_A, sc_B, rv_B, ia_B, la_B, sc_R, ia_R, la_R, rv_R, ia_w, la_w, rv_w, sc_w, if_true, if_false]
    rw [List.length_append, List.length_singleton]
    omega
  · rw [List.length_append, List.length_singleton]; omega
  · have e101 : ∀ v : Int → Int, ia (setS (setI (setA σ (90 + 1 + T.length) v) 101 T.length l.length) 88 3 ((T.length : Int) + 1)) 101 = up (ia σ 101) T.length l.length := fun v => by
      show ia (setI (setA σ (90 + 1 + T.length) v) 101 T.length l.length) 101 = _
      rw [ia_I, if_pos rfl, ia_A, if_neg (by omega)]
    have eT : ∀ (v : Int → Int) (j : Nat), j < 10 → ia (setS (setI (setA σ (90 + 1 + T.length) v) 101 T.length l.length) 88 3 ((T.length : Int) + 1)) (91 + j) = if j = T.length then v else ia σ (91 + j) := fun v j hj => by
      show ia (setI (setA σ (90 + 1 + T.length) v) 101 T.length l.length) (91 + j) = _
      rw [ia_I, if_neg (by omega), ia_A]
      by_cases c : j = T.length
      · rw [if_pos c, if_pos (by omega)]
      · rw [if_neg c, if_neg (by omega)]
    rw [e101]
    by_cases c : i < T.length
    · rw [List.getElem?_append_left c] at hi
      have := hT.2.2 i l' hi
      rw [up_ne (by omega), eT _ i (by omega), if_neg (by omega)]
      exact this
    · rw [List.getElem?_append_right (by omega)] at hi
      have hi1 : i - T.length < 1 := (List.getElem?_eq_some_iff.mp hi).1
      have hi2 : i = T.length := by omega
      subst hi2
      rw [Nat.sub_self] at hi
      have := Option.some.inj hi
      subst this
      rw [up_at, eT _ _ (by omega), if_pos rfl]
      refine ⟨hln.2, rfl, fun a ha => ?_⟩
      unfold cpy
      rw [if_pos ⟨by omega, by omega⟩, show (0 : Int) + ((a : Int) - 0) = 0 + a by omega]
      exact hl_getD hl ha
  · exact (((Fr.refl σ).A ⟨by omega, by omega⟩).I ⟨by omega, by omega⟩).S ⟨by omega, by omega⟩
theorem edW_b (a b : List Int) : 0 ≤ edW a b ∧ edW a b ≤ a.length + b.length := edT_b _ _
theorem l_middle {T : List (List Int)} (hT : LkT σ T) (h1 : 1 ≤ T.length) (hS : SR σ) (hd : 2 ≤ d) : Eb g ad d mX4_middle 0 0 [.ref (ad 88)] σ (Ki fun r s => r = midW T ∧ Fr (fun c => c = 89) σ s ∧ sc s = sc σ) := by
  have h10 := hT.2.1
  refine EbS rfl pl_X4 rfl rfl (bX4_middle_0 hS ?_)
  intro _ _ _ _
  have hTt : ∀ {τ : SG}, Fr (fun c => c = 89) σ τ → sc τ = sc σ → LkT τ T := fun {τ} hF hsc => ⟨by rw [hsc]; exact hT.1, h10, fun i l hi => by
    have := hT.2.2 i l hi
    rw [hF.ia 101 (by omega), hF.ia (91 + i) (by omega)]
    exact this⟩
  have hgl : ∀ i : Int, 0 ≤ i → i < T.length → T[i.toNat]? = some (T.getD i.toNat []) := fun i h0 h1 => by
    have hi : i.toNat < T.length := by omega
    rw [List.getElem?_eq_getElem hi, List.getD_eq_getElem?_getD, List.getElem?_eq_getElem hi]
    rfl
  have hsb : ∀ i : Int, 0 ≤ i → i < T.length → 0 ≤ sumW T i ∧ sumW T i ≤ 360 := fun i h0 h1 => by
    have hli := (hT.2.2 i.toNat _ (hgl i h0 h1)).1
    have key : ∀ (n : Nat) (j s : Int), 0 ≤ j → j + n = T.length → 0 ≤ s → 0 ≤ (ir j T.length).foldl (fun s j => s + edW (T.getD i.toNat []) (T.getD j.toNat [])) s ∧ (ir j T.length).foldl (fun s j => s + edW (T.getD i.toNat []) (T.getD j.toNat [])) s ≤ s + 36 * n := by
      intro n
      induction n with
      | zero => intro j s _ hj hs; rw [ir_nil (by omega)]; exact ⟨hs, by show s ≤ s + 36 * ((0 : Nat) : Int); omega⟩
      | succ n ih =>
        intro j s hj0 hj hs
        rw [ir_cons (by omega), List.foldl_cons]
        have h2 := edW_b (T.getD i.toNat []) (T.getD j.toNat [])
        have h3 := (hT.2.2 j.toNat _ (hgl j hj0 (by omega))).1
        have := ih (j + 1) (s + edW (T.getD i.toNat []) (T.getD j.toNat [])) (by omega) (by omega) (by omega)
        omega
    have := key T.length 0 0 (Int.le_refl _) (by omega) (Int.le_refl _)
    unfold sumW
    omega
  refine up_loop (P := fun i => ∀ (τ : SG) (best least : Int) (B : Int × Int), SR τ → Fr (fun c => c = 89) σ τ → sc τ = sc σ → (i = 0 → B = (-1, 0) ∧ best = 0 ∧ least = 1000000) → (¬ i = 0 → B = (best, least) ∧ (0 ≤ best ∧ best < i) ∧ 0 ≤ least ∧ least ≤ 360) → ((ir i T.length).foldl (fun (b : Int × Int) i => if b.1 = -1 ∨ sumW T i < b.2 then (i, sumW T i) else b) B).1 = midW T → aX4_middle_7 g ad d (Ki fun r s => r = midW T ∧ Fr (fun c => c = 89) σ s ∧ sc s = sc σ) 0 0 τ best least i) (hi := (T.length : Int)) 0 (by omega) ?_ ?_ σ 0 1000000 (-1, 0) hS (Fr.refl σ) rfl (fun _ => ⟨rfl, rfl, rfl⟩) (fun z => absurd rfl z) rfl
  · intro τ best least B hSt hF hsc _ hB hv
    obtain ⟨e, hb, hl⟩ := hB (by omega)
    rw [ir_nil (Int.le_refl _), e] at hv
    exact bX4_middle_7 (iR_of (by omega) (by omega)) (iR_of (by omega) (by omega)) (iR_of (by omega) (by omega)) hSt ⟨fun _ => re_i ⟨hv, hF, hsc⟩, fun z => absurd (by rw [(hTt hF hsc).1]; omega) z⟩
  · intro i hi0 hi1 ih τ best least B hSt hF hsc h0 hB hv
    have hbl : (0 ≤ best ∧ best ≤ i) ∧ 0 ≤ least ∧ least ≤ 1000000 := by
      by_cases c : i = 0
      · have := h0 c; omega
      · have := hB c; omega
    have ib : iR best := iR_of (by omega) (by omega)
    have il : iR least := iR_of (by omega) (by omega)
    have ii : iR i := iR_of (by omega) (by omega)
    rw [ir_cons hi1, List.foldl_cons] at hv
    refine bX4_middle_7 ib il ii hSt ⟨fun z => absurd z (by rw [(hTt hF hsc).1]; omega), fun _ _ _ _ _ _ _ => ?_⟩
    refine up_loop (P := fun j => ∀ (τ : SG) (s : Int), SR τ → Fr (fun c => c = 89) σ τ → sc τ = sc σ → (0 ≤ s ∧ s ≤ 36 * j) → (ir j T.length).foldl (fun s j => s + edW (T.getD i.toNat []) (T.getD j.toNat [])) s = sumW T i → aX4_middle_21 g ad d (Ki fun r s => r = midW T ∧ Fr (fun c => c = 89) σ s ∧ sc s = sc σ) 0 0 τ best least i s j) (hi := (T.length : Int)) 0 (by omega) ?_ ?_ τ 0 hSt hF hsc (by omega) rfl
    · intro τ s hSt hF hsc hs hvs
      rw [ir_nil (Int.le_refl _)] at hvs
      have hvs' : s = sumW T i := hvs
      have hsi := hsb i hi0 hi1
      refine bX4_middle_21 ib il ii (iR_of (by omega) (by omega)) (iR_of (by omega) (by omega)) hSt ⟨fun _ => ⟨fun c => ⟨iR_of (by omega) (by omega), fun _ _ _ _ => ?_⟩, fun c => ⟨iR_of (by omega) (by omega), fun _ _ _ _ => ?_⟩⟩, fun z => absurd (by rw [(hTt hF hsc).1]; omega) z⟩
      · by_cases c0 : i = 0
        · have := h0 c0; omega
        · obtain ⟨e, hb, hl⟩ := hB c0
          rw [e, if_neg (by show ¬ (best = -1 ∨ sumW T i < least); omega)] at hv
          exact ih τ best least (best, least) hSt hF hsc (fun z => by omega) (fun _ => ⟨rfl, by omega, hl⟩) hv
      · have hcond : B.1 = -1 ∨ sumW T i < B.2 := by
          by_cases c0 : i = 0
          · rw [(h0 c0).1]; exact Or.inl rfl
          · rw [(hB c0).1]; right; show sumW T i < least; omega
        rw [if_pos hcond] at hv
        rw [hvs']
        exact ih τ i (sumW T i) (i, sumW T i) hSt hF hsc (fun z => by omega) (fun _ => ⟨rfl, by omega, hsi⟩) hv
    · intro j hj0 hj1 ihj τ s hSt hF hsc hs hvs
      rw [ir_cons hj1, List.foldl_cons] at hvs
      have hL := hTt hF hsc
      have l1 := hL.2.2 i.toNat _ (hgl i hi0 hi1)
      have l2 := hL.2.2 j.toNat _ (hgl j hj0 hj1)
      rw [show ((i.toNat : Nat) : Int) = i by omega] at l1
      rw [show ((j.toNat : Nat) : Int) = j by omega] at l2
      have hed := edW_b (T.getD i.toNat []) (T.getD j.toNat [])
      refine bX4_middle_21 ib il ii (iR_of (by omega) (by omega)) (iR_of (by omega) (by omega)) hSt ⟨fun z => absurd z (by rw [hL.1]; omega), fun _ => ⟨⟨hi0, by omega⟩, ⟨hj0, by omega⟩, ?_⟩⟩
      rw [l1.2.1, l2.2.1]
      refine Cl.i (l_apart (d := d - 1) (A := fun a => (T.getD i.toNat []).getD a 0) (B := fun b => (T.getD j.toNat []).getD b 0) (aI_T (i := i.toNat) (by omega)) (aI_T (i := j.toNat) (by omega)) ⟨by omega, by omega⟩ (fun a ha => by
        rw [show 90 + 1 + i.toNat = 91 + i.toNat by omega]
        exact l1.2.2 a (by omega)) (fun a ha => by
        rw [show 90 + 1 + j.toNat = 91 + j.toNat by omega]
        exact l2.2.2 a (by omega)) ⟨by omega, by omega, by omega⟩ ⟨by omega, by omega, by omega⟩ hSt (by omega)) (by omega) (fun r s5 hr hS5 h5 => ?_)
      obtain ⟨er, hF5, hsc5⟩ := h5
      have er' : r = edW (T.getD i.toNat []) (T.getD j.toNat []) := by
        rw [er]
        unfold edW
        rw [show (((T.getD i.toNat []).length : Nat) : Int).toNat = (T.getD i.toNat []).length by omega, show (((T.getD j.toNat []).length : Nat) : Int).toNat = (T.getD j.toNat []).length by omega]
      rw [er']
      exact ⟨iR_of (by omega) (by omega), iR_of (by omega) (by omega), fun _ _ _ _ _ _ => ihj s5 _ hS5 (hF.trans hF5) (hsc5.trans hsc) (by omega) hvs⟩
end LI3
