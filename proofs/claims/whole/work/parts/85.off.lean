section OFF
variable {g : AG} {ad : Nat → Nat} {d : Nat} {σ : SG} {m t : Int → Int} {k : Nat}
/-- rows of halves that stay, with their ranks -/
def StA (s : SG) (rk : Int → Int) (T : List Int) : Prop := ∀ (p : Nat) (i : Int), T[p]? = some i → ia s 83 p = i ∧ la s 82 p = rk i
/-- what an offer leaves as it was -/
def Ok (σ s : SG) : Prop := Fr (fun c => c = 82 ∨ c = 83 ∨ c = 75) σ s ∧ ∀ j, ¬ j = 11 → sc s 75 j = sc σ 75 j
theorem Ok.refl : Ok σ σ := ⟨Fr.refl σ, fun _ _ => rfl⟩
theorem Ok.trans {s u : SG} (h1 : Ok σ s) (h2 : Ok s u) : Ok σ u := ⟨h1.1.trans h2.1, fun j hj => (h2.2 j hj).trans (h1.2 j hj)⟩
theorem f_offer61 {rk : Int → Int} {x x2 : Int} {T : List Int} (hU : Up rk T) (hx : 0 ≤ x ∧ x < 7913) (h2 : iR x2) (hL : T.length < 40) (hr : ∀ y, y = x ∨ y ∈ T → lR (rk y)) (hTb : ∀ y ∈ T, 0 ≤ y ∧ y < 7913) (hne : ∀ y ∈ T, rk x ≠ rk y) : ∀ (n : Nat) (τ : SG), n ≤ T.length → SR τ → Ok σ τ → sc τ 75 11 = (T.length : Int) + 1 → (∀ (p : Nat) (i : Int), p < n → T[p]? = some i → ia τ 83 p = i ∧ la τ 82 p = rk i) → (∀ (p : Nat) (i : Int), n ≤ p → T[p]? = some i → ia τ 83 (p + 1 : Nat) = i ∧ la τ 82 (p + 1 : Nat) = rk i) → (∀ y ∈ T.drop n, rk x < rk y) → aX7_offer_61 g ad d (Kv fun s => StA s rk (ins rk x T) ∧ sc s 75 11 = (T.length : Int) + 1 ∧ Ok σ s) 0 0 τ x x2 (rk x) n := by
  have ix : iR x := iR_of (by omega) (by omega)
  have ir_ : lR (rk x) := hr x (Or.inl rfl)
  -- it is put at n
  have put : ∀ (n : Nat) (τ : SG), n ≤ T.length → SR τ → Ok σ τ → sc τ 75 11 = (T.length : Int) + 1 → (∀ (p : Nat) (i : Int), p < n → T[p]? = some i → ia τ 83 p = i ∧ la τ 82 p = rk i) → (∀ (p : Nat) (i : Int), n ≤ p → T[p]? = some i → ia τ 83 (p + 1 : Nat) = i ∧ la τ 82 (p + 1 : Nat) = rk i) → (∀ y ∈ T.drop n, rk x < rk y) → (∀ y ∈ T.take n, rk y < rk x) → StA (setI (setL τ 82 n (rk x)) 83 n x) rk (ins rk x T) ∧ sc (setI (setL τ 82 n (rk x)) 83 n x) 75 11 = (T.length : Int) + 1 ∧ Ok σ (setI (setL τ 82 n (rk x)) 83 n x) := by
    intro n τ hn hSt hO h11 hlo hhi hd hu
    refine ⟨fun p i hp => ?_, h11, hO.trans ⟨((Fr.refl τ).L (Or.inl rfl)).I (Or.inr (Or.inl rfl)), fun j hj => rfl⟩⟩
    rw [ins_at T n hn hu hd] at hp
    have e83 : ia (setI (setL τ 82 n (rk x)) 83 n x) 83 = up (ia τ 83) n x := by simp (config := {decide := true}) only [sc_S, ia_S, la_S, rv_S, sc_I, rv_I, la_I, ia_I, sc_L, rv_L, ia_L, la_L, sc_A, rv_A, la_A, ia_A, sc_B, rv_B, ia_B, la_B, sc_R, ia_R, la_R, rv_R, ia_w, la_w, rv_w, sc_w, if_true, if_false]
    have e82 : la (setI (setL τ 82 n (rk x)) 83 n x) 82 = up (la τ 82) n (rk x) := by simp (config := {decide := true}) only [sc_S, ia_S, la_S, rv_S, sc_I, rv_I, la_I, ia_I, sc_L, rv_L, ia_L, la_L, sc_A, rv_A, la_A, ia_A, sc_B, rv_B, ia_B, la_B, sc_R, ia_R, la_R, rv_R, ia_w, la_w, rv_w, sc_w, if_true, if_false]
    rw [e83, e82]
    have htl : (T.take n).length = n := by rw [List.length_take]; omega
    by_cases c1 : p < n
    · rw [List.getElem?_append_left (by rw [htl]; exact c1), List.getElem?_take, if_pos c1] at hp
      rw [up_ne (by omega), up_ne (by omega)]
      exact hlo p i c1 hp
    · rw [List.getElem?_append_right (by rw [htl]; omega), htl] at hp
      by_cases c2 : p = n
      · subst c2
        rw [Nat.sub_self] at hp
        have := Option.some.inj hp
        subst this
        rw [up_at, up_at]
        exact ⟨rfl, rfl⟩
      · obtain ⟨q, hq⟩ : ∃ q, p = q + 1 := ⟨p - 1, by omega⟩
        subst hq
        rw [show q + 1 - n = (q - n) + 1 by omega, List.getElem?_cons_succ, List.getElem?_drop, show n + (q - n) = q by omega] at hp
        rw [up_ne (by omega), up_ne (by omega)]
        exact hhi q i (by omega) hp
  intro n
  induction n with
  | zero =>
    intro τ hn hSt hO h11 hlo hhi hd
    have := put 0 τ hn hSt hO h11 hlo hhi hd (fun y hy => by rw [List.take_zero] at hy; cases hy)
    exact bX7_offer_61 ix h2 ir_ (iR_lit rfl) hSt ⟨fun _ => ⟨⟨by decide, by decide⟩, re_v this⟩, fun z => absurd (Int.le_refl _) z⟩
  | succ n ih =>
    intro τ hn hSt hO h11 hlo hhi hd
    have hnl : n < T.length := by omega
    have hgn := List.getElem?_eq_getElem hnl
    have hy := hlo n _ (by omega) hgn
    have hmem := List.getElem_mem hnl
    generalize T[n] = y at hgn hy hmem
    have ery := hr y (Or.inr hmem)
    have i5 : iR ((n + 1 : Nat) : Int) := iR_of (by omega) (by omega)
    have e1 : ((n + 1 : Nat) : Int) - 1 = n := by omega
    have e1' : ((n + 1 : Nat) : Int) + (-1) = n := by omega
    have hne' := hne y hmem
    refine bX7_offer_61 ix h2 ir_ i5 hSt ⟨fun z => absurd z (by omega), fun _ => ?_⟩
    rw [e1, hy.2]
    refine ⟨⟨by omega, by omega⟩, fun c => ⟨⟨by omega, by omega⟩, re_v ?_⟩, fun c => ⟨⟨by omega, by omega⟩, ?_⟩⟩
    · have hlt : rk y < rk x := by
        have := (lCmp_le ery ir_).mp c
        omega
      refine put (n + 1) τ hn hSt hO h11 hlo hhi hd (fun z hz => ?_)
      obtain ⟨p, hp, e⟩ := List.getElem_of_mem hz
      rw [List.length_take] at hp
      have hpz : T[p]? = some z := by
        rw [← e, List.getElem_take]
        exact List.getElem?_eq_getElem (by omega)
      by_cases cp : p = n
      · subst cp
        rw [hgn] at hpz
        rw [← Option.some.inj hpz]
        exact hlt
      · have := up_at' hU hpz hgn (by omega)
        omega
    · have hgt : rk x < rk y := by
        have h5 : ¬ rk y ≤ rk x := fun z => c ((lCmp_le ery ir_).mpr z)
        omega
      have e83 : ia (setL τ 82 ((n + 1 : Nat) : Int) (rk y)) 83 = ia τ 83 := rfl
      rw [e83, hy.1, e1']
      refine ⟨iR_of (by omega) (by omega), fun _ _ _ _ hS1 => ?_⟩
      have f83 : ia (setI (setL τ 82 ((n + 1 : Nat) : Int) (rk y)) 83 ((n + 1 : Nat) : Int) y) 83 = up (ia τ 83) ((n + 1 : Nat) : Int) y := by simp (config := {decide := true}) only [sc_S, ia_S, la_S, rv_S, sc_I, rv_I, la_I, ia_I, sc_L, rv_L, ia_L, la_L, sc_A, rv_A, la_A, ia_A, sc_B, rv_B, ia_B, la_B, sc_R, ia_R, la_R, rv_R, ia_w, la_w, rv_w, sc_w, if_true, if_false]
      have f82 : la (setI (setL τ 82 ((n + 1 : Nat) : Int) (rk y)) 83 ((n + 1 : Nat) : Int) y) 82 = up (la τ 82) ((n + 1 : Nat) : Int) (rk y) := by simp (config := {decide := true}) only [sc_S, ia_S, la_S, rv_S, sc_I, rv_I, la_I, ia_I, sc_L, rv_L, ia_L, la_L, sc_A, rv_A, la_A, ia_A, sc_B, rv_B, ia_B, la_B, sc_R, ia_R, la_R, rv_R, ia_w, la_w, rv_w, sc_w, if_true, if_false]
      refine ih _ (by omega) hS1 (hO.trans ⟨((Fr.refl τ).L (Or.inl rfl)).I (Or.inr (Or.inl rfl)), fun j hj => rfl⟩) h11 (fun p i hp hpi => ?_) (fun p i hp hpi => ?_) (fun z hz => ?_)
      · rw [f83, f82, up_ne (by omega), up_ne (by omega)]
        exact hlo p i (by omega) hpi
      · rw [f83, f82]
        by_cases cp : p = n
        · subst cp
          rw [hgn] at hpi
          have := Option.some.inj hpi
          subst this
          rw [up_at, up_at]
          exact ⟨rfl, rfl⟩
        · rw [up_ne (by omega), up_ne (by omega)]
          exact hhi p i (by omega) hpi
      · rw [List.drop_eq_getElem_cons hnl] at hz
        rcases List.mem_cons.mp hz with z1 | z1
        · have e2 : T[n] = y := by
            have := List.getElem?_eq_getElem hnl
            rw [hgn] at this
            exact (Option.some.inj this).symm
          rw [z1, e2]
          exact hgt
        · exact hd z z1
end OFF
