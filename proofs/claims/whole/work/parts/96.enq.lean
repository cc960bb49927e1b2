section ENQ
variable {g : AG} {ad : Nat → Nat} {d : Nat} {σ : SG} {m t : Int → Int} {k : Nat}
/-- its knot -/
def KE (s : SG) (e : En) (i : Int) : Prop := (0 ≤ i ∧ i < kN s) ∧ ndC (ia s 60 i) = e.x
/-- it waits at p -/
def QE (σ s : SG) (m : Int → Int) (p : Int) (e : En) : Prop := la s 64 p = keyE m e ∧ KE σ e (ia s 65 p) ∧ ia s 66 p = e.c ∧ ia s 67 p = (e.p.length : Int)
def QA (σ s : SG) (m : Int → Int) (T : List En) : Prop := sc s 63 6 = (T.length : Int) ∧ ∀ (p : Nat) (y : En), T[p]? = some y → QE σ s m p y
def Ek (σ s : SG) : Prop := Fr (fun c => 63 ≤ c ∧ c ≤ 67) σ s ∧ ∀ j, ¬ j = 6 → sc s 63 j = sc σ 63 j
theorem Ek.refl : Ek σ σ := ⟨Fr.refl σ, fun _ _ => rfl⟩
theorem Ek.trans {s u : SG} (h1 : Ek σ s) (h2 : Ek s u) : Ek σ u := ⟨h1.1.trans h2.1, fun j hj => (h2.2 j hj).trans (h1.2 j hj)⟩
theorem insE_at {e : En} : ∀ (l : List En) (n : Nat), n ≤ l.length → (∀ y ∈ l.take n, keyE m y ≤ keyE m e) → (∀ y ∈ l.drop n, keyE m e < keyE m y) → insE m e l = l.take n ++ e :: l.drop n
  | [], n, _, _, _ => by rw [List.take_nil, List.drop_nil]; rfl
  | y :: l, 0, _, _, h => by
    have := h y (by rw [List.drop_zero]; exact List.mem_cons_self ..)
    rw [insE, if_neg (by omega), List.take_zero, List.drop_zero]
    rfl
  | y :: l, n + 1, hn, h1, h2 => by
    have := h1 y (by rw [List.take_succ_cons]; exact List.mem_cons_self ..)
    rw [insE, if_pos (by omega), List.take_succ_cons, List.drop_succ_cons, insE_at l n (by rw [List.length_cons] at hn; omega) (fun z hz => h1 z (by rw [List.take_succ_cons]; exact List.mem_cons_of_mem _ hz)) (fun z hz => h2 z (by rw [List.drop_succ_cons]; exact hz))]
    rfl
theorem insE_out {e : En} {T : List En} {w : Nat} (hl : T.length = w) (h : ∀ y ∈ T, keyE m y ≤ keyE m e) : (insE m e T).take w = T := by
  rw [insE_at T T.length (Nat.le_refl _) (fun y hy => h y (by rw [List.take_length] at hy; exact hy)) (fun y hy => by rw [List.drop_length] at hy; cases hy), List.take_length, ← hl, List.take_left']
  rfl
theorem insE_in {e z : En} {T : List En} (h : keyE m e < keyE m z) : (insE m e (T ++ [z])).take (T.length + 1) = insE m e T := by
  have key : ∀ T : List En, insE m e (T ++ [z]) = insE m e T ++ [z] := by
    intro T
    induction T with
    | nil =>
      show insE m e [z] = [e] ++ [z]
      rw [insE, if_neg (by omega)]
      rfl
    | cons y T ih =>
      show insE m e (y :: (T ++ [z])) = insE m e (y :: T) ++ [z]
      rw [insE, insE]
      by_cases c : keyE m y ≤ keyE m e
      · rw [if_pos c, if_pos c, ih]; rfl
      · rw [if_neg c, if_neg c]; rfl
  rw [key, List.take_left']
  exact len_insE
theorem so_at {T : List En} (h : T.Pairwise (fun a b => keyE m a < keyE m b)) {i j : Nat} {a b : En} (hi : T[i]? = some a) (hj : T[j]? = some b) (hij : i < j) : keyE m a < keyE m b := by
  obtain ⟨h1, rfl⟩ := List.getElem?_eq_some_iff.mp hi
  obtain ⟨h2, rfl⟩ := List.getElem?_eq_some_iff.mp hj
  exact List.pairwise_iff_getElem.mp h i j h1 h2 hij
theorem w_enq52 {i x6 : Int} {e : En} {T : List En} (hU : T.Pairwise (fun a b => keyE m a < keyE m b)) (hKE : KE σ e i) (hnb : kN σ ≤ 7913) (hL : T.length < 30) (hr : ∀ y, y = e ∨ y ∈ T → lR (keyE m y)) (hc : iR e.c) (hpl : e.p.length ≤ 6) (h6 : iR x6) : ∀ (n : Nat) (τ : SG), n ≤ T.length → SR τ → Ek σ τ → sc τ 63 6 = (T.length : Int) → (∀ (p : Nat) (y : En), p < n → T[p]? = some y → QE σ τ m p y) → (∀ (p : Nat) (y : En), n ≤ p → T[p]? = some y → QE σ τ m (p + 1 : Nat) y) → (∀ y ∈ T.drop n, keyE m e < keyE m y) → aX9_enqueue_52 g ad d (Kv fun s => QA σ s m (insE m e T) ∧ Ek σ s) 0 0 τ (keyE m e) i e.c e.p.length x6 n := by
  have ii : iR i := iR_of (by have := hKE.1; omega) (by have := hKE.1; omega)
  have ik : lR (keyE m e) := hr e (Or.inl rfl)
  have ip : iR (e.p.length : Int) := iR_of (by omega) (by omega)
  -- it is put at n
  have put : ∀ (n : Nat) (τ : SG), n ≤ T.length → Ek σ τ → sc τ 63 6 = (T.length : Int) → (∀ (p : Nat) (y : En), p < n → T[p]? = some y → QE σ τ m p y) → (∀ (p : Nat) (y : En), n ≤ p → T[p]? = some y → QE σ τ m (p + 1 : Nat) y) → (∀ y ∈ T.drop n, keyE m e < keyE m y) → (∀ y ∈ T.take n, keyE m y ≤ keyE m e) → QA σ (setS (setI (setI (setI (setL τ 64 n (keyE m e)) 65 n i) 66 n e.c) 67 n e.p.length) 63 6 ((T.length : Int) + 1)) m (insE m e T) ∧ Ek σ (setS (setI (setI (setI (setL τ 64 n (keyE m e)) 65 n i) 66 n e.c) 67 n e.p.length) 63 6 ((T.length : Int) + 1)) := by
    intro n τ hn hE h63 hlo hhi hd hu
    generalize hs : setS (setI (setI (setI (setL τ 64 n (keyE m e)) 65 n i) 66 n e.c) 67 n e.p.length) 63 6 ((T.length : Int) + 1) = s
    have e64 : la s 64 = up (la τ 64) n (keyE m e) := by rw [← hs]; simp (config := {decide := true}) only [sc_S, ia_S, la_S, rv_S, sc_I, rv_I, la_I, ia_I, sc_L, rv_L, ia_L, la_L, sc_A, rv_A, la_A, ia_A, sc_B, rv_B, ia_B, la_B, sc_R, ia_R, la_R, rv_R, ia_w, la_w, rv_w, sc_w, if_true, if_false]
    have e65 : ia s 65 = up (ia τ 65) n i := by rw [← hs]; simp (config := {decide := true}) only [sc_S, ia_S, la_S, rv_S, sc_I, rv_I, la_I, ia_I, sc_L, rv_L, ia_L, la_L, sc_A, rv_A, la_A, ia_A, sc_B, rv_B, ia_B, la_B, sc_R, ia_R, la_R, rv_R, ia_w, la_w, rv_w, sc_w, if_true, if_false]
    have e66 : ia s 66 = up (ia τ 66) n e.c := by rw [← hs]; simp (config := {decide := true}) only [sc_S, ia_S, la_S, rv_S, sc_I, rv_I, la_I, ia_I, sc_L, rv_L, ia_L, la_L, sc_A, rv_A, la_A, ia_A, sc_B, rv_B, ia_B, la_B, sc_R, ia_R, la_R, rv_R, ia_w, la_w, rv_w, sc_w, if_true, if_false]
    have e67 : ia s 67 = up (ia τ 67) n e.p.length := by rw [← hs]; simp (config := {decide := true}) only [sc_S, ia_S, la_S, rv_S, sc_I, rv_I, la_I, ia_I, sc_L, rv_L, ia_L, la_L, sc_A, rv_A, la_A, ia_A, sc_B, rv_B, ia_B, la_B, sc_R, ia_R, la_R, rv_R, ia_w, la_w, rv_w, sc_w, if_true, if_false]
    have e6 : sc s 63 6 = (T.length : Int) + 1 := by rw [← hs]; simp (config := {decide := true}) only [sc_S, ia_S, la_S, rv_S, sc_I, rv_I, la_I, ia_I, sc_L, rv_L, ia_L, la_L, sc_A, rv_A, la_A, ia_A, sc_B, rv_B, ia_B, la_B, sc_R, ia_R, la_R, rv_R, ia_w, la_w, rv_w, sc_w, if_true, if_false]
    have hEs : Ek τ s := by
      rw [← hs]
      refine ⟨(((((Fr.refl τ).L ⟨by omega, by omega⟩).I ⟨by omega, by omega⟩).I ⟨by omega, by omega⟩).I ⟨by omega, by omega⟩).S ⟨by omega, by omega⟩, fun j hj => ?_⟩
      rw [sc_S, if_neg (fun z => hj z.2)]
      rfl
    refine ⟨⟨by rw [e6, len_insE]; omega, fun p y hp => ?_⟩, hE.trans hEs⟩
    rw [insE_at T n hn hu hd] at hp
    have htl : (T.take n).length = n := by rw [List.length_take]; omega
    unfold QE
    rw [e64, e65, e66, e67]
    by_cases c1 : p < n
    · rw [List.getElem?_append_left (by rw [htl]; exact c1), List.getElem?_take, if_pos c1] at hp
      rw [up_ne (by omega), up_ne (by omega), up_ne (by omega), up_ne (by omega)]
      exact hlo p y c1 hp
    · rw [List.getElem?_append_right (by rw [htl]; omega), htl] at hp
      by_cases c2 : p = n
      · subst c2
        rw [Nat.sub_self] at hp
        have := Option.some.inj hp
        subst this
        rw [up_at, up_at, up_at, up_at]
        exact ⟨rfl, hKE, rfl, rfl⟩
      · obtain ⟨q, hq⟩ : ∃ q, p = q + 1 := ⟨p - 1, by omega⟩
        subst hq
        rw [show q + 1 - n = (q - n) + 1 by omega, List.getElem?_cons_succ, List.getElem?_drop, show n + (q - n) = q by omega] at hp
        rw [up_ne (by omega), up_ne (by omega), up_ne (by omega), up_ne (by omega)]
        exact hhi q y (by omega) hp
  intro n
  induction n with
  | zero =>
    intro τ hn hSt hE h63 hlo hhi hd
    have := put 0 τ hn hE h63 hlo hhi hd (fun y hy => by rw [List.take_zero] at hy; cases hy)
    refine bX9_enqueue_52 ik ii hc ip h6 (iR_lit rfl) hSt ⟨fun _ => ⟨⟨by decide, by decide⟩, ?_⟩, fun z => absurd (Int.le_refl _) z⟩
    have e6 : sc (setI (setI (setI (setL τ 64 ((0 : Nat) : Int) (keyE m e)) 65 ((0 : Nat) : Int) i) 66 ((0 : Nat) : Int) e.c) 67 ((0 : Nat) : Int) e.p.length) 63 6 = (T.length : Int) := h63
    rw [e6]
    exact ⟨iR_of (by omega) (by omega), re_v this⟩
  | succ n ih =>
    intro τ hn hSt hE h63 hlo hhi hd
    have hnl : n < T.length := by omega
    have hgn := List.getElem?_eq_getElem hnl
    have hy := hlo n _ (by omega) hgn
    have hmem := List.getElem_mem hnl
    generalize T[n] = y at hgn hy hmem
    have ery := hr y (Or.inr hmem)
    have i5 : iR ((n + 1 : Nat) : Int) := iR_of (by omega) (by omega)
    have e1 : ((n + 1 : Nat) : Int) - 1 = n := by omega
    have e1' : ((n + 1 : Nat) : Int) + (-1) = n := by omega
    refine bX9_enqueue_52 ik ii hc ip h6 i5 hSt ⟨fun z => absurd z (by omega), fun _ => ?_⟩
    rw [e1, hy.1]
    refine ⟨⟨by omega, by omega⟩, fun c => ⟨⟨by omega, by omega⟩, ?_⟩, fun c => ⟨⟨by omega, by omega⟩, ?_⟩⟩
    · have hlt := (lCmp_le ery ik).mp c
      have := put (n + 1) τ hn hE h63 hlo hhi hd (fun z hz => by
        obtain ⟨p, hp, e2⟩ := List.getElem_of_mem hz
        rw [List.length_take] at hp
        have hpz : T[p]? = some z := by
          rw [← e2, List.getElem_take]
          exact List.getElem?_eq_getElem (by omega)
        by_cases cp : p = n
        · subst cp
          rw [hgn] at hpz
          rw [← Option.some.inj hpz]
          exact hlt
        · have := so_at hU hpz hgn (by omega)
          omega)
      have e6 : sc (setI (setI (setI (setL τ 64 ((n + 1 : Nat) : Int) (keyE m e)) 65 ((n + 1 : Nat) : Int) i) 66 ((n + 1 : Nat) : Int) e.c) 67 ((n + 1 : Nat) : Int) e.p.length) 63 6 = (T.length : Int) := h63
      rw [e6]
      exact ⟨iR_of (by omega) (by omega), re_v this⟩
    · have hgt : keyE m e < keyE m y := by
        have h5 : ¬ keyE m y ≤ keyE m e := fun z => c ((lCmp_le ery ik).mpr z)
        omega
      rw [e1']
      refine ⟨iR_of (by omega) (by omega), fun _ _ _ _ _ _ hS1 => ?_⟩
      generalize hs : setI (setI (setI (setL τ 64 ((n + 1 : Nat) : Int) (keyE m y)) 65 ((n + 1 : Nat) : Int) (ia (setL τ 64 ((n + 1 : Nat) : Int) (keyE m y)) 65 n)) 66 ((n + 1 : Nat) : Int) (ia (setI (setL τ 64 ((n + 1 : Nat) : Int) (keyE m y)) 65 ((n + 1 : Nat) : Int) (ia (setL τ 64 ((n + 1 : Nat) : Int) (keyE m y)) 65 n)) 66 n)) 67 ((n + 1 : Nat) : Int) (ia (setI (setI (setL τ 64 ((n + 1 : Nat) : Int) (keyE m y)) 65 ((n + 1 : Nat) : Int) (ia (setL τ 64 ((n + 1 : Nat) : Int) (keyE m y)) 65 n)) 66 ((n + 1 : Nat) : Int) (ia (setI (setL τ 64 ((n + 1 : Nat) : Int) (keyE m y)) 65 ((n + 1 : Nat) : Int) (ia (setL τ 64 ((n + 1 : Nat) : Int) (keyE m y)) 65 n)) 66 n)) 67 n) = s at hS1 ⊢
      have e64 : la s 64 = up (la τ 64) ((n + 1 : Nat) : Int) (keyE m y) := by rw [← hs]; simp (config := {decide := true}) only [sc_S, ia_S, la_S, rv_S, sc_I, rv_I, la_I, ia_I, sc_L, rv_L, ia_L, la_L, sc_A, rv_A, la_A, ia_A, sc_B, rv_B, ia_B, la_B, sc_R, ia_R, la_R, rv_R, ia_w, la_w, rv_w, sc_w, if_true, if_false]
      have e65 : ia s 65 = up (ia τ 65) ((n + 1 : Nat) : Int) (ia τ 65 n) := by rw [← hs]; simp (config := {decide := true}) only [sc_S, ia_S, la_S, rv_S, sc_I, rv_I, la_I, ia_I, sc_L, rv_L, ia_L, la_L, sc_A, rv_A, la_A, ia_A, sc_B, rv_B, ia_B, la_B, sc_R, ia_R, la_R, rv_R, ia_w, la_w, rv_w, sc_w, if_true, if_false]
      have e66 : ia s 66 = up (ia τ 66) ((n + 1 : Nat) : Int) (ia τ 66 n) := by rw [← hs]; simp (config := {decide := true}) only [sc_S, ia_S, la_S, rv_S, sc_I, rv_I, la_I, ia_I, sc_L, rv_L, ia_L, la_L, sc_A, rv_A, la_A, ia_A, sc_B, rv_B, ia_B, la_B, sc_R, ia_R, la_R, rv_R, ia_w, la_w, rv_w, sc_w, if_true, if_false]
      have e67 : ia s 67 = up (ia τ 67) ((n + 1 : Nat) : Int) (ia τ 67 n) := by rw [← hs]; simp (config := {decide := true}) only [sc_S, ia_S, la_S, rv_S, sc_I, rv_I, la_I, ia_I, sc_L, rv_L, ia_L, la_L, sc_A, rv_A, la_A, ia_A, sc_B, rv_B, ia_B, la_B, sc_R, ia_R, la_R, rv_R, ia_w, la_w, rv_w, sc_w, if_true, if_false]
      have e6 : sc s 63 6 = (T.length : Int) := by rw [← hs]; exact h63
      have hEs : Ek τ s := by
        rw [← hs]
        exact ⟨((((Fr.refl τ).L ⟨by omega, by omega⟩).I ⟨by omega, by omega⟩).I ⟨by omega, by omega⟩).I ⟨by omega, by omega⟩, fun j hj => rfl⟩
      refine ih s (by omega) hS1 (hE.trans hEs) e6 (fun p z hp hpz => ?_) (fun p z hp hpz => ?_) (fun z hz => ?_)
      · unfold QE
        rw [e64, e65, e66, e67, up_ne (by omega), up_ne (by omega), up_ne (by omega), up_ne (by omega)]
        exact hlo p z (by omega) hpz
      · unfold QE
        rw [e64, e65, e66, e67]
        by_cases cp : p = n
        · subst cp
          rw [hgn] at hpz
          have := Option.some.inj hpz
          subst this
          rw [up_at, up_at, up_at, up_at]
          exact ⟨rfl, hy.2⟩
        · rw [up_ne (by omega), up_ne (by omega), up_ne (by omega), up_ne (by omega)]
          exact hhi p z (by omega) hpz
      · rw [List.drop_eq_getElem_cons hnl] at hz
        rcases List.mem_cons.mp hz with z1 | z1
        · have e2 : T[n] = y := by
            have := List.getElem?_eq_getElem hnl
            rw [hgn] at this
            exact (Option.some.inj this).symm
          rw [z1, e2]
          exact hgt
        · exact hd z z1
theorem w_enq {i : Int} {e : En} {Q : List En} {n : Nat} (hU : Q.Pairwise (fun a b => keyE m a < keyE m b)) (hQ : QA σ σ m Q) (hKE : KE σ e i) (hnb : kN σ ≤ 7913) (hn : sc σ 63 8 = (n : Int)) (hbd : n + Q.length ≤ 30) (hr : ∀ y, y = e ∨ y ∈ Q → lR (keyE m y)) (hc : iR e.c) (hpl : e.p.length ≤ 6) (hS : SR σ) : Eb g ad d mX9_enqueue 0 0 [.ref (ad 63), vl (keyE m e), vi i, vi e.c, vi e.p.length] σ (Kv fun s => QA σ s m (enq m n Q e) ∧ Ek σ s) := by
  have ii : iR i := iR_of (by have := hKE.1; omega) (by have := hKE.1; omega)
  have ik : lR (keyE m e) := hr e (Or.inl rfl)
  have ip : iR (e.p.length : Int) := iR_of (by omega) (by omega)
  have hlen := len_insE (m := m) (e := e) (l := Q)
  refine EbS rfl pl_X9 rfl rfl (bX9_enqueue_0 ik ii hc ip hS ?_)
  rw [hn, hQ.1]
  have i30 : iR (30 - (n : Int)) := iR_of (by omega) (by omega)
  refine ⟨i30, fun c _ _ _ _ _ _ hS1 => ?_, fun c => ⟨fun c2 => re_v ?_, fun c2 => ⟨⟨by omega, by omega⟩, ?_⟩⟩⟩
  · have h := w_enq52 (g := g) (ad := ad) (d := d) (σ := σ) (m := m) (i := i) (e := e) (T := Q) (x6 := 30 - (n : Int)) hU hKE hnb (by omega) hr hc hpl i30 Q.length σ (Nat.le_refl _) hS Ek.refl hQ.1 (fun p y _ hp => hQ.2 p y hp) (fun p y hp hpy => by
        have := (List.getElem?_eq_some_iff.mp hpy).1
        omega) (fun y hy => by rw [List.drop_length] at hy; cases hy)
    have e1 : enq m n Q e = insE m e Q := List.take_of_length_le (by omega)
    rw [e1]
    exact h
  · have hq0 : Q = [] := List.eq_nil_of_length_eq_zero (by omega)
    subst hq0
    have e1 : enq m n [] e = [] := by
      unfold enq
      rw [show 30 - n = 0 by omega, List.take_zero]
    rw [e1]
    exact ⟨hQ, Ek.refl⟩
  · -- the row is full
    have hl : Q.length = 30 - n := by omega
    have hpos : 0 < Q.length := by omega
    have hz := List.getElem?_eq_getElem (l := Q) (i := Q.length - 1) (by omega)
    have hzm := List.getElem_mem (l := Q) (n := Q.length - 1) (by omega)
    have hspl : Q = Q.take (Q.length - 1) ++ [Q[Q.length - 1]'(by omega)] := by
      have h1 := List.take_append_drop (Q.length - 1) Q
      have h2 : Q.drop (Q.length - 1) = [Q[Q.length - 1]'(by omega)] := by
        rw [List.drop_eq_getElem_cons (by omega)]
        rw [List.drop_of_length_le (by omega)]
      rw [h2] at h1
      exact h1.symm
    generalize hze : Q[Q.length - 1]'(by omega) = z at hz hzm hspl
    have hzk := (hQ.2 _ z hz).1
    have e1 : 30 - (n : Int) - 1 = ((Q.length - 1 : Nat) : Int) := by omega
    rw [e1, hzk]
    have erz := hr z (Or.inr hzm)
    refine ⟨fun c3 => ?_, fun c3 => re_v ?_⟩
    · have hlt := (lCmp_lt ik erz).mp c3
      have e6 : sc (setS σ 63 6 ((Q.length - 1 : Nat) : Int)) 63 6 = ((Q.length - 1 : Nat) : Int) := by simp (config := {decide := true}) only [sc_S, ia_S, la_S, rv_S, sc_I, rv_I, la_I, ia_I, sc_L, rv_L, ia_L, la_L, sc_A, rv_A, la_A, ia_A, sc_B, rv_B, ia_B, la_B, sc_R, ia_R, la_R, rv_R, ia_w, la_w, rv_w, sc_w, if_true, if_false]
      rw [e6]
      refine ⟨iR_of (by omega) (by omega), fun _ _ _ _ _ _ hS1 => ?_⟩
      have hT : (Q.take (Q.length - 1)).length = Q.length - 1 := by rw [List.length_take]; omega
      have hget : ∀ (p : Nat) (y : En), (Q.take (Q.length - 1))[p]? = some y → Q[p]? = some y := fun p y hp => by
        have hp1 := (List.getElem?_eq_some_iff.mp hp).1
        rw [List.getElem?_take, if_pos (by omega)] at hp
        exact hp
      have h := w_enq52 (g := g) (ad := ad) (d := d) (σ := σ) (m := m) (i := i) (e := e) (T := Q.take (Q.length - 1)) (x6 := 30 - (n : Int)) (hU.sublist (List.take_sublist ..)) hKE hnb (by omega) (fun y hy => hr y (hy.imp id (fun q => List.mem_of_mem_take q))) hc hpl i30 (Q.length - 1) (setS σ 63 6 ((Q.length - 1 : Nat) : Int)) (by omega) hS1 ⟨(Fr.refl σ).S ⟨by omega, by omega⟩, fun j hj => by rw [sc_S, if_neg (fun z => hj z.2)]⟩ (by rw [e6, hT]) (fun p y _ hp => hQ.2 p y (hget p y hp)) (fun p y hp hpy => by
        have := (List.getElem?_eq_some_iff.mp hpy).1
        omega) (fun y hy => by rw [List.drop_of_length_le (by omega)] at hy; cases hy)
      have e2 : enq m n Q e = insE m e (Q.take (Q.length - 1)) := by
        unfold enq
        rw [← hl]
        have := insE_in (T := Q.take (Q.length - 1)) hlt
        rw [← hspl, hT, show Q.length - 1 + 1 = Q.length by omega] at this
        exact this
      rw [e2]
      exact h
    · have hge : keyE m z ≤ keyE m e := by
        have h5 : ¬ keyE m e < keyE m z := fun y => c3 ((lCmp_lt ik erz).mpr y)
        omega
      have e2 : enq m n Q e = Q := by
        unfold enq
        refine insE_out hl (fun y hy => ?_)
        obtain ⟨p, hp, e3⟩ := List.getElem_of_mem hy
        have hpy : Q[p]? = some y := by rw [← e3]; exact List.getElem?_eq_getElem hp
        by_cases cp : p = Q.length - 1
        · rw [cp, hz] at hpy
          rw [← Option.some.inj hpy]
          exact hge
        · have := so_at hU hpy hz (by omega)
          omega
      rw [e2]
      exact ⟨hQ, Ek.refl⟩
end ENQ
