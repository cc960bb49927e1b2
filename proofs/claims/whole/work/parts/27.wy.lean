section WY
abbrev Op : Type := Int × Int
abbrev Wy : Type := Int × List Op
/-- a set of places, the place behind, the last word -/
abbrev Nd : Type := Int × Int × Int
def nd (m : Int → Int) (x : Nd) : Prop := (0 ≤ x.1 ∧ x.1 ≤ 63) ∧ (0 ≤ x.2.1 ∧ x.2.1 ≤ 6) ∧ (-1 ≤ x.2.2 ∧ x.2.2 < m 0)
abbrev myB (m : Int → Int) (x : Nd) (p : Op) : Bool := mayB m x.1 x.2.1 p.1 p.2
abbrev wgt (m : Int → Int) (x : Nd) (p : Op) : Int := (weigh m x.2.1 x.2.2 p.1 p.2).1
/-- where a step leads to -/
def stp (m : Int → Int) (x : Nd) (p : Op) : Nd := (bOr x.1 (msk m p.2 p.1), p.1 + cov m p.2, (weigh m x.2.1 x.2.2 p.1 p.2).2)
def mu (x : Nd) : Nat := 6 - pc x.1
theorem stp_nd {m : Int → Int} (hW : WF m) {x : Nd} (hx : nd m x) {p : Op} (hp : p ∈ sr m 0) (hm : myB m x p = true) : nd m (stp m x p) ∧ mu (stp m x p) < mu x ∧ pc x.1 < pc (stp m x p).1 ∧ pc (stp m x p).1 ≤ 6 ∧ (0 ≤ wgt m x p ∧ wgt m x p ≤ 516) := by
  obtain ⟨hp1, hp2⟩ := mem_sr.mp hp
  have h := may_set hW hm hp2 hp1.1 hx.1
  have hw := weigh_b hW hp2 hx.2.1 hp1 hx.2.2
  have h6 := st_pc6 hx.1
  refine ⟨⟨h.1, h.2.2.2, hw.2⟩, ?_, h.2.1, h.2.2.1, hw.1⟩
  show 6 - pc (bOr x.1 (msk m p.2 p.1)) < 6 - pc x.1
  omega
/-- all ways that are left, in their order, with what they cost -/
def wyG (m : Int → Int) (f : Nd → List Wy) (x : Nd) : List Wy := if x.1 = fullM m then [(aft m x.2.2 (-1), [])] else (sr m 0).flatMap (fun p => if myB m x p = true then (f (stp m x p)).map (fun w => (wgt m x p + w.1, p :: w.2)) else [])
def wy (m : Int → Int) (x : Nd) : List Wy := fxM [] (wyG m) mu x
theorem flatMap_cong {α β : Type} {f f' : α → List β} : ∀ (l : List α), (∀ a ∈ l, f a = f' a) → l.flatMap f = l.flatMap f'
  | [], _ => rfl
  | a :: l, h => by
    rw [List.flatMap_cons, List.flatMap_cons, h a (List.mem_cons_self ..), flatMap_cong l (fun b hb => h b (List.mem_cons_of_mem _ hb))]
theorem wy_eq {m : Int → Int} (hW : WF m) {x : Nd} (hx : nd m x) : wy m x = wyG m (wy m) x := by
  refine fxM_eq (D := nd m) (fun x hx f f' h => ?_) hx
  unfold wyG
  by_cases c : x.1 = fullM m
  · rw [if_pos c, if_pos c]
  · rw [if_neg c, if_neg c]
    refine flatMap_cong _ (fun p hp => ?_)
    by_cases c2 : myB m x p = true
    · have hs := stp_nd hW hx hp c2
      rw [if_pos c2, if_pos c2, h _ hs.1 hs.2.1]
    · rw [if_neg c2, if_neg c2]
/-- folds for the least -/
theorem fmin_le {β : Type} {c : β → Bool} {v : β → Int} : ∀ (l : List β) (b : Int), l.foldl (fun b p => if c p = true then min b (v p) else b) b ≤ b ∧ ∀ p ∈ l, c p = true → l.foldl (fun b p => if c p = true then min b (v p) else b) b ≤ v p
  | [], b => ⟨by simp, fun p hp => by cases hp⟩
  | q :: l, b => by
    rw [List.foldl_cons]
    have h := fmin_le (c := c) (v := v) l (if c q = true then min b (v q) else b)
    by_cases cq : c q = true
    · rw [if_pos cq] at h ⊢
      refine ⟨by omega, fun p hp hc => ?_⟩
      rcases List.mem_cons.mp hp with rfl | hp
      · omega
      · exact h.2 p hp hc
    · rw [if_neg cq] at h ⊢
      refine ⟨h.1, fun p hp hc => ?_⟩
      rcases List.mem_cons.mp hp with rfl | hp
      · exact absurd hc cq
      · exact h.2 p hp hc
theorem fmin_is {β : Type} {c : β → Bool} {v : β → Int} : ∀ (l : List β) (b : Int), l.foldl (fun b p => if c p = true then min b (v p) else b) b = b ∨ ∃ p ∈ l, c p = true ∧ l.foldl (fun b p => if c p = true then min b (v p) else b) b = v p
  | [], b => Or.inl rfl
  | q :: l, b => by
    rw [List.foldl_cons]
    rcases fmin_is (c := c) (v := v) l (if c q = true then min b (v q) else b) with h | ⟨p, hp, h1, h2⟩
    · rw [h]
      by_cases cq : c q = true
      · rw [if_pos cq]
        by_cases e : min b (v q) = b
        · exact Or.inl e
        · exact Or.inr ⟨q, List.mem_cons_self .., cq, by omega⟩
      · rw [if_neg cq]
        exact Or.inl rfl
    · exact Or.inr ⟨p, List.mem_cons_of_mem _ hp, h1, h2⟩
theorem rest_nd {m : Int → Int} (hW : WF m) {x : Nd} (hx : nd m x) : restM m x.1 x.2.1 x.2.2 = if x.1 = fullM m then aft m x.2.2 (-1) else (sr m 0).foldl (fun b p => if myB m x p = true then min b (wgt m x p + restM m (stp m x p).1 (stp m x p).2.1 (stp m x p).2.2) else b) 1000000000 := restM_eq' hW hx.1
/-- what the ways cost, and the least -/
theorem wy_rest {m : Int → Int} (hW : WF m) : ∀ (n : Nat) (x : Nd), nd m x → mu x ≤ n → (∀ w ∈ wy m x, restM m x.1 x.2.1 x.2.2 ≤ w.1 ∧ w.1 ≤ 516 * mu x + 99) ∧ (restM m x.1 x.2.1 x.2.2 = 1000000000 ∧ wy m x = [] ∨ ∃ w ∈ wy m x, w.1 = restM m x.1 x.2.1 x.2.2) := by
  intro n
  induction n with
  | zero =>
    intro x hx hn
    rw [wy_eq hW hx, rest_nd hW hx]
    unfold wyG
    by_cases c : x.1 = fullM m
    · rw [if_pos c, if_pos c]
      have ha := aft_b hW.1 hW.2.2.1 x.2.2 (-1)
      refine ⟨fun w hw => ?_, Or.inr ⟨_, List.mem_singleton.mpr rfl, rfl⟩⟩
      rw [List.mem_singleton.mp hw]
      exact ⟨Int.le_refl _, by omega⟩
    · rw [if_neg c, if_neg c]
      have hno : ∀ p ∈ sr m 0, ¬ myB m x p = true := fun p hp hm => by
        have := stp_nd hW hx hp hm
        omega
      have e1 : (sr m 0).flatMap (fun p => if myB m x p = true then (wy m (stp m x p)).map (fun w => (wgt m x p + w.1, p :: w.2)) else []) = [] := by
        rw [List.flatMap_eq_nil_iff]
        intro p hp
        rw [if_neg (hno p hp)]
      rw [e1]
      refine ⟨fun w hw => (by cases hw), Or.inl ⟨?_, rfl⟩⟩
      rcases fmin_is (c := myB m x) (v := fun p => wgt m x p + restM m (stp m x p).1 (stp m x p).2.1 (stp m x p).2.2) (sr m 0) 1000000000 with h | ⟨p, hp, h1, h2⟩
      · exact h
      · exact absurd h1 (hno p hp)
  | succ n ih =>
    intro x hx hn
    rw [wy_eq hW hx, rest_nd hW hx]
    unfold wyG
    by_cases c : x.1 = fullM m
    · rw [if_pos c, if_pos c]
      have ha := aft_b hW.1 hW.2.2.1 x.2.2 (-1)
      refine ⟨fun w hw => ?_, Or.inr ⟨_, List.mem_singleton.mpr rfl, rfl⟩⟩
      rw [List.mem_singleton.mp hw]
      exact ⟨Int.le_refl _, by omega⟩
    · rw [if_neg c, if_neg c]
      have hle := fmin_le (c := myB m x) (v := fun p => wgt m x p + restM m (stp m x p).1 (stp m x p).2.1 (stp m x p).2.2) (sr m 0) 1000000000
      have his := fmin_is (c := myB m x) (v := fun p => wgt m x p + restM m (stp m x p).1 (stp m x p).2.1 (stp m x p).2.2) (sr m 0) 1000000000
      generalize (sr m 0).foldl (fun b p => if myB m x p = true then min b (wgt m x p + restM m (stp m x p).1 (stp m x p).2.1 (stp m x p).2.2) else b) 1000000000 = R at hle his
      refine ⟨fun w hw => ?_, ?_⟩
      · obtain ⟨p, hp, hw⟩ := List.mem_flatMap.mp hw
        by_cases c2 : myB m x p = true
        · rw [if_pos c2] at hw
          obtain ⟨w', hw', rfl⟩ := List.mem_map.mp hw
          have hs := stp_nd hW hx hp c2
          have h1 := (ih _ hs.1 (by omega)).1 w' hw'
          have h2 := hle.2 p hp c2
          exact ⟨by show R ≤ wgt m x p + w'.1; omega, by show wgt m x p + w'.1 ≤ _; omega⟩
        · rw [if_neg c2] at hw
          cases hw
      · by_cases c3 : ∃ p ∈ sr m 0, myB m x p = true ∧ ¬ wy m (stp m x p) = []
        · right
          obtain ⟨p0, hp0, hm0, hne⟩ := c3
          have hs0 := stp_nd hW hx hp0 hm0
          have hlt : R < 1000000000 := by
            rcases (ih _ hs0.1 (by omega)).2 with h | ⟨w, hw, e⟩
            · exact absurd h.2 hne
            · have h1 := (ih _ hs0.1 (by omega)).1 w hw
              have h2 := hle.2 p0 hp0 hm0
              have h6 : mu (stp m x p0) ≤ 6 := by unfold mu; omega
              omega
          rcases his with h | ⟨p, hp, h1, h2⟩
          · omega
          · have hs := stp_nd hW hx hp h1
            rcases (ih _ hs.1 (by omega)).2 with h | ⟨w, hw, e⟩
            · omega
            · refine ⟨(wgt m x p + w.1, p :: w.2), List.mem_flatMap.mpr ⟨p, hp, ?_⟩, ?_⟩
              · rw [if_pos h1]
                exact List.mem_map.mpr ⟨w, hw, rfl⟩
              · show wgt m x p + w.1 = R
                omega
        · left
          refine ⟨?_, ?_⟩
          · rcases his with h | ⟨p, hp, h1, h2⟩
            · exact h
            · have hs := stp_nd hW hx hp h1
              rcases (ih _ hs.1 (by omega)).2 with h | ⟨w, hw, e⟩
              · omega
              · exact absurd ⟨p, hp, h1, fun q => by rw [q] at hw; cases hw⟩ c3
          · rw [List.flatMap_eq_nil_iff]
            intro p hp
            by_cases c2 : myB m x p = true
            · rw [if_pos c2]
              by_cases c4 : wy m (stp m x p) = []
              · rw [c4]; rfl
              · exact absurd ⟨p, hp, c2, c4⟩ c3
            · rw [if_neg c2]
/-- with what was spent -/
def wyc (m : Int → Int) (c : Int) (x : Nd) : List Wy := (wy m x).map (fun w => (c + w.1, w.2))
def subW (m : Int → Int) (c : Int) (x : Nd) (p : Op) : List Wy := if myB m x p = true then (wyc m (c + wgt m x p) (stp m x p)).map (fun w => (w.1, p :: w.2)) else []
theorem wyc_full {m : Int → Int} (hW : WF m) {x : Nd} (hx : nd m x) {c : Int} (h : x.1 = fullM m) : wyc m c x = [(c + aft m x.2.2 (-1), [])] := by
  unfold wyc
  rw [wy_eq hW hx]
  unfold wyG
  rw [if_pos h]
  rfl
theorem wyc_step {m : Int → Int} (hW : WF m) {x : Nd} (hx : nd m x) {c : Int} (h : ¬ x.1 = fullM m) : wyc m c x = (sr m 0).flatMap (subW m c x) := by
  unfold wyc
  rw [wy_eq hW hx]
  unfold wyG
  rw [if_neg h, List.map_flatMap]
  refine flatMap_cong _ (fun p _ => ?_)
  unfold subW wyc
  by_cases c2 : myB m x p = true
  · rw [if_pos c2, if_pos c2, List.map_map, List.map_map]
    apply List.map_congr_left
    intro w _
    show (c + (wgt m x p + w.1), p :: w.2) = (c + wgt m x p + w.1, p :: w.2)
    rw [Int.add_assoc]
  · rw [if_neg c2, if_neg c2]
    rfl
/-- those of just that cost -/
def cEq (b : Int) (L : List Wy) : List Wy := L.filter (fun w => decide (w.1 = b))
def cLt (b : Int) (L : List Wy) : Nat := (L.filter (fun w => decide (w.1 < b))).length
/-- the least cost beyond -/
def bey (b : Int) (a : Int) (L : List Wy) : Int := L.foldl (fun a w => if b < w.1 then min a w.1 else a) a
/-- the k-th way -/
abbrev KW (L : List Wy) (k : Nat) (w : Wy) : Prop := cLt w.1 L ≤ k ∧ (cEq w.1 L)[k - cLt w.1 L]? = some w
theorem cEq_app {b : Int} {L L' : List Wy} : cEq b (L ++ L') = cEq b L ++ cEq b L' := List.filter_append ..
theorem bey_app {b a : Int} {L L' : List Wy} : bey b a (L ++ L') = bey b (bey b a L) L' := List.foldl_append ..
theorem cEq_none {b : Int} {L : List Wy} (h : ∀ w ∈ L, b < w.1) : cEq b L = [] := by
  unfold cEq
  rw [List.filter_eq_nil_iff]
  intro w hw e
  have := of_decide_eq_true e
  have := h w hw
  omega
theorem bey_least {b a r : Int} : ∀ {L : List Wy}, (∀ w ∈ L, b < w.1) → (∀ w ∈ L, r ≤ w.1) → (∃ w ∈ L, w.1 = r) → bey b a L = min a r := by
  have key : ∀ (L : List Wy) (a : Int), (∀ w ∈ L, b < w.1) → (∀ w ∈ L, r ≤ w.1) → (min a r ≤ bey b a L ∧ bey b a L ≤ a ∧ ∀ w ∈ L, bey b a L ≤ w.1) := by
    intro L
    induction L with
    | nil => intro a _ _; exact ⟨by show min a r ≤ a; omega, Int.le_refl _, fun w hw => by cases hw⟩
    | cons v L ih =>
      intro a h1 h2
      have hv := h1 v (List.mem_cons_self ..)
      have hv2 := h2 v (List.mem_cons_self ..)
      have e : bey b a (v :: L) = bey b (min a v.1) L := by
        show List.foldl _ (if b < v.1 then min a v.1 else a) L = _
        rw [if_pos hv]
        rfl
      rw [e]
      have h := ih (min a v.1) (fun w hw => h1 w (List.mem_cons_of_mem _ hw)) (fun w hw => h2 w (List.mem_cons_of_mem _ hw))
      refine ⟨by omega, by omega, fun w hw => ?_⟩
      rcases List.mem_cons.mp hw with rfl | hw
      · omega
      · exact h.2.2 w hw
  intro L h1 h2 ⟨w, hw, e⟩
  have h := key L a h1 h2
  have := h.2.2 w hw
  omega
end WY
