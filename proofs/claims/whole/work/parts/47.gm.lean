section GMs
variable {m t : Int → Int} {e : Int}
/-- all is well with the row m -/
def GM (m : Int → Int) : Prop := (WF m) ∧ (WL m) ∧ (ZR 855 m)
theorem GM.wf {m : Int → Int} (h_ : GM m) : WF m := h_.1
theorem GM.wl {m : Int → Int} (h_ : GM m) : WL m := h_.2.1
theorem GM.zr {m : Int → Int} (h_ : GM m) : ZR 855 m := h_.2.2
/-- words may have come -/
def Mo (m m' : Int → Int) : Prop := (m 0 ≤ m' 0) ∧ (∀ j, 1 ≤ j → j ≤ 8 → m' j = m j) ∧ (∀ j, 369 ≤ j → m' j = m j)
theorem Mo.le {m m' : Int → Int} (h_ : Mo m m') : m 0 ≤ m' 0 := h_.1
theorem Mo.hd {m m' : Int → Int} (h_ : Mo m m') : ∀ j, 1 ≤ j → j ≤ 8 → m' j = m j := h_.2.1
theorem Mo.tl {m m' : Int → Int} (h_ : Mo m m') : ∀ j, 369 ≤ j → m' j = m j := h_.2.2
theorem Mo.refl : Mo m m := ⟨Int.le_refl _, fun _ _ _ => rfl, fun _ _ => rfl⟩
theorem Mo.trans {a b c : Int → Int} (h1 : Mo a b) (h2 : Mo b c) : Mo a c := ⟨Int.le_trans h1.le h2.le, fun j h h' => (h2.hd j h h').trans (h1.hd j h h'), fun j h => (h2.tl j h).trans (h1.tl j h)⟩
theorem WF_mo {m' : Int → Int} (hW : WF m) (h : Mo m m') (h40 : m' 0 ≤ 40) : WF m' := by
  have hle := h.le
  have h00 := hW.1.1
  obtain ⟨a, b, c, e⟩ := hW
  have ho : ∀ p w, 0 ≤ p → 0 ≤ w → of_ m' p w = of_ m p w := fun p w hp hw => h.tl _ (by omega)
  refine ⟨?_, ?_, ?_, ?_⟩
  · unfold W0
    rw [h.hd 1 (by omega) (by omega), h.hd 2 (by omega) (by omega), h.hd 3 (by omega) (by omega), h.hd 4 (by omega) (by omega), h.hd 5 (by omega) (by omega), h.hd 6 (by omega) (by omega), h.hd 7 (by omega) (by omega), h.hd 8 (by omega) (by omega)]
    exact ⟨⟨by omega, h40⟩, a.2⟩
  · intro p hp0 hp1
    rw [h.hd 1 (by omega) (by omega)] at hp1
    have := b p hp0 hp1
    rw [ho p 0 hp0 (by omega), ho p 4 hp0 (by omega), ho p 8 hp0 (by omega), ho p 9 hp0 (by omega)]
    refine ⟨this.1, this.2.1, this.2.2.1, this.2.2.2.1, fun k hk0 hk1 => ?_, fun k hk0 hk1 => ?_⟩
    · rw [ho p _ hp0 (by omega)]
      have := this.2.2.2.2.1 k hk0 hk1
      omega
    · rw [ho p _ hp0 (by omega)]
      have := this.2.2.2.2.2 k hk0 hk1
      omega
  · intro k hk0 hk1
    rw [h.hd 2 (by omega) (by omega)] at hk1
    have := c k hk0 hk1
    rw [h.tl (669 + 3 * k) (by omega), h.tl (669 + 3 * k + 1) (by omega), h.tl (669 + 3 * k + 2) (by omega)]
    omega
  · intro k hk0 hk1
    rw [h.hd 3 (by omega) (by omega)] at hk1
    have := e k hk0 hk1
    rw [h.tl _ (by omega)]
    omega
/-- what a new word changes -/
theorem addW_at {p n j : Int} (h0 : 0 ≤ m 0) : addW m t p n j = if j = 0 then m 0 + 1 else if j = 9 + 9 * m 0 then n else if 9 + 9 * m 0 + 1 ≤ j ∧ j < 9 + 9 * m 0 + 9 then (if j - (9 + 9 * m 0 + 1) < n then t (p + (j - (9 + 9 * m 0 + 1))) - 97 else 0) else m j := by
  have key : ∀ k, 0 ≤ k → k ≤ 8 → ∀ j, ((ir 0 k).foldl (fun f k => up f (9 + 9 * m 0 + 1 + k) (if k < n then t (p + k) - 97 else 0)) (up m (9 + 9 * m 0) n)) j = if j = 9 + 9 * m 0 then n else if 9 + 9 * m 0 + 1 ≤ j ∧ j < 9 + 9 * m 0 + 1 + k then (if j - (9 + 9 * m 0 + 1) < n then t (p + (j - (9 + 9 * m 0 + 1))) - 97 else 0) else m j := by
    intro k hk0 hk1
    refine up_loop (P := fun i => (∀ j, ((ir 0 i).foldl (fun f k => up f (9 + 9 * m 0 + 1 + k) (if k < n then t (p + k) - 97 else 0)) (up m (9 + 9 * m 0) n)) j = if j = 9 + 9 * m 0 then n else if 9 + 9 * m 0 + 1 ≤ j ∧ j < 9 + 9 * m 0 + 1 + i then (if j - (9 + 9 * m 0 + 1) < n then t (p + (j - (9 + 9 * m 0 + 1))) - 97 else 0) else m j) → ∀ j, ((ir 0 k).foldl (fun f k => up f (9 + 9 * m 0 + 1 + k) (if k < n then t (p + k) - 97 else 0)) (up m (9 + 9 * m 0) n)) j = if j = 9 + 9 * m 0 then n else if 9 + 9 * m 0 + 1 ≤ j ∧ j < 9 + 9 * m 0 + 1 + k then (if j - (9 + 9 * m 0 + 1) < n then t (p + (j - (9 + 9 * m 0 + 1))) - 97 else 0) else m j) (hi := k) 0 hk0 (fun z => z) (fun i hi0 hi1 ih z => ih (fun j => ?_)) (fun j => ?_)
    · rw [ir_snoc hi0, List.foldl_append]
      show up _ (9 + 9 * m 0 + 1 + i) _ j = _
      by_cases c : j = 9 + 9 * m 0 + 1 + i
      · subst c
        rw [up_at, if_neg (show ¬ 9 + 9 * m 0 + 1 + i = 9 + 9 * m 0 by omega), if_pos (show 9 + 9 * m 0 + 1 ≤ 9 + 9 * m 0 + 1 + i ∧ 9 + 9 * m 0 + 1 + i < 9 + 9 * m 0 + 1 + (i + 1) from ⟨by omega, by omega⟩), show 9 + 9 * m 0 + 1 + i - (9 + 9 * m 0 + 1) = i by omega]
      · rw [up_ne c, z j]
        by_cases c2 : j = 9 + 9 * m 0
        · rw [if_pos c2, if_pos c2]
        · rw [if_neg c2, if_neg c2]
          by_cases c3 : 9 + 9 * m 0 + 1 ≤ j ∧ j < 9 + 9 * m 0 + 1 + i
          · rw [if_pos c3, if_pos (show 9 + 9 * m 0 + 1 ≤ j ∧ j < 9 + 9 * m 0 + 1 + (i + 1) from ⟨c3.1, by omega⟩)]
          · rw [if_neg c3, if_neg (by omega)]
    · rw [ir_nil (Int.le_refl _)]
      show up m (9 + 9 * m 0) n j = _
      by_cases c2 : j = 9 + 9 * m 0
      · rw [if_pos c2, c2, up_at]
      · rw [if_neg c2, up_ne c2, if_neg (by omega)]
  unfold addW
  by_cases c : j = 0
  · rw [if_pos c, c, up_at]
  · rw [if_neg c, up_ne c, key 8 (by omega) (by omega) j]
    by_cases c2 : j = 9 + 9 * m 0
    · rw [if_pos c2, if_pos c2]
    · rw [if_neg c2, if_neg c2]
      by_cases c3 : 9 + 9 * m 0 + 1 ≤ j ∧ j < 9 + 9 * m 0 + 1 + 8
      · rw [if_pos c3, if_pos (show 9 + 9 * m 0 + 1 ≤ j ∧ j < 9 + 9 * m 0 + 9 from ⟨c3.1, by omega⟩)]
      · rw [if_neg c3, if_neg (by omega)]
theorem GM.addW {p n : Int} (h : GM m) (h40 : m 0 < 40) (hn : 1 ≤ n ∧ n ≤ 8) : GM (addW m t p n) ∧ Mo m (addW m t p n) := by
  have h00 := h.wf.1.1
  have hat := fun j => addW_at (m := m) (t := t) (p := p) (n := n) (j := j) h00.1
  have h0 : Jvm.Pilot.CPhraseRoadsLaw_law_r8434_031205.addW m t p n 0 = m 0 + 1 := by rw [hat, if_pos rfl]
  have hmo : Mo m (Jvm.Pilot.CPhraseRoadsLaw_law_r8434_031205.addW m t p n) := by
    refine ⟨by rw [h0]; omega, fun j hj0 hj1 => ?_, fun j hj => ?_⟩
    · rw [hat, if_neg (by omega), if_neg (by omega), if_neg (by omega)]
    · rw [hat, if_neg (by omega), if_neg (by omega), if_neg (by omega)]
  refine ⟨⟨WF_mo h.wf hmo (by rw [h0]; omega), fun w hw0 hw1 => ?_, fun j hj => ?_⟩, hmo⟩
  · rw [h0] at hw1
    rw [hat, if_neg (by omega)]
    by_cases c : w = m 0
    · rw [if_pos (by rw [c]), ]
      exact hn
    · rw [if_neg (by omega), if_neg (by omega)]
      exact h.wl w hw0 (by omega)
  · rw [hat, if_neg (by omega), if_neg (by omega), if_neg (by omega)]
    exact h.zr j hj
theorem findW_b {p n : Int} (h0 : 0 ≤ m 0) : -1 ≤ findW m t p n ∧ findW m t p n < m 0 ∨ findW m t p n = -1 := by
  unfold findW
  rcases sea_spec (spl m t p n) (m 0).toNat 0 with e | ⟨e1, e2, e3⟩
  · exact Or.inr e
  · exact Or.inl ⟨by omega, by omega⟩
theorem pWord_ok {new : Bool} {p p' w : Int} {m' : Int → Int} (h : GM m) (hp : p ≤ e) (hok : pWord t e new p m = .ok w p' m') : GM m' ∧ Mo m m' ∧ (0 ≤ w ∧ w < m' 0 ∨ new = false ∧ w = -2) ∧ (p < p' ∧ p' ≤ e) := by
  have h00 := h.wf.1.1
  have hsc := scn_le (b := ltr t) hp
  have hsk := scn_le (b := blk t) hsc.2
  unfold pWord at hok
  by_cases c1 : scn (ltr t) e p - p = 0 ∨ 8 < scn (ltr t) e p - p
  · rw [if_pos c1] at hok; cases hok
  · rw [if_neg c1] at hok
    by_cases c2 : ¬ findW m t p (scn (ltr t) e p - p) = -1
    · rw [if_pos c2] at hok
      obtain ⟨q1, q2, q3⟩ := PR.inj hok
      subst q1; subst q2; subst q3
      have := findW_b (m := m) (t := t) (p := p) (n := scn (ltr t) e p - p) h00.1
      exact ⟨h, Mo.refl, Or.inl (by omega), by unfold skp; omega, hsk.2⟩
    · rw [if_neg c2] at hok
      by_cases c3 : new = false
      · rw [if_pos c3] at hok
        obtain ⟨q1, q2, q3⟩ := PR.inj hok
        subst q1; subst q2; subst q3
        exact ⟨h, Mo.refl, Or.inr ⟨c3, rfl⟩, by unfold skp; omega, hsk.2⟩
      · rw [if_neg c3] at hok
        by_cases c4 : m 0 = 40
        · rw [if_pos c4] at hok; cases hok
        · rw [if_neg c4] at hok
          obtain ⟨q1, q2, q3⟩ := PR.inj hok
          subst q1; subst q2; subst q3
          have := h.addW (t := t) (p := p) (n := scn (ltr t) e p - p) (by omega) (by omega)
          refine ⟨this.1, this.2, Or.inl ⟨by omega, ?_⟩, by unfold skp; omega, hsk.2⟩
          rw [addW_0 h00.1]
          omega
theorem pWords_ok {new : Bool} {most : Int} : ∀ (n : Nat) (l : List Int) (p : Int) (m : Int → Int) {l' : List Int} {p' : Int} {m' : Int → Int}, GM m → p ≤ e → (∀ w ∈ l, 0 ≤ w ∧ w < m 0 ∨ new = false ∧ w = -2) → pWords t e new most n l p m = .ok l' p' m' → GM m' ∧ Mo m m' ∧ (∀ w ∈ l', 0 ≤ w ∧ w < m' 0 ∨ new = false ∧ w = -2) ∧ (p ≤ p' ∧ p' ≤ e) ∧ ((l.length : Int) ≤ most → (l'.length : Int) ≤ most)
  | 0, l, p, m, l', p', m', _, _, _, hok => by cases hok
  | n + 1, l, p, m, l', p', m', h, hp, hw, hok => by
    rw [pWords] at hok
    by_cases c : ¬ (p < e ∧ ltr t p = true)
    · rw [if_pos c] at hok
      obtain ⟨q1, q2, q3⟩ := PR.inj hok
      subst q1; subst q2; subst q3
      exact ⟨h, Mo.refl, hw, ⟨Int.le_refl _, hp⟩, fun z => z⟩
    · rw [if_neg c] at hok
      by_cases c2 : (l.length : Int) = most
      · rw [if_pos c2] at hok; cases hok
      · rw [if_neg c2] at hok
        cases hpw : pWord t e new p m with
        | error f => rw [hpw] at hok; cases hok
        | ok rr_ =>
          obtain ⟨w, p1, m1⟩ := rr_
          rw [hpw] at hok
          have h1 := pWord_ok h hp hpw
          have h2 := pWords_ok n (l ++ [w]) p1 m1 h1.1 h1.2.2.2.2 (fun v hv => by
            rcases List.mem_append.mp hv with q | q
            · have hle := h1.2.1.le
              rcases hw v q with z | z
              · exact Or.inl ⟨z.1, by omega⟩
              · exact Or.inr z
            · rw [List.mem_singleton.mp q]
              exact h1.2.2.1) hok
          have hle := h1.2.2.2
          refine ⟨h2.1, h1.2.1.trans h2.2.1, h2.2.2.1, ⟨by omega, h2.2.2.2.1.2⟩, fun z => h2.2.2.2.2 ?_⟩
          rw [List.length_append, List.length_singleton]
          omega
theorem pWs_ok {new : Bool} {most p p' : Int} {l : List Int} {m' : Int → Int} (h : GM m) (hp : p ≤ e) (hm : 0 ≤ most) (hok : pWs t e new most p m = .ok l p' m') : GM m' ∧ Mo m m' ∧ (∀ w ∈ l, 0 ≤ w ∧ w < m' 0 ∨ new = false ∧ w = -2) ∧ (p ≤ p' ∧ p' ≤ e) ∧ (l.length : Int) ≤ most := by
  have := pWords_ok (most.toNat + 1) [] p m h hp (fun w hw => by cases hw) hok
  exact ⟨this.1, this.2.1, this.2.2.1, this.2.2.2.1, this.2.2.2.2 (by show ((0 : Nat) : Int) ≤ most; omega)⟩
theorem pNum_ok {most p p' v : Int} {m' : Int → Int} (hp : p ≤ e) (hok : pNum t e most p m = .ok v p' m') : m' = m ∧ (p < p' ∧ p' ≤ e) := by
  have hsc := scn_le (b := dgt t) hp
  have hsk := scn_le (b := blk t) hsc.2
  unfold pNum at hok
  by_cases c : scn (dgt t) e p - p = 0 ∨ 3 < scn (dgt t) e p - p ∨ most < numV t p (scn (dgt t) e p)
  · rw [if_pos c] at hok; cases hok
  · rw [if_neg c] at hok
    obtain ⟨q1, q2, q3⟩ := PR.inj hok
    subst q2
    exact ⟨q3.symm, by unfold skp; omega, hsk.2⟩
theorem pSign_ok {c p p' : Int} {u : Unit} {m' : Int → Int} (hok : pSign t e c p m = .ok u p' m') : m' = m ∧ (p < p' ∧ p' ≤ e) := by
  unfold pSign at hok
  by_cases c1 : p < e ∧ t p = c
  · rw [if_pos c1] at hok
    obtain ⟨q1, q2, q3⟩ := PR.inj hok
    subst q2
    have hsk := scn_le (b := blk t) (show p + 1 ≤ e by omega)
    exact ⟨q3.symm, by unfold skp; omega, hsk.2⟩
  · rw [if_neg c1] at hok; cases hok
/-- the words of an entry -/
def RowW (m : Int → Int) (x : Row) : Prop := (∀ w ∈ x.2.1, 0 ≤ w ∧ w < m 0) ∧ ∀ w ∈ x.2.2.1, 0 ≤ w ∧ w < m 0
theorem pEntry_ok {p p' : Int} {x : Row} {m' : Int → Int} (h : GM m) (hp : p ≤ e) (hok : pEntry t e p m = .ok x p' m') : GM m' ∧ Mo m m' ∧ RowW m' x ∧ (p ≤ p' ∧ p' ≤ e) := by
  unfold pEntry at hok
  cases h1 : pWs t e true 3 p m with
  | error f => rw [h1] at hok; cases hok
  | ok rr_ =>
    obtain ⟨src, p1, m1⟩ := rr_
    rw [h1] at hok
    have k1 := pWs_ok h hp (by omega) h1
    have hok1 : (if src = [] then PR.bad p1 else (pSign t e 61 p1 m1).bind fun _ p2 m2 => (pWs t e true 3 p2 m2).bind fun tgt p3 m3 => (pNum t e 99 p3 m3).bind fun c p4 m4 => .ok (p, src, tgt, c) p4 m4) = PR.ok x p' m' := hok
    by_cases c : src = []
    · rw [if_pos c] at hok1; cases hok1
    · rw [if_neg c] at hok1
      cases h2 : pSign t e 61 p1 m1 with
      | error f => rw [h2] at hok1; cases hok1
      | ok rr_ =>
        obtain ⟨u, p2, m2⟩ := rr_
        rw [h2] at hok1
        have k2 := pSign_ok h2
        rw [k2.1] at hok1
        have hok2 : ((pWs t e true 3 p2 m1).bind fun tgt p3 m3 => (pNum t e 99 p3 m3).bind fun c p4 m4 => .ok (p, src, tgt, c) p4 m4) = PR.ok x p' m' := hok1
        cases h3 : pWs t e true 3 p2 m1 with
        | error f => rw [h3] at hok2; cases hok2
        | ok rr_ =>
          obtain ⟨tgt, p3, m3⟩ := rr_
          rw [h3] at hok2
          have k3 := pWs_ok k1.1 k2.2.2 (by omega) h3
          have hok3 : ((pNum t e 99 p3 m3).bind fun c p4 m4 => .ok (p, src, tgt, c) p4 m4) = PR.ok x p' m' := hok2
          cases h4 : pNum t e 99 p3 m3 with
          | error f => rw [h4] at hok3; cases hok3
          | ok rr_ =>
            obtain ⟨v, p4, m4⟩ := rr_
            rw [h4] at hok3
            have k4 := pNum_ok k3.2.2.2.1.2 h4
            have hok4 : PR.ok (p, src, tgt, v) p4 m4 = PR.ok x p' m' := hok3
            obtain ⟨q1, q2, q3⟩ := PR.inj hok4
            subst q1; subst q2; subst q3
            rw [k4.1]
            refine ⟨k3.1, k1.2.1.trans k3.2.1, ⟨fun w hw => ?_, fun w hw => ?_⟩, by have := k1.2.2.2.1; have := k2.2; have := k3.2.2.2.1; have := k4.2; omega, k4.2.2⟩
            · have := k1.2.2.1 w hw
              have := k3.2.1.le
              rcases k1.2.2.1 w hw with q | q
              · omega
              · exact absurd q.1 (by decide)
            · rcases k3.2.2.1 w hw with q | q
              · exact q
              · exact absurd q.1 (by decide)
def RowX (m : Int → Int) (x : RowP) : Prop := (-1 ≤ x.2.1 ∧ x.2.1 < m 0) ∧ (-1 ≤ x.2.2.1 ∧ x.2.2.1 < m 0)
theorem pEdge_ok {c p p' w : Int} {m' : Int → Int} (h : GM m) (hp : p ≤ e) (hok : pEdge t e c p m = .ok w p' m') : GM m' ∧ Mo m m' ∧ (-1 ≤ w ∧ w < m' 0) ∧ (p < p' ∧ p' ≤ e) := by
  unfold pEdge at hok
  by_cases c1 : p < e ∧ t p = c
  · rw [if_pos c1] at hok
    obtain ⟨q1, q2, q3⟩ := PR.inj hok
    subst q1; subst q2; subst q3
    have hsk := scn_le (b := blk t) (show p + 1 ≤ e by omega)
    have h00 := h.wf.1.1
    exact ⟨h, Mo.refl, by omega, by unfold skp; omega, hsk.2⟩
  · rw [if_neg c1] at hok
    have := pWord_ok h hp hok
    refine ⟨this.1, this.2.1, ?_, this.2.2.2⟩
    rcases this.2.2.1 with q | q
    · omega
    · exact absurd q.1 (by decide)
theorem pPair_ok {p p' : Int} {x : RowP} {m' : Int → Int} (h : GM m) (hp : p ≤ e) (hok : pPair t e p m = .ok x p' m') : GM m' ∧ Mo m m' ∧ RowX m' x ∧ (p ≤ p' ∧ p' ≤ e) := by
  unfold pPair at hok
  cases h1 : pEdge t e 94 p m with
  | error f => rw [h1] at hok; cases hok
  | ok rr_ =>
    obtain ⟨a, p1, m1⟩ := rr_
    rw [h1] at hok
    have k1 := pEdge_ok h hp h1
    have hok1 : ((pEdge t e 36 p1 m1).bind fun b p2 m2 => (pNum t e 99 p2 m2).bind fun c p3 m3 => .ok (p, a, b, c) p3 m3) = PR.ok x p' m' := hok
    cases h2 : pEdge t e 36 p1 m1 with
    | error f => rw [h2] at hok1; cases hok1
    | ok rr_ =>
      obtain ⟨b, p2, m2⟩ := rr_
      rw [h2] at hok1
      have k2 := pEdge_ok k1.1 k1.2.2.2.2 h2
      have hok2 : ((pNum t e 99 p2 m2).bind fun c p3 m3 => .ok (p, a, b, c) p3 m3) = PR.ok x p' m' := hok1
      cases h4 : pNum t e 99 p2 m2 with
      | error f => rw [h4] at hok2; cases hok2
      | ok rr_ =>
        obtain ⟨v, p4, m4⟩ := rr_
        rw [h4] at hok2
        have k4 := pNum_ok k2.2.2.2.2 h4
        have hok4 : PR.ok (p, a, b, v) p4 m4 = PR.ok x p' m' := hok2
        obtain ⟨q1, q2, q3⟩ := PR.inj hok4
        subst q1; subst q2; subst q3
        rw [k4.1]
        have hle := k2.2.1.le
        exact ⟨k2.1, k1.2.1.trans k2.2.1, ⟨by show -1 ≤ a ∧ a < m2 0; omega, k2.2.2.1⟩, by omega, k4.2.2⟩
theorem pRd_ok {ρ : Type} {pE : Int → (Int → Int) → PR ρ} {V : (Int → Int) → ρ → Prop} (hV : ∀ m m' x, V m x → Mo m m' → V m' x) (hE : ∀ p m x p' m', GM m → p ≤ e → pE p m = .ok x p' m' → GM m' ∧ Mo m m' ∧ V m' x ∧ (p ≤ p' ∧ p' ≤ e)) : ∀ (n : Nat) (l : List ρ) (p : Int) (m : Int → Int) {l' : List ρ} {p' : Int} {m' : Int → Int}, GM m → p ≤ e → (∀ x ∈ l, V m x) → pRd t e pE n l p m = .ok l' p' m' → GM m' ∧ Mo m m' ∧ ∀ x ∈ l', V m' x
  | 0, l, p, m, l', p', m', _, _, _, hok => by cases hok
  | n + 1, l, p, m, l', p', m', h, hp, hl, hok => by
    rw [pRd] at hok
    by_cases c : l.length = 12
    · rw [if_pos c] at hok; cases hok
    · rw [if_neg c] at hok
      cases h1 : pE p m with
      | error f => rw [h1] at hok; cases hok
      | ok rr_ =>
        obtain ⟨x, p1, m1⟩ := rr_
        rw [h1] at hok
        have k1 := hE p m x p1 m1 h hp h1
        have hok1 : (if e ≤ p1 then PR.ok (l ++ [x]) p1 m1 else (pSign t e 59 p1 m1).bind fun _ p2 m2 => pRd t e pE n (l ++ [x]) p2 m2) = .ok l' p' m' := hok
        have hall : ∀ y ∈ l ++ [x], V m1 y := fun y hy => by
          rcases List.mem_append.mp hy with q | q
          · exact hV _ _ _ (hl y q) k1.2.1
          · rw [List.mem_singleton.mp q]; exact k1.2.2.1
        by_cases c2 : e ≤ p1
        · rw [if_pos c2] at hok1
          obtain ⟨q1, q2, q3⟩ := PR.inj hok1
          subst q1; subst q3
          exact ⟨k1.1, k1.2.1, hall⟩
        · rw [if_neg c2] at hok1
          cases h2 : pSign t e 59 p1 m1 with
          | error f => rw [h2] at hok1; cases hok1
          | ok rr_ =>
            obtain ⟨u, p2, m2⟩ := rr_
            rw [h2] at hok1
            have k2 := pSign_ok h2
            rw [k2.1] at hok1
            have k3 := pRd_ok hV hE n (l ++ [x]) p2 m1 k1.1 k2.2.2 hall hok1
            exact ⟨k3.1, k1.2.1.trans k3.2.1, k3.2.2⟩
theorem pRds_ok {ρ : Type} {pE : Int → (Int → Int) → PR ρ} {V : (Int → Int) → ρ → Prop} (hV : ∀ m m' x, V m x → Mo m m' → V m' x) (hE : ∀ p m x p' m', GM m → p ≤ e → pE p m = .ok x p' m' → GM m' ∧ Mo m m' ∧ V m' x ∧ (p ≤ p' ∧ p' ≤ e)) {p p' : Int} {l : List ρ} {m' : Int → Int} (h : GM m) (hp : p ≤ e) (hok : pRds t e pE p m = .ok l p' m') : GM m' ∧ Mo m m' ∧ ∀ x ∈ l, V m' x := by
  unfold pRds at hok
  by_cases c : p < e
  · rw [if_pos c] at hok
    exact pRd_ok hV hE 13 [] p m h hp (fun x hx => by cases hx) hok
  · rw [if_neg c] at hok
    obtain ⟨q1, q2, q3⟩ := PR.inj hok
    subst q1; subst q3
    exact ⟨h, Mo.refl, fun x hx => by cases hx⟩
/-! a phrase comes -/
def comesS (m R : Int → Int) (r c : Int) : Int → Int := up (up (up ((ir 0 8).foldl (fun f k => up f (369 + 10 * m 1 + k) (R (r + k))) m) (369 + 10 * m 1 + 8) c) (369 + 10 * m 1 + 9) 0) 1 (m 1 + 1)
theorem comesS_at {R : Int → Int} {r c j : Int} (h0 : 0 ≤ m 1) : comesS m R r c j = if j = 1 then m 1 + 1 else if j = 369 + 10 * m 1 + 9 then 0 else if j = 369 + 10 * m 1 + 8 then c else if 369 + 10 * m 1 ≤ j ∧ j < 369 + 10 * m 1 + 8 then R (r + (j - (369 + 10 * m 1))) else m j := by
  have key : ∀ k, 0 ≤ k → k ≤ 8 → ∀ j, ((ir 0 k).foldl (fun f k => up f (369 + 10 * m 1 + k) (R (r + k))) m) j = if 369 + 10 * m 1 ≤ j ∧ j < 369 + 10 * m 1 + k then R (r + (j - (369 + 10 * m 1))) else m j := by
    intro k hk0 hk1
    refine up_loop (P := fun i => (∀ j, ((ir 0 i).foldl (fun f k => up f (369 + 10 * m 1 + k) (R (r + k))) m) j = if 369 + 10 * m 1 ≤ j ∧ j < 369 + 10 * m 1 + i then R (r + (j - (369 + 10 * m 1))) else m j) → ∀ j, ((ir 0 k).foldl (fun f k => up f (369 + 10 * m 1 + k) (R (r + k))) m) j = if 369 + 10 * m 1 ≤ j ∧ j < 369 + 10 * m 1 + k then R (r + (j - (369 + 10 * m 1))) else m j) (hi := k) 0 hk0 (fun z => z) (fun i hi0 hi1 ih z => ih (fun j => ?_)) (fun j => ?_)
    · rw [ir_snoc hi0, List.foldl_append]
      show up _ (369 + 10 * m 1 + i) _ j = _
      by_cases c : j = 369 + 10 * m 1 + i
      · subst c
        rw [up_at, if_pos ⟨by omega, by omega⟩, show 369 + 10 * m 1 + i - (369 + 10 * m 1) = i by omega]
      · rw [up_ne c, z j]
        by_cases c3 : 369 + 10 * m 1 ≤ j ∧ j < 369 + 10 * m 1 + i
        · rw [if_pos c3, if_pos ⟨c3.1, by omega⟩]
        · rw [if_neg c3, if_neg (by omega)]
    · rw [ir_nil (Int.le_refl _), if_neg (by omega)]
      rfl
  unfold comesS
  by_cases c1 : j = 1
  · rw [if_pos c1, c1, up_at]
  · rw [if_neg c1, up_ne c1]
    by_cases c2 : j = 369 + 10 * m 1 + 9
    · rw [if_pos c2, c2, up_at]
    · rw [if_neg c2, up_ne c2]
      by_cases c3 : j = 369 + 10 * m 1 + 8
      · rw [if_pos c3, c3, up_at]
      · rw [if_neg c3, up_ne c3, key 8 (by omega) (by omega) j]
/-- a row that may come -/
def RowG (m R : Int → Int) (r : Int) : Prop := (1 ≤ R r ∧ R r ≤ 3) ∧ (0 ≤ R (r + 4) ∧ R (r + 4) ≤ 3) ∧ (∀ k, 0 ≤ k → k < R r → 0 ≤ R (r + (1 + k)) ∧ R (r + (1 + k)) < m 0) ∧ (∀ k, 0 ≤ k → k < R (r + 4) → 0 ≤ R (r + (5 + k)) ∧ R (r + (5 + k)) < m 0)
theorem GM.comes {R : Int → Int} {r c : Int} (h : GM m) (h30 : m 1 < 30) (hr : RowG m R r) (hc : 0 ≤ c ∧ c ≤ 99) : GM (comesS m R r c) := by
  have h1 := h.wf.1.2.1
  have hat := fun j => comesS_at (m := m) (R := R) (r := r) (c := c) (j := j) h1.1
  have hlt : ∀ j, ¬ j = 1 → j < 369 → comesS m R r c j = m j := fun j hj1 hj => by rw [hat, if_neg hj1, if_neg (by omega), if_neg (by omega), if_neg (by omega)]
  have hgt : ∀ j, 669 ≤ j → comesS m R r c j = m j := fun j hj => by rw [hat, if_neg (by omega), if_neg (by omega), if_neg (by omega), if_neg (by omega)]
  have e1 : comesS m R r c 1 = m 1 + 1 := by rw [hat, if_pos rfl]
  have hold : ∀ p w, 0 ≤ p → p < m 1 → 0 ≤ w → w ≤ 9 → of_ (comesS m R r c) p w = of_ m p w := by
    intro p w hp0 hp1 hw0 hw1
    unfold of_
    rw [hat, if_neg (by omega), if_neg (by omega), if_neg (by omega), if_neg (by omega)]
  have hnew : ∀ w, 0 ≤ w → w ≤ 7 → of_ (comesS m R r c) (m 1) w = R (r + w) := by
    intro w hw0 hw1
    unfold of_
    rw [hat, if_neg (by omega), if_neg (by omega), if_neg (by omega), if_pos ⟨by omega, by omega⟩]
    congr 1
    omega
  have hn8 : of_ (comesS m R r c) (m 1) 8 = c := by
    unfold of_
    rw [hat, if_neg (by omega), if_neg (by omega), if_pos rfl]
  have hn9 : of_ (comesS m R r c) (m 1) 9 = 0 := by
    unfold of_
    rw [hat, if_neg (by omega), if_pos rfl]
  obtain ⟨⟨a, b, cc, e⟩, hwl, hzr⟩ := h
  refine ⟨⟨?_, ?_, ?_, ?_⟩, ?_, ?_⟩
  · unfold W0
    rw [e1, hlt 0 (by omega) (by omega), hlt 2 (by omega) (by omega), hlt 3 (by omega) (by omega), hlt 4 (by omega) (by omega), hlt 5 (by omega) (by omega), hlt 6 (by omega) (by omega), hlt 7 (by omega) (by omega), hlt 8 (by omega) (by omega)]
    exact ⟨a.1, by omega, a.2.2⟩
  · intro p hp0 hp1
    rw [e1] at hp1
    rw [hlt 0 (by omega) (by omega)]
    by_cases cp : p = m 1
    · subst cp
      rw [hnew 0 (by omega) (by omega), hnew 4 (by omega) (by omega), hn8, hn9, Int.add_zero]
      refine ⟨hr.1, hr.2.1, hc, Or.inl rfl, fun k hk0 hk1 => ?_, fun k hk0 hk1 => ?_⟩
      · have := hr.1
        rw [hnew (1 + k) (by omega) (by omega)]
        exact hr.2.2.1 k hk0 hk1
      · have := hr.2.1
        rw [hnew (5 + k) (by omega) (by omega)]
        exact hr.2.2.2 k hk0 hk1
    · have := b p hp0 (by omega)
      rw [hold p 0 hp0 (by omega) (by omega) (by omega), hold p 4 hp0 (by omega) (by omega) (by omega), hold p 8 hp0 (by omega) (by omega) (by omega), hold p 9 hp0 (by omega) (by omega) (by omega)]
      refine ⟨this.1, this.2.1, this.2.2.1, this.2.2.2.1, fun k hk0 hk1 => ?_, fun k hk0 hk1 => ?_⟩
      · rw [hold p _ hp0 (by omega) (by omega) (by omega)]; exact this.2.2.2.2.1 k hk0 hk1
      · rw [hold p _ hp0 (by omega) (by omega) (by omega)]; exact this.2.2.2.2.2 k hk0 hk1
  · intro k hk0 hk1
    rw [hlt 2 (by omega) (by omega)] at hk1
    rw [hlt 0 (by omega) (by omega), hgt _ (by omega), hgt _ (by omega), hgt _ (by omega)]
    exact cc k hk0 hk1
  · intro k hk0 hk1
    rw [hlt 3 (by omega) (by omega)] at hk1
    rw [hlt 0 (by omega) (by omega), hgt _ (by omega)]
    exact e k hk0 hk1
  · intro w hw0 hw1
    have h0 := a.1
    rw [hlt 0 (by omega) (by omega)] at hw1
    rw [hlt _ (by omega) (by omega)]
    exact hwl w hw0 hw1
  · intro j hj
    rw [hat, if_neg (by omega), if_neg (by omega), if_neg (by omega), if_neg (by omega)]
    exact hzr j hj
theorem GM.upP {p w v : Int} (h : GM m) (hp : 0 ≤ p ∧ p < m 1) (hw : w = 8 ∧ 0 ≤ v ∧ v ≤ 99 ∨ w = 9 ∧ (v = 0 ∨ v = 1)) : GM (up m (369 + 10 * p + w) v) := by
  have h0 := h.wf.1.1
  have h1 := h.wf.1.2.1
  refine ⟨WF_upP h.wf hp hw, fun u hu0 hu1 => ?_, h.zr.up (by omega)⟩
  rw [up_ne (by omega)] at hu1
  rw [up_ne (by omega)]
  exact h.wl u hu0 hu1
theorem GM.upS {j v : Int} (h : GM m) (hj : 4 ≤ j ∧ j ≤ 8) (hv : (j = 8 → 1 ≤ v ∧ v ≤ 40) ∧ (j ≤ 5 → 0 ≤ v ∧ v ≤ 99) ∧ (j = 6 → 0 ≤ v ∧ v ≤ 20) ∧ (j = 7 → 0 ≤ v ∧ v ≤ 6)) : GM (up m j v) := by
  refine ⟨WF_up h.wf hj hv, fun u hu0 hu1 => ?_, h.zr.up (by omega)⟩
  rw [up_ne (by omega)] at hu1
  rw [up_ne (by omega)]
  exact h.wl u hu0 hu1
end GMs
