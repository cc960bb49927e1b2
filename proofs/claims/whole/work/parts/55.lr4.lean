section LR4
variable {g : AG} {ad : Nat → Nat} {d : Nat} {σ : SG} {m k tp t : Int → Int} {h tn f e : Int}
def qQ (nb i j p q : Int) : List Qd := (ir q (min nb (p + 3))).map (fun q => (i, j, p, q))
def qP (nb i j p : Int) : List Qd := (ir p nb).flatMap (fun p => qQ nb i j p p)
def qJ (na nb i j : Int) : List Qd := (ir j (min na (i + 3))).flatMap (fun j => qP nb i j 0)
/-- all pairs of stretches, in their order -/
def qI (na nb i : Int) : List Qd := (ir i na).flatMap (fun i => qJ na nb i i)
theorem qQ_end {nb i j p q : Int} (h : nb ≤ q ∨ p + 3 ≤ q) : qQ nb i j p q = [] := by unfold qQ; rw [ir_nil (by omega)]; rfl
theorem qQ_cons {nb i j p q : Int} (h1 : q < nb) (h2 : q < p + 3) : qQ nb i j p q = (i, j, p, q) :: qQ nb i j p (q + 1) := by unfold qQ; rw [ir_cons (by omega)]; rfl
theorem qP_end {nb i j p : Int} (h : nb ≤ p) : qP nb i j p = [] := by unfold qP; rw [ir_nil h]; rfl
theorem qP_cons {nb i j p : Int} (h : p < nb) : qP nb i j p = qQ nb i j p p ++ qP nb i j (p + 1) := by unfold qP; rw [ir_cons h, List.flatMap_cons]
theorem qJ_end {na nb i j : Int} (h : na ≤ j ∨ i + 3 ≤ j) : qJ na nb i j = [] := by unfold qJ; rw [ir_nil (by omega)]; rfl
theorem qJ_cons {na nb i j : Int} (h1 : j < na) (h2 : j < i + 3) : qJ na nb i j = qP nb i j 0 ++ qJ na nb i (j + 1) := by unfold qJ; rw [ir_cons (by omega), List.flatMap_cons]
theorem qI_end {na nb i : Int} (h : na ≤ i) : qI na nb i = [] := by unfold qI; rw [ir_nil h]; rfl
theorem qI_cons {na nb i : Int} (h : i < na) : qI na nb i = qJ na nb i i ++ qI na nb (i + 1) := by unfold qI; rw [ir_cons h, List.flatMap_cons]
/-- a lesson is learned -/
def lrRel (x : Les) : List Qd → Int → (Int → Int) → Int → (Int → Int) → Int → Prop
  | [], c, m, u, m', c' => u = 0 ∧ m' = m ∧ c' = c
  | q :: l, c, m, u, m', c' => (¬ goT x.2.2 q = true → lrRel x l c m u m' c') ∧ (goT x.2.2 q = true → (¬ alkL m (slc x.1 q.1 q.2.1) (slc x.2.1 q.2.2.1 q.2.2.2) = -1 → lrRel x l c (lrCost m (alkL m (slc x.1 q.1 q.2.1) (slc x.2.1 q.2.2.1 q.2.2.2))) u m' c') ∧ (alkL m (slc x.1 q.1 q.2.1) (slc x.2.1 q.2.2.1 q.2.2.2) = -1 → (m 1 = 30 → u = 2) ∧ (¬ m 1 = 30 → ∃ R, RowR R (slc x.1 q.1 q.2.1) (slc x.2.1 q.2.2.1 q.2.2.2) ∧ lrRel x l (c + 1) (comesS m R 0 (10 + 5 * unl x.2.2 q)) u m' c')))
def lrnR (t : Int → Int) (e : Int) (m : Int → Int) (f u v : Int) (m' : Int → Int) : Prop := match lessP t e (skp t e 0) m with
  | Except.error f0 => f = f0
  | Except.ok (x, _, m1) => f = -1 ∧ lrRel x (qI x.1.length x.2.1.length 0) 0 m1 u m' v
theorem pLink_same {na nb p p' : Int} {ls ls' : List Lk} {m' : Int → Int} (hp : p ≤ e) (hok : pLink t e na nb ls p m = .ok ls' p' m') : m' = m ∧ p' ≤ e := by
  unfold pLink at hok
  split at hok
  · cases hok
  · cases h1 : pNum t e (na - 1) p m with
    | error f => rw [h1] at hok; cases hok
    | ok rr_ =>
      obtain ⟨a, p1, m1⟩ := rr_
      rw [h1] at hok
      have k1 := pNum_ok hp h1
      have hok1 : ((pNum t e (nb - 1) p1 m1).bind fun b p2 m2 => if (a, b) ∈ ls then PR.bad p else .ok (ls ++ [(a, b)]) p2 m2) = PR.ok ls' p' m' := hok
      cases h2 : pNum t e (nb - 1) p1 m1 with
      | error f => rw [h2] at hok1; cases hok1
      | ok rr_ =>
        obtain ⟨b, p2, m2⟩ := rr_
        rw [h2] at hok1
        have k2 := pNum_ok k1.2.2 h2
        have hok2 : (if (a, b) ∈ ls then PR.bad p else PR.ok (ls ++ [(a, b)]) p2 m2) = PR.ok ls' p' m' := hok1
        split at hok2
        · cases hok2
        · obtain ⟨q1, q2, q3⟩ := PR.inj hok2
          exact ⟨by rw [← q3, k2.1, k1.1], by rw [← q2]; exact k2.2.2⟩
theorem pLinks_same {na nb : Int} : ∀ (n : Nat) (ls : List Lk) (p : Int) (m : Int → Int) {ls' : List Lk} {p' : Int} {m' : Int → Int}, p ≤ e → pLinks t e na nb n ls p m = .ok ls' p' m' → m' = m
  | 0, ls, p, m, ls', p', m', hp, hok => by
    unfold pLinks at hok
    cases hok
  | n + 1, ls, p, m, ls', p', m', hp, hok => by
    rw [pLinks] at hok
    cases h1 : pLink t e na nb ls p m with
    | error f => rw [h1] at hok; cases hok
    | ok rr_ =>
      obtain ⟨l1, p1, m1⟩ := rr_
      rw [h1] at hok
      have k1 := pLink_same hp h1
      have hok1 : (if e ≤ p1 then PR.ok l1 p1 m1 else (pSign t e 59 p1 m1).bind fun _ p2 m2 => pLinks t e na nb n l1 p2 m2) = PR.ok ls' p' m' := hok
      split at hok1
      · obtain ⟨q1, q2, q3⟩ := PR.inj hok1
        rw [← q3, k1.1]
      · cases h2 : pSign t e 59 p1 m1 with
        | error f => rw [h2] at hok1; cases hok1
        | ok rr_ =>
          obtain ⟨u, p2, m2⟩ := rr_
          rw [h2] at hok1
          have k2 := pSign_ok h2
          have := pLinks_same n l1 p2 m2 k2.2.2 hok1
          rw [this, k2.1, k1.1]
theorem lessP_ok {p p' : Int} {x : Les} {m' : Int → Int} (hG : GM m) (hp : p ≤ e) (hok : lessP t e p m = .ok x p' m') : GM m' ∧ Mo m m' ∧ (∀ w ∈ x.1, 0 ≤ w ∧ w < m' 0) ∧ (∀ w ∈ x.2.1, 0 ≤ w ∧ w < m' 0) := by
  unfold lessP at hok
  cases h1 : pWs t e true 6 p m with
  | error f => rw [h1] at hok; cases hok
  | ok rr_ =>
    obtain ⟨a, p1, m1⟩ := rr_
    rw [h1] at hok
    have k1 := pWs_ok hG hp (by omega) h1
    have hok1 : (if a = [] then PR.bad p1 else (pSign t e 61 p1 m1).bind fun _ p2 m2 => (pWs t e true 6 p2 m2).bind fun b p3 m3 => if b = [] then .bad p3 else (pSign t e 47 p3 m3).bind fun _ p4 m4 => (pLinks t e a.length b.length 13 [] p4 m4).bind fun ls p5 m5 => .ok (a, b, ls) p5 m5) = PR.ok x p' m' := hok
    split at hok1
    · cases hok1
    · cases h2 : pSign t e 61 p1 m1 with
      | error f => rw [h2] at hok1; cases hok1
      | ok rr_ =>
        obtain ⟨u, p2, m2⟩ := rr_
        rw [h2] at hok1
        have k2 := pSign_ok h2
        have e2 : m2 = m1 := k2.1
        subst e2
        have hok2 : ((pWs t e true 6 p2 m2).bind fun b p3 m3 => if b = [] then .bad p3 else (pSign t e 47 p3 m3).bind fun _ p4 m4 => (pLinks t e a.length b.length 13 [] p4 m4).bind fun ls p5 m5 => .ok (a, b, ls) p5 m5) = PR.ok x p' m' := hok1
        cases h3 : pWs t e true 6 p2 m2 with
        | error f => rw [h3] at hok2; cases hok2
        | ok rr_ =>
          obtain ⟨b, p3, m3⟩ := rr_
          rw [h3] at hok2
          have k3 := pWs_ok k1.1 k2.2.2 (by omega) h3
          have hok3 : (if b = [] then PR.bad p3 else (pSign t e 47 p3 m3).bind fun _ p4 m4 => (pLinks t e a.length b.length 13 [] p4 m4).bind fun ls p5 m5 => .ok (a, b, ls) p5 m5) = PR.ok x p' m' := hok2
          split at hok3
          · cases hok3
          · cases h4 : pSign t e 47 p3 m3 with
            | error f => rw [h4] at hok3; cases hok3
            | ok rr_ =>
              obtain ⟨u, p4, m4⟩ := rr_
              rw [h4] at hok3
              have k4 := pSign_ok h4
              have e4 : m4 = m3 := k4.1
              subst e4
              have hok4 : ((pLinks t e a.length b.length 13 [] p4 m4).bind fun ls p5 m5 => .ok (a, b, ls) p5 m5) = PR.ok x p' m' := hok3
              cases h5 : pLinks t e a.length b.length 13 [] p4 m4 with
              | error f => rw [h5] at hok4; cases hok4
              | ok rr_ =>
                obtain ⟨ls, p5, m5⟩ := rr_
                rw [h5] at hok4
                have k5 := pLinks_same 13 [] p4 m4 k4.2.2 h5
                have hok5 : PR.ok (a, b, ls) p5 m5 = PR.ok x p' m' := hok4
                obtain ⟨q1, q2, q3⟩ := PR.inj hok5
                subst q1
                rw [← q3, k5]
                have hle := k3.2.1.le
                refine ⟨k3.1, k1.2.1.trans k3.2.1, fun w hw => ?_, fun w hw => ?_⟩
                · rcases k1.2.2.1 w hw with z | z
                  · exact ⟨z.1, by omega⟩
                  · exact absurd z.1 (by decide)
                · rcases k3.2.2.1 w hw with z | z
                  · exact z
                  · exact absurd z.1 (by decide)
theorem LSn.fm {A K : List Nat} {s : SG} {x : Les} (hX : LSn σ x) (hF : Fm A K σ s) (hA : decide (109 ∈ A ∨ 110 ∈ A ∨ 111 ∈ A) = false) (hK : decide (14 ∈ K ∨ 15 ∈ K ∨ 18 ∈ K) = false) : LSn s x := by
  have hA' := of_decide_eq_false hA
  have hK' := of_decide_eq_false hK
  have e9 : ia s 109 = ia σ 109 := hF.2.2.1 109 (fun q => hA' (Or.inl q))
  obtain ⟨a, b, c, e, fL, r⟩ := hX
  exact ⟨by rw [hF.2.2.2 102 15 (fun q => hK' (Or.inr (Or.inl q.2)))]; exact a, by rw [hF.2.2.2 102 14 (fun q => hK' (Or.inl q.2))]; exact b, by rw [e9]; exact c, by rw [e9]; exact e, fL.fm hF (decide_eq_false (fun q => hA' (Or.inr q))) (decide_eq_false (fun q => hK' (Or.inr (Or.inr q)))), r⟩
/-- between two stretches -/
def LrS (σ τ : SG) (m0 k : Int → Int) (h : Int) (tp : Int → Int) (x : Les) (mi : Int → Int) (c : Int) : Prop := (SR τ) ∧ (AF τ m0 k h tp) ∧ (sc τ 102 9 = -1) ∧ (sc τ 102 0 = 0) ∧ (ia τ 103 = mi) ∧ (GM mi) ∧ (LSn τ x) ∧ (Fc σ τ) ∧ (∀ w ∈ x.1, 0 ≤ w ∧ w < mi 0) ∧ (∀ w ∈ x.2.1, 0 ≤ w ∧ w < mi 0) ∧ (0 ≤ c ∧ c ≤ mi 1)
theorem LrS.sr {σ τ : SG} {m0 k : Int → Int} {h : Int} {tp : Int → Int} {x : Les} {mi : Int → Int} {c : Int} (h_ : LrS σ τ m0 k h tp x mi c) : SR τ := h_.1
theorem LrS.af {σ τ : SG} {m0 k : Int → Int} {h : Int} {tp : Int → Int} {x : Les} {mi : Int → Int} {c : Int} (h_ : LrS σ τ m0 k h tp x mi c) : AF τ m0 k h tp := h_.2.1
theorem LrS.f9 {σ τ : SG} {m0 k : Int → Int} {h : Int} {tp : Int → Int} {x : Les} {mi : Int → Int} {c : Int} (h_ : LrS σ τ m0 k h tp x mi c) : sc τ 102 9 = -1 := h_.2.2.1
theorem LrS.f0 {σ τ : SG} {m0 k : Int → Int} {h : Int} {tp : Int → Int} {x : Les} {mi : Int → Int} {c : Int} (h_ : LrS σ τ m0 k h tp x mi c) : sc τ 102 0 = 0 := h_.2.2.2.1
theorem LrS.em {σ τ : SG} {m0 k : Int → Int} {h : Int} {tp : Int → Int} {x : Les} {mi : Int → Int} {c : Int} (h_ : LrS σ τ m0 k h tp x mi c) : ia τ 103 = mi := h_.2.2.2.2.1
theorem LrS.gm {σ τ : SG} {m0 k : Int → Int} {h : Int} {tp : Int → Int} {x : Les} {mi : Int → Int} {c : Int} (h_ : LrS σ τ m0 k h tp x mi c) : GM mi := h_.2.2.2.2.2.1
theorem LrS.ls {σ τ : SG} {m0 k : Int → Int} {h : Int} {tp : Int → Int} {x : Les} {mi : Int → Int} {c : Int} (h_ : LrS σ τ m0 k h tp x mi c) : LSn τ x := h_.2.2.2.2.2.2.1
theorem LrS.fc {σ τ : SG} {m0 k : Int → Int} {h : Int} {tp : Int → Int} {x : Les} {mi : Int → Int} {c : Int} (h_ : LrS σ τ m0 k h tp x mi c) : Fc σ τ := h_.2.2.2.2.2.2.2.1
theorem LrS.w1 {σ τ : SG} {m0 k : Int → Int} {h : Int} {tp : Int → Int} {x : Les} {mi : Int → Int} {c : Int} (h_ : LrS σ τ m0 k h tp x mi c) : ∀ w ∈ x.1, 0 ≤ w ∧ w < mi 0 := h_.2.2.2.2.2.2.2.2.1
theorem LrS.w2 {σ τ : SG} {m0 k : Int → Int} {h : Int} {tp : Int → Int} {x : Les} {mi : Int → Int} {c : Int} (h_ : LrS σ τ m0 k h tp x mi c) : ∀ w ∈ x.2.1, 0 ≤ w ∧ w < mi 0 := h_.2.2.2.2.2.2.2.2.2.1
theorem LrS.cb {σ τ : SG} {m0 k : Int → Int} {h : Int} {tp : Int → Int} {x : Les} {mi : Int → Int} {c : Int} (h_ : LrS σ τ m0 k h tp x mi c) : 0 ≤ c ∧ c ≤ mi 1 := h_.2.2.2.2.2.2.2.2.2.2
theorem GM.cost {p : Int} (hG : GM m) (hp : 0 ≤ p ∧ p < m 1) : GM (lrCost m p) := by
  have := hG.wf.2.1 p hp.1 hp.2
  unfold of_ at this
  unfold lrCost
  refine hG.upP hp (Or.inl ⟨rfl, ?_⟩)
  split <;> omega
/-- how learn ends -/
def LnP (σ : SG) (m k : Int → Int) (h : Int) (tp : Int → Int) (tn r : Int) (s : SG) : Prop := ∃ f u v m', lrnR tp tn m f u v m' ∧ Fc σ s ∧ (¬ f = -1 → r = 0 ∧ sc s 102 0 = 1 ∧ PS s m k h tp 0 f) ∧ (f = -1 → (u = 0 → r = v ∧ sc s 102 0 = 0 ∧ PS s m' k h tp 0 (-1) ∧ GM m') ∧ (¬ u = 0 → r = 0 ∧ sc s 102 0 = 2 ∧ PS s m k h tp 0 (-1)))
/-- the state, with what is still to come -/
def LrG (σ τ : SG) (m0 k : Int → Int) (h : Int) (tp : Int → Int) (x : Les) (m1 mi : Int → Int) (c u : Int) (rem : List Qd) : Prop := LrS σ τ m0 k h tp x mi c ∧ (u = 0 ∨ u = 1) ∧ (u = 1 → ∀ v m', lrRel x (qI x.1.length x.2.1.length 0) 0 m1 2 m' v) ∧ (u = 0 → ∀ u' v m', lrRel x rem c mi u' m' v → lrRel x (qI x.1.length x.2.1.length 0) 0 m1 u' m' v)
theorem LrS.go {τ s : SG} {m0 mi mj : Int → Int} {x : Les} {c c' : Int} (q : LrS σ τ m0 k h tp x mi c) (hS : SR s) (hF : Fm [103, 107] [] τ s) (em : ia s 103 = mj) (hg : GM mj) (e0 : mj 0 = mi 0) (hc : 0 ≤ c' ∧ c' ≤ mj 1) : LrS σ s m0 k h tp x mj c' :=
  ⟨hS, q.af.fm hF rfl rfl, by rw [hF.s 9 rfl]; exact q.f9, by rw [hF.s 0 rfl]; exact q.f0, em, hg, q.ls.fm hF rfl rfl, q.fc.trans (hF.c rfl), by rw [e0]; exact q.w1, by rw [e0]; exact q.w2, hc⟩
theorem learn72 {x : Les} {m1 : Int → Int} {i j pp : Int} {rest : List Qd} (hi : 0 ≤ i ∧ i ≤ j ∧ j < x.1.length ∧ j < i + 3) (hp : 0 ≤ pp ∧ pp < x.2.1.length) (hd : 3 ≤ d)
    (hout : ∀ τ mi c u, LrG σ τ m k h tp x m1 mi c u rest → aX11_learn_54 g ad d (Ki (LnP σ m k h tp tn)) 0 0 τ c u i j (pp + 1)) :
    ∀ (n : Nat) (q : Int), pp ≤ q → q + n = min (x.2.1.length : Int) (pp + 3) → ∀ τ mi c u, LrG σ τ m k h tp x m1 mi c u (qQ x.2.1.length i j pp q ++ rest) → aX11_learn_72 g ad d (Ki (LnP σ m k h tp tn)) 0 0 τ c u i j pp q := by
  intro n
  induction n with
  | zero =>
    intro q hq0 hq τ mi c u ⟨G, hu, hu1, hu0⟩
    have hna := G.ls.2.2.2.2.2.1
    have hnb := G.ls.2.2.2.2.2.2.1
    have hm1 := G.gm.wf.1.2.1
    have hc := G.cb
    have en : sc τ 102 14 - sc τ 102 15 = (x.2.1.length : Int) := by rw [G.ls.1, G.ls.2.1]; omega
    rw [qQ_end (by omega), List.nil_append] at hu0
    have go : iR (pp + 1) ∧ (iR c → iR u → iR i → iR j → iR (pp + 1) → SR τ → aX11_learn_54 g ad d (Ki (LnP σ m k h tp tn)) 0 0 τ c u i j (pp + 1)) := ⟨iR_of (by omega) (by omega), fun _ _ _ _ _ _ => hout τ mi c u ⟨G, hu, hu1, hu0⟩⟩
    refine bX11_learn_72 (iR_of (by omega) (by omega)) (iR01 hu) (iR_of (by omega) (by omega)) (iR_of (by omega) (by omega)) (iR_of (by omega) (by omega)) (iR_of (by omega) (by omega)) G.sr ?_
    rw [en]
    exact ⟨iR_of (by omega) (by omega), fun _ => go, fun _ => ⟨iR_of (by omega) (by omega), fun _ => go, fun z => absurd (by omega) z⟩⟩
  | succ n ih =>
    intro q hq0 hq τ mi c u ⟨G, hu, hu1, hu0⟩
    have hna := G.ls.2.2.2.2.2.1
    have hnb := G.ls.2.2.2.2.2.2.1
    have hm1 := G.gm.wf.1.2.1
    have hc := G.cb
    have en : sc τ 102 14 - sc τ 102 15 = (x.2.1.length : Int) := by rw [G.ls.1, G.ls.2.1]; omega
    rw [qQ_cons (by omega) (by omega), List.cons_append] at hu0
    have i1 : iR i := iR_of (by omega) (by omega)
    have i2 : iR j := iR_of (by omega) (by omega)
    have i3 : iR pp := iR_of (by omega) (by omega)
    have i4 : iR q := iR_of (by omega) (by omega)
    have i5 : iR (q + 1) := iR_of (by omega) (by omega)
    have ic : iR c := iR_of (by omega) (by omega)
    refine bX11_learn_72 ic (iR01 hu) i1 i2 i3 i4 G.sr ?_
    rw [en]
    refine ⟨iR_of (by omega) (by omega), fun z => absurd z (by omega), fun _ => ⟨iR_of (by omega) (by omega), fun z => absurd z (by omega), fun _ => ⟨fun cu => ⟨i5, fun _ _ _ _ _ _ _ => ?_⟩, fun cu => ?_⟩⟩⟩
    · exact ih (q + 1) (by omega) (by omega) τ mi c u ⟨G, hu, hu1, fun z => absurd z cu⟩
    · have hu0' := hu0 cu
      refine EI.k (e_goTogether (d := d - 1) G.ls.2.2.2.2.1 G.ls.2.2.2.2.2.2.2 i1 i2 i3 i4 G.sr (by omega)) (by omega) (fun _ _ => bi_nz (fun cg => ?_) (fun cg => ⟨i5, fun _ _ _ _ _ _ _ => ?_⟩))
      · refine Cl.i (e_learns (d := d - 1) G.em G.gm G.ls G.w1 G.w2 hi ⟨by omega, by omega, by omega, by omega⟩ G.sr (by omega)) (by omega) (fun r7 s7 hr7 hS7 hh => ?_)
        obtain ⟨⟨hA, hB⟩, hF⟩ := hh
        have hab := alkL_b G.gm.wf.1 (slc x.1 i j) (slc x.2.1 pp q)
        by_cases ca : alkL mi (slc x.1 i j) (slc x.2.1 pp q) = -1
        · obtain ⟨hB1, hB2⟩ := hB ca
          by_cases c30 : mi 1 = 30
          · obtain ⟨r2, e3⟩ := hB1 c30
            refine ⟨fun z => absurd r2 z, fun _ => ⟨iR_of (by omega) (by omega), i5, fun _ _ _ _ _ _ _ => ?_⟩⟩
            refine ih (q + 1) (by omega) (by omega) s7 mi (c + 0) 1 ⟨G.go hS7 hF e3 G.gm rfl (by omega), Or.inr rfl, fun _ v m' => hu0' 2 v m' ⟨fun z => absurd cg z, fun _ => ⟨fun z => absurd ca z, fun _ => ⟨fun _ => rfl, fun z => absurd c30 z⟩⟩⟩, fun z => absurd z (by decide)⟩
          · obtain ⟨r1, R, hRR, e3, hRG⟩ := hB2 c30
            have hm0 : comesS mi R 0 (10 + 5 * unl x.2.2 (i, j, pp, q)) 0 = mi 0 := by rw [comesS_at hm1.1, if_neg (by omega), if_neg (by omega), if_neg (by omega), if_neg (by omega)]
            have hm1' : comesS mi R 0 (10 + 5 * unl x.2.2 (i, j, pp, q)) 1 = mi 1 + 1 := by rw [comesS_at hm1.1, if_pos rfl]
            have hub1 := unA_b (F := fun l => l.1) (ls := x.2.2) hi.2.1
            have hub2 := unA_b (F := fun l => l.2) (ls := x.2.2) hq0
            have hun : unl x.2.2 (i, j, pp, q) = unA (fun l => l.1) x.2.2 i j + unA (fun l => l.2) x.2.2 pp q := rfl
            have hg : GM (comesS mi R 0 (10 + 5 * unl x.2.2 (i, j, pp, q))) := G.gm.comes (by omega) hRG (by omega)
            refine ⟨fun _ => ⟨iR_of (by omega) (by omega), i5, fun _ _ _ _ _ _ _ => ?_⟩, fun z => absurd z (by omega)⟩
            refine ih (q + 1) (by omega) (by omega) s7 _ (c + r7) 0 ⟨G.go hS7 hF e3 hg hm0 (by omega), Or.inl rfl, fun z => absurd z (by decide), fun _ u' v m' hh => hu0' u' v m' ⟨fun z => absurd cg z, fun _ => ⟨fun z => absurd ca z, fun _ => ⟨fun z => absurd z c30, fun _ => ⟨R, hRR, ?_⟩⟩⟩⟩⟩
            rw [r1] at hh
            exact hh
        · obtain ⟨r0, e3⟩ := hA ca
          have hm0 : lrCost mi (alkL mi (slc x.1 i j) (slc x.2.1 pp q)) 0 = mi 0 := by unfold lrCost; rw [up_ne (by omega)]
          have hm1' : lrCost mi (alkL mi (slc x.1 i j) (slc x.2.1 pp q)) 1 = mi 1 := by unfold lrCost; rw [up_ne (by omega)]
          refine ⟨fun _ => ⟨iR_of (by omega) (by omega), i5, fun _ _ _ _ _ _ _ => ?_⟩, fun z => absurd z (by omega)⟩
          refine ih (q + 1) (by omega) (by omega) s7 _ (c + r7) 0 ⟨G.go hS7 hF e3 (G.gm.cost ⟨by omega, hab.2⟩) hm0 (by omega), Or.inl rfl, fun z => absurd z (by decide), fun _ u' v m' hh => hu0' u' v m' ⟨fun z => absurd cg z, fun _ => ⟨fun _ => ?_, fun z => absurd z ca⟩⟩⟩
          rw [r0, Int.add_zero] at hh
          exact hh
      · exact ih (q + 1) (by omega) (by omega) τ mi c u ⟨G, hu, hu1, fun _ u' v m' hh => hu0' u' v m' ⟨fun _ => hh, fun z => absurd z cg⟩⟩
theorem learn54 {x : Les} {m1 : Int → Int} {i j : Int} {rest : List Qd} (hi : 0 ≤ i ∧ i ≤ j ∧ j < x.1.length ∧ j < i + 3) (hd : 3 ≤ d)
    (hout : ∀ τ mi c u, LrG σ τ m k h tp x m1 mi c u rest → aX11_learn_34 g ad d (Ki (LnP σ m k h tp tn)) 0 0 τ c u i (j + 1)) :
    ∀ (n : Nat) (pp : Int), 0 ≤ pp → pp + n = (x.2.1.length : Int) → ∀ τ mi c u, LrG σ τ m k h tp x m1 mi c u (qP x.2.1.length i j pp ++ rest) → aX11_learn_54 g ad d (Ki (LnP σ m k h tp tn)) 0 0 τ c u i j pp := by
  intro n
  induction n with
  | zero =>
    intro pp hp0 hp τ mi c u ⟨G, hu, hu1, hu0⟩
    have hna := G.ls.2.2.2.2.2.1
    have hnb := G.ls.2.2.2.2.2.2.1
    have hm1 := G.gm.wf.1.2.1
    have hc := G.cb
    have en : sc τ 102 14 - sc τ 102 15 = (x.2.1.length : Int) := by rw [G.ls.1, G.ls.2.1]; omega
    rw [qP_end (by omega), List.nil_append] at hu0
    refine bX11_learn_54 (iR_of (by omega) (by omega)) (iR01 hu) (iR_of (by omega) (by omega)) (iR_of (by omega) (by omega)) (iR_of (by omega) (by omega)) G.sr ?_
    rw [en]
    exact ⟨iR_of (by omega) (by omega), fun _ => ⟨iR_of (by omega) (by omega), fun _ _ _ _ _ => hout τ mi c u ⟨G, hu, hu1, hu0⟩⟩, fun z => absurd (by omega) z⟩
  | succ n ih =>
    intro pp hp0 hp τ mi c u ⟨G, hu, hu1, hu0⟩
    have hna := G.ls.2.2.2.2.2.1
    have hnb := G.ls.2.2.2.2.2.2.1
    have hm1 := G.gm.wf.1.2.1
    have hc := G.cb
    have en : sc τ 102 14 - sc τ 102 15 = (x.2.1.length : Int) := by rw [G.ls.1, G.ls.2.1]; omega
    rw [qP_cons (by omega), List.append_assoc] at hu0
    refine bX11_learn_54 (iR_of (by omega) (by omega)) (iR01 hu) (iR_of (by omega) (by omega)) (iR_of (by omega) (by omega)) (iR_of (by omega) (by omega)) G.sr ?_
    rw [en]
    refine ⟨iR_of (by omega) (by omega), fun z => absurd z (by omega), fun _ _ _ _ _ _ _ _ => ?_⟩
    exact learn72 hi ⟨hp0, by omega⟩ hd (fun τ' mi' c' u' G' => ih (pp + 1) (by omega) (by omega) τ' mi' c' u' G') (min (x.2.1.length : Int) (pp + 3) - pp).toNat pp (Int.le_refl _) (by omega) τ mi c u ⟨G, hu, hu1, hu0⟩
theorem learn34 {x : Les} {m1 : Int → Int} {i : Int} {rest : List Qd} (hi : 0 ≤ i ∧ i < x.1.length) (hd : 3 ≤ d)
    (hout : ∀ τ mi c u, LrG σ τ m k h tp x m1 mi c u rest → aX11_learn_23 g ad d (Ki (LnP σ m k h tp tn)) 0 0 τ c u (i + 1)) :
    ∀ (n : Nat) (j : Int), i ≤ j → j + n = min (x.1.length : Int) (i + 3) → ∀ τ mi c u, LrG σ τ m k h tp x m1 mi c u (qJ x.1.length x.2.1.length i j ++ rest) → aX11_learn_34 g ad d (Ki (LnP σ m k h tp tn)) 0 0 τ c u i j := by
  intro n
  induction n with
  | zero =>
    intro j hj0 hj τ mi c u ⟨G, hu, hu1, hu0⟩
    have hna := G.ls.2.2.2.2.2.1
    have hnb := G.ls.2.2.2.2.2.2.1
    have hm1 := G.gm.wf.1.2.1
    have hc := G.cb
    rw [qJ_end (by omega), List.nil_append] at hu0
    have go : iR (i + 1) ∧ (iR c → iR u → iR (i + 1) → SR τ → aX11_learn_23 g ad d (Ki (LnP σ m k h tp tn)) 0 0 τ c u (i + 1)) := ⟨iR_of (by omega) (by omega), fun _ _ _ _ => hout τ mi c u ⟨G, hu, hu1, hu0⟩⟩
    refine bX11_learn_34 (iR_of (by omega) (by omega)) (iR01 hu) (iR_of (by omega) (by omega)) (iR_of (by omega) (by omega)) G.sr ?_
    rw [G.ls.1]
    exact ⟨fun _ => go, fun _ => ⟨iR_of (by omega) (by omega), fun _ => go, fun z => absurd (by omega) z⟩⟩
  | succ n ih =>
    intro j hj0 hj τ mi c u ⟨G, hu, hu1, hu0⟩
    have hna := G.ls.2.2.2.2.2.1
    have hnb := G.ls.2.2.2.2.2.2.1
    have hm1 := G.gm.wf.1.2.1
    have hc := G.cb
    rw [qJ_cons (by omega) (by omega), List.append_assoc] at hu0
    refine bX11_learn_34 (iR_of (by omega) (by omega)) (iR01 hu) (iR_of (by omega) (by omega)) (iR_of (by omega) (by omega)) G.sr ?_
    rw [G.ls.1]
    refine ⟨fun z => absurd z (by omega), fun _ => ⟨iR_of (by omega) (by omega), fun z => absurd z (by omega), fun _ _ _ _ _ _ _ => ?_⟩⟩
    exact learn54 ⟨hi.1, hj0, by omega, by omega⟩ hd (fun τ' mi' c' u' G' => ih (j + 1) (by omega) (by omega) τ' mi' c' u' G') x.2.1.length 0 (Int.le_refl _) (by omega) τ mi c u ⟨G, hu, hu1, hu0⟩
theorem learn23 {x : Les} {m1 : Int → Int} (hz : ZR 855 m) (hGo : ∀ u v m', lrRel x (qI x.1.length x.2.1.length 0) 0 m1 u m' v → lrnR tp tn m (-1) u v m') (hd : 3 ≤ d) :
    ∀ (n : Nat) (i : Int), 0 ≤ i → i + n = (x.1.length : Int) → ∀ τ mi c u, LrG σ τ m k h tp x m1 mi c u (qI x.1.length x.2.1.length i) → aX11_learn_23 g ad d (Ki (LnP σ m k h tp tn)) 0 0 τ c u i := by
  intro n
  induction n with
  | zero =>
    intro i hi0 hi τ mi c u ⟨G, hu, hu1, hu0⟩
    have hna := G.ls.2.2.2.2.2.1
    have hm1 := G.gm.wf.1.2.1
    have hc := G.cb
    have ic : iR c := iR_of (by omega) (by omega)
    rw [qI_end (by omega)] at hu0
    refine bX11_learn_23 ic (iR01 hu) (iR_of (by omega) (by omega)) G.sr ⟨fun _ => ⟨fun cu _ _ _ hS2 => ?_, fun cu => re_i ?_⟩, fun z => absurd (by rw [G.ls.1]; omega) z⟩
    · refine up_loop (P := fun j => ∀ s, SR s → Fm [103] [0] τ s → sc s 102 0 = 2 → ZR 855 (ia s 103) → (∀ i, 0 ≤ i → i < j → ia s 103 i = m i) → aX11_learn_191 g ad d (Ki (LnP σ m k h tp tn)) 0 0 s c u j) (hi := 855) 0 (by omega) ?_ ?_ _ hS2 ((Fm.refl τ).setS (by decide)) (by simp (config := {decide := true}) only [sc_S, ia_S, la_S, rv_S, sc_I, rv_I, la_I, ia_I, sc_L, rv_L, ia_L, la_L, sc_A, rv_A, la_A, ia_A, sc_B, rv_B, ia_B, la_B, sc_R, ia_R, la_R, rv_R, ia_w, la_w, rv_w, sc_w, if_true, if_false]) (by simp (config := {decide := true}) only [sc_S, ia_S, la_S, rv_S, sc_I, rv_I, la_I, ia_I, sc_L, rv_L, ia_L, la_L, sc_A, rv_A, la_A, ia_A, sc_B, rv_B, ia_B, la_B, sc_R, ia_R, la_R, rv_R, ia_w, la_w, rv_w, sc_w, if_true, if_false]; rw [G.em]; exact G.gm.zr) (fun i h0 h1 => by omega)
      · intro s hSs hF e0 hzs hall
        have qt := G.af.fm hF rfl rfl
        refine bX11_learn_191 ic (iR01 hu) (iR_lit rfl) hSs ⟨fun _ => re_i ⟨-1, 2, 0, m, hGo 2 0 m (hu1 (by omega) 0 m), G.fc.trans (hF.c rfl), fun z => absurd rfl z, fun _ => ⟨fun z => absurd z (by decide), fun _ => ⟨rfl, e0, ⟨ZR.eq hzs hz hall, qt.k, qt.h, qt.tp, qt.tn, by rw [hF.s 9 rfl]; exact G.f9, LI_0 qt.li⟩⟩⟩⟩, fun z => absurd (by decide) z⟩
      · intro j hj0 hj1 ih s hSs hF e0 hzs hall
        have qt := G.af.fm hF rfl rfl
        refine bX11_learn_191 ic (iR01 hu) (iR_of (by omega) (by omega)) hSs ⟨fun z => absurd z (by omega), fun _ => ⟨⟨hj0, hj1⟩, iR_of (by omega) (by omega), fun _ _ _ hS' => ?_⟩⟩
        refine ih _ hS' (hF.setI (by decide)) (by simp (config := {decide := true}) only [sc_S, ia_S, la_S, rv_S, sc_I, rv_I, la_I, ia_I, sc_L, rv_L, ia_L, la_L, sc_A, rv_A, la_A, ia_A, sc_B, rv_B, ia_B, la_B, sc_R, ia_R, la_R, rv_R, ia_w, la_w, rv_w, sc_w, if_true, if_false]; exact e0) (by rw [ia_setI]; exact hzs.up ⟨hj0, hj1⟩) (fun i hi0 hi1 => ?_)
        rw [ia_setI]
        by_cases e : i = j
        · rw [e, up_at]; exact qt.sd j hj0 hj1
        · rw [up_ne e]; exact hall i hi0 (by omega)
    · exact ⟨-1, 0, c, mi, hGo 0 c mi (hu0 cu 0 c mi ⟨rfl, rfl, rfl⟩), G.fc, fun z => absurd rfl z, fun _ => ⟨fun _ => ⟨rfl, G.f0, ⟨G.em, G.af.k, G.af.h, G.af.tp, G.af.tn, G.f9, LI_0 G.af.li⟩, G.gm⟩, fun z => absurd rfl z⟩⟩
  | succ n ih =>
    intro i hi0 hi τ mi c u ⟨G, hu, hu1, hu0⟩
    have hna := G.ls.2.2.2.2.2.1
    have hm1 := G.gm.wf.1.2.1
    have hc := G.cb
    rw [qI_cons (by omega)] at hu0
    refine bX11_learn_23 (iR_of (by omega) (by omega)) (iR01 hu) (iR_of (by omega) (by omega)) G.sr ⟨fun z => absurd z (by rw [G.ls.1]; omega), fun _ _ _ _ _ _ => ?_⟩
    exact learn34 ⟨hi0, by omega⟩ hd (fun τ' mi' c' u' G' => ih (i + 1) (by omega) (by omega) τ' mi' c' u' G') (min (x.1.length : Int) (i + 3) - i).toNat i (Int.le_refl _) (by omega) τ mi c u ⟨G, hu, hu1, hu0⟩
theorem e_learn (p : PS σ m k h tp tn f) (hG : GM m) (htb : ∀ j, 0 ≤ tp j ∧ tp j ≤ 255) (htn : 0 ≤ tn ∧ tn ≤ 400) (hS : SR σ) (hd : 7 ≤ d) : Eb g ad d mX11_learn 0 0 [.ref (ad 102)] σ (Ki (LnP σ m k h tp tn)) := by
  refine EbS rfl pl_X11 rfl rfl (bX11_learn_0 hS ?_)
  refine Cl.vo (e_begins (d := d - 1) hS) (by omega) (fun s1 hS1 b1 => ?_)
  have hSP := b1.sp p hG htb htn
  have q1 := b1.af p
  have hFc1 : Fc σ s1 := b1.fm.c rfl
  refine Cl.vo (e_lesson (d := d - 1) hSP b1.f18 hS1 (by omega)) (by omega) (fun s2 hS2 h2 => ?_)
  obtain ⟨hX, hF2⟩ := h2
  have q2 := q1.fm hF2 rfl rfl
  have hFc2 : Fc σ s2 := hFc1.trans (hF2.c rfl)
  cases hrd : lessP tp tn (skp tp tn 0) m with
  | error f0 =>
    rw [hrd] at hX
    refine Cl.i (e_isRight_bad (d := d - 1) q2 hX.2.1 hX.2.2 hX.1.zr hG.zr hS2) (by omega) (fun r s hr hs hh => ⟨fun z => absurd hh.1 z, fun _ => re_i ⟨f0, 0, 0, m, ?_, hFc2.trans (hh.2.2.2.c rfl), fun _ => ⟨rfl, hh.2.1, hh.2.2.1⟩, fun z => absurd z (by have hf0 : 0 ≤ f0 := hX.2.2; omega)⟩⟩)
    unfold lrnR
    rw [hrd]
  | ok rr_ =>
    obtain ⟨x, p1, m1⟩ := rr_
    rw [hrd] at hX
    obtain ⟨hP, h9, h8, h3, h0, hLS⟩ := hX
    have hp0 : skp tp tn 0 ≤ tn := (scn_le htn.1).2
    have hok := lessP_ok hG hp0 hrd
    have hGo : ∀ u v m', lrRel x (qI x.1.length x.2.1.length 0) 0 m1 u m' v → lrnR tp tn m (-1) u v m' := by
      intro u v m' hh
      unfold lrnR
      rw [hrd]
      exact ⟨rfl, hh⟩
    refine Cl.i (e_isRight_ok (d := d - 1) q2 h9 h3 hS2) (by omega) (fun r s hr hs hh => ⟨fun _ => ?_, fun z => absurd z (by have := hh.1; omega)⟩)
    obtain ⟨hr1, hth, hps, rfl⟩ := hh
    intro _ _ _ _
    have hFs : Fm [] [0] s2 (setS s2 102 0 0) := (Fm.refl s2).setS (by decide)
    refine learn23 hG.zr hGo (by omega) x.1.length 0 (Int.le_refl _) (by omega) _ m1 0 0 ⟨⟨hs, q2.fm hFs rfl rfl, by simp (config := {decide := true}) only [sc_S, ia_S, la_S, rv_S, sc_I, rv_I, la_I, ia_I, sc_L, rv_L, ia_L, la_L, sc_A, rv_A, la_A, ia_A, sc_B, rv_B, ia_B, la_B, sc_R, ia_R, la_R, rv_R, ia_w, la_w, rv_w, sc_w, if_true, if_false]; exact h9, hth, h3, hok.1, hLS.fm hFs rfl rfl, hFc2.S, hok.2.2.1, hok.2.2.2, ⟨Int.le_refl _, hok.1.wf.1.2.1.1⟩⟩, Or.inl rfl, fun z => absurd z (by decide), fun _ u' v m' hh => hh⟩
end LR4
