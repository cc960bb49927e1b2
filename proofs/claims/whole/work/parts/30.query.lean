section QY
variable {g : AG} {ad : Nat → Nat} {d : Nat} {σ : SG} {m : Int → Int}
theorem lCmp_eq {a b : Int} (ha : lR a) (hb : lR b) : lCmp a b = if a < b then -1 else if a = b then 0 else 1 := by
  unfold lCmp lg_cmp
  have h1 : (Int64.ofInt a).toInt = a := Int64.toInt_ofInt_of_le ha.1 ha.2
  have h2 : (Int64.ofInt b).toInt = b := Int64.toInt_ofInt_of_le hb.1 hb.2
  simp only [Int64.lt_iff_toInt_lt, gt_iff_lt, ← Int64.toInt_inj, h1, h2]
  by_cases c : a < b
  · rw [if_neg (by omega), if_neg (by omega), if_pos c]; rfl
  · by_cases c2 : a = b
    · rw [if_neg (by omega), if_pos c2, if_neg c, if_pos c2]; rfl
    · rw [if_pos (by omega), if_neg c, if_neg c2]; rfl
theorem lCmp_lt {a b : Int} (ha : lR a) (hb : lR b) : lCmp a b < 0 ↔ a < b := by
  rw [lCmp_eq ha hb]
  split
  · omega
  · split <;> omega
theorem lCmp_le {a b : Int} (ha : lR a) (hb : lR b) : lCmp a b ≤ 0 ↔ a ≤ b := by
  rw [lCmp_eq ha hb]
  split
  · omega
  · split <;> omega
/-- all that a call of the reference keeps that only asks -/
def Fq (σ s : SG) : Prop := rv s = rv σ ∧ (∀ c, c ≠ 113 → la s c = la σ c) ∧ (∀ c, (c < 104 ∨ c = 105 ∨ c = 106 ∨ 130 < c) → ia s c = ia σ c) ∧ (∀ c k, (c ≠ 102 ∨ k = 4 ∨ k = 6 ∨ k = 9) → sc s c k = sc σ c k)
theorem Fq.refl (σ : SG) : Fq σ σ := ⟨rfl, fun _ _ => rfl, fun _ _ => rfl, fun _ _ _ => rfl⟩
theorem Fq.trans {σ s t : SG} (h1 : Fq σ s) (h2 : Fq s t) : Fq σ t := ⟨h2.1.trans h1.1, fun c hc => (h2.2.1 c hc).trans (h1.2.1 c hc), fun c hc => (h2.2.2.1 c hc).trans (h1.2.2.1 c hc), fun c k hk => (h2.2.2.2 c k hk).trans (h1.2.2.2 c k hk)⟩
theorem Fm.q {A K : List Nat} {σ s : SG} (h : Fm A K σ s) (hA : A.all (fun c => decide (c = 104 ∨ 107 ≤ c ∧ c ≤ 130)) = true) (hK : K.all (fun k => decide (k ≠ 4 ∧ k ≠ 6 ∧ k ≠ 9)) = true) : Fq σ s := by
  refine ⟨h.1, fun c _ => by rw [h.2.1], fun c hc => h.2.2.1 c (fun q => ?_), fun c k hk => h.2.2.2 c k (fun q => ?_)⟩
  · have := of_decide_eq_true (List.all_eq_true.mp hA c q)
    omega
  · have := of_decide_eq_true (List.all_eq_true.mp hK k q.2)
    omega
theorem Fq.S {σ s : SG} (h : Fq σ s) {k : Nat} {v : Int} (hk : decide (k ≠ 4 ∧ k ≠ 6 ∧ k ≠ 9) = true) : Fq σ (setS s 102 k v) := by
  have hk' := of_decide_eq_true hk
  refine ⟨h.1, h.2.1, h.2.2.1, fun c j hj => ?_⟩
  rw [sc_S, if_neg (by omega)]
  exact h.2.2.2 c j hj
theorem Fq.mm {σ s : SG} (h : Fq σ s) : ia s 103 = ia σ 103 := h.2.2.1 103 (by decide)
theorem LI_of {s : SG} (h : LV (ia s 103) (ia s 112)) : LI s := fun _ => h
theorem LI_S {s : SG} {k : Nat} {v : Int} (hk : k ≠ 20) (h : LI s) : LI (setS s 102 k v) := by
  intro q
  rw [sc_S, if_neg (by omega)] at q
  exact h q
/-- a call of the reference that only asks -/
def EQ (g : AG) (ad : Nat → Nat) (d : Nat) (M : AM) (as : List Value) (σ : SG) (v t : Int) : Prop := Eb g ad d M 0 0 as σ (Ki fun r s => r = v ∧ sc s 102 0 = t ∧ Fq σ s ∧ LI s)
/-! which way -/
theorem KW_mem {L : List Wy} {k : Nat} {w : Wy} (h : KW L k w) : w ∈ L := by
  have := List.mem_of_getElem? h.2
  unfold cEq at this
  exact (List.mem_filter.mp this).1
theorem cLt_lt {L : List Wy} {a b : Int} (h : a < b) : cLt a L + (cEq a L).length ≤ cLt b L := by
  induction L with
  | nil => exact Nat.le_refl _
  | cons v L ih =>
    unfold cLt cEq at ih ⊢
    rw [List.filter_cons, List.filter_cons, List.filter_cons]
    by_cases c1 : v.1 < a
    · rw [if_pos (decide_eq_true c1), if_neg (by rw [decide_eq_true_eq]; omega), if_pos (decide_eq_true (by omega : v.1 < b)), List.length_cons, List.length_cons]
      omega
    · by_cases c2 : v.1 = a
      · rw [if_neg (by rw [decide_eq_true_eq]; omega), if_pos (decide_eq_true c2), if_pos (decide_eq_true (by omega : v.1 < b)), List.length_cons, List.length_cons]
        omega
      · rw [if_neg (by rw [decide_eq_true_eq]; omega), if_neg (by rw [decide_eq_true_eq]; omega)]
        by_cases c3 : v.1 < b
        · rw [if_pos (decide_eq_true c3), List.length_cons]
          omega
        · rw [if_neg (by rw [decide_eq_true_eq]; omega)]
          exact ih
theorem KW_uni {L : List Wy} {k : Nat} {w w' : Wy} (h : KW L k w) (h' : KW L k w') : w = w' := by
  have l1 := (List.getElem?_eq_some_iff.mp h.2).1
  have l2 := (List.getElem?_eq_some_iff.mp h'.2).1
  have k1 := h.1
  have k2 := h'.1
  by_cases c : w.1 = w'.1
  · have := h.2
    rw [c, h'.2] at this
    exact (Option.some.inj this).symm
  · by_cases c2 : w.1 < w'.1
    · have := cLt_lt (L := L) c2
      omega
    · have := cLt_lt (L := L) (show w'.1 < w.1 by omega)
      omega
def kw (L : List Wy) (k : Nat) : Option Wy := L.find? (fun w => decide (KW L k w))
theorem kw_KW {L : List Wy} {k : Nat} {w : Wy} (h : kw L k = some w) : KW L k w := of_decide_eq_true (p := KW L k w) (List.find?_some (p := fun w : Wy => decide (KW L k w)) h)
theorem kw_some {L : List Wy} {k : Nat} {w : Wy} (h : KW L k w) : kw L k = some w := by
  cases e : kw L k with
  | none =>
    have := List.find?_eq_none.mp e w (KW_mem h)
    exact absurd (decide_eq_true h) this
  | some w' =>
    rw [KW_uni (kw_KW e) h]
theorem KW_lt {L : List Wy} {k : Nat} {w : Wy} (h : KW L k w) : k < L.length := by
  have h1 := (List.getElem?_eq_some_iff.mp h.2).1
  have h2 := cLt_lt (L := L) (show w.1 < w.1 + 1 by omega)
  have h3 : cLt (w.1 + 1) L ≤ L.length := List.length_filter_le ..
  have := h.1
  omega
theorem kw_none {L : List Wy} {k : Nat} (h : L.length ≤ k) : kw L k = none := by
  cases e : kw L k with
  | none => rfl
  | some w =>
    have := KW_lt (kw_KW e)
    omega
/-- the k-th way of m -/
def wayK (m : Int → Int) (k : Int) : Option Wy := kw (wy m (0, 0, -1)) k.toNat
/-- that it is there, and what is then known of it -/
def IsK (m : Int → Int) (s : SG) (w : Wy) : Prop := sc s 102 26 = w.2.length ∧ sc s 102 27 = w.1 ∧ (∀ (i : Nat) (q : Op), w.2[i]? = some q → ia s 114 i = q.1 ∧ ia s 115 i = q.2) ∧ sc s 102 32 = (txt m w.2).length ∧ hl (ia s 116) 0 (txt m w.2)
theorem wayK_mem (hW : WF m) {k : Int} {w : Wy} (h : wayK m k = some w) : w ∈ wy m (0, 0, -1) ∧ w.2.length ≤ 6 ∧ (∀ q ∈ w.2, q ∈ sr m 0) ∧ (0 ≤ w.1 ∧ w.1 ≤ 3195) := by
  have hw := KW_mem (kw_KW h)
  have h1 := wy_mem hW 6 _ (nd0 hW) (by decide) w hw
  have h2 := (wy_rest hW 6 _ (nd0 hW) (by decide)).1 w hw
  have h3 := restM_b hW (set := 0) (place := 0) (last := -1) (by omega) (nd0 hW).2.2
  have hmu : mu (0, 0, -1) = 6 := by decide
  rw [hmu] at h1 h2
  have h4 : restM m 0 0 (-1) ≤ w.1 := h2.1
  exact ⟨hw, h1.1, h1.2, by omega, by omega⟩
theorem w_isWay {k : Int} (em : ia σ 103 = m) (hW : WF m) (hS : SR σ) (hI : LI σ) (hk : 0 ≤ k) (hk2 : k < 100) (hd : 20 ≤ d) :
    Eb g ad d mX11_isWay 0 0 [.ref (ad 102), vi k] σ (Ki fun r s => ((∃ w, wayK m k = some w ∧ r = 1 ∧ IsK m s w) ∨ (wayK m k = none ∧ r = 0)) ∧ LI s ∧ Fm [112, 114, 115, 116] [20, 22, 23, 26, 27, 28, 29, 30, 32] σ s) := by
  refine Eb.mono (e_isWay em hW hS hI hk hk2 hd) ?_
  rintro o s ⟨r, e, h1, h2, h3, h4, h5⟩
  refine ⟨r, e, h1, h2, ?_, ?_, h5⟩
  · rcases h3 with ⟨w, q1, q2, q3, q4, q5, q6, q7⟩ | ⟨q1, q2⟩
    · exact Or.inl ⟨w, kw_some q1, q2, q3, q4, q5, q6, q7⟩
    · exact Or.inr ⟨kw_none q2, q1⟩
  · refine LI_of ?_
    rw [h5.a 103 rfl, em]
    exact h4.1
theorem wy_all (hW : WF m) (P : Op → Prop) (hP : ∀ x p, nd m x → p ∈ sr m 0 → myB m x p = true → P p) : ∀ (n : Nat) (x : Nd), nd m x → mu x < n → ∀ w ∈ wy m x, ∀ q ∈ w.2, P q := by
  intro n
  induction n with
  | zero => intro x _ h; omega
  | succ n ih =>
    intro x hx hn w hw
    rw [wy_eq hW hx] at hw
    unfold wyG at hw
    by_cases c : x.1 = fullM m
    · rw [if_pos c] at hw
      rw [List.mem_singleton.mp hw]
      exact fun q hq => by cases hq
    · rw [if_neg c] at hw
      obtain ⟨p, hp, hw⟩ := List.mem_flatMap.mp hw
      by_cases c2 : myB m x p = true
      · rw [if_pos c2] at hw
        obtain ⟨w', hw', rfl⟩ := List.mem_map.mp hw
        have hs := stp_nd hW hx hp c2
        intro q hq
        rcases List.mem_cons.mp hq with rfl | hq
        · exact hP x _ hx hp c2
        · exact ih _ hs.1 (by omega) w' hw' q hq
      · rw [if_neg c2] at hw
        cases hw
theorem wayK_opt (hW : WF m) {k : Int} {w : Wy} (h : wayK m k = some w) : ∀ q ∈ w.2, isOpt m q.2 q.1 = true :=
  wy_all hW (fun q => isOpt m q.2 q.1 = true) (fun x p _ _ hm => (mayB_s hm).2.1) 7 _ (nd0 hW) (by decide) w (KW_mem (kw_KW h))
/-! what a step costs -/
def stC (m : Int → Int) : Int → Int → List Op → Nat → Int
  | _, _, [], _ => 0
  | place, last, q :: _, 0 => (weigh m place last q.1 q.2).1
  | place, last, q :: p, n + 1 => stC m (q.1 + cov m q.2) (weigh m place last q.1 q.2).2 p n
theorem e_costOf {p : List Op} {n : Int} (em : ia σ 103 = m) (hW : WF m) (hS : SR σ) (hd : 3 ≤ d) (hp6 : p.length ≤ 6) (hp : ∀ q ∈ p, q ∈ sr m 0) (ho : ∀ q ∈ p, isOpt m q.2 q.1 = true) (har : ∀ (i : Nat) (q : Op), p[i]? = some q → ia σ 114 i = q.1 ∧ ia σ 115 i = q.2) (hn : 0 ≤ n ∧ n < p.length) :
    Eb g ad d mX11_costOf 0 0 [.ref (ad 102), vi n] σ (Ki fun r s => r = stC m 0 (-1) p n.toNat ∧ Fm [] [22, 23] σ s) := by
  have hW0 := hW.1
  have h0 := hW.1.1
  have h3 := hW.1.2.2.2.1
  have in_ : iR n := iR_of (by omega) (by omega)
  refine EbS rfl pl_X11 rfl rfl (bX11_costOf_0 in_ hS ?_)
  intros
  refine up_loop (P := fun k => ∀ τ place last, SR τ → Fm [] [22, 23] σ τ → (0 ≤ place ∧ place ≤ 6) → (-1 ≤ last ∧ last < m 0) → (k ≤ n → stC m place last (p.drop k.toNat) (n - k).toNat = stC m 0 (-1) p n.toNat) → (k = n + 1 → sc τ 102 22 = stC m 0 (-1) p n.toNat) → aX11_costOf_7 g ad d (Ki fun r s => r = stC m 0 (-1) p n.toNat ∧ Fm [] [22, 23] σ s) 0 0 τ n place last k) (hi := n + 1) 0 (by omega) ?_ ?_ σ 0 (-1) hS (Fm.refl σ) (by omega) (by omega) (fun _ => by rw [Int.sub_zero]; rfl) (fun h => by omega)
  · intro τ place last hSt hF hpl hla h1 h2
    exact bX11_costOf_7 in_ (iR_of (by omega) (by omega)) (iR_of (by omega) (by omega)) (iR_of (by omega) (by omega)) hSt ⟨fun _ => re_i ⟨h2 rfl, hF⟩, fun q => absurd (by omega) q⟩
  · intro k hk0 hk1 ih τ place last hSt hF hpl hla h1 h2
    have et : ia τ 103 = m := (hF.a 103 rfl).trans em
    have hlt : k.toNat < p.length := by omega
    obtain ⟨q, hq⟩ : ∃ q, p[k.toNat]? = some q := ⟨_, List.getElem?_eq_getElem hlt⟩
    have hqm : q ∈ p := List.mem_of_getElem? hq
    have hqs := mem_sr.mp (hp q hqm)
    have hqO := hqs.2
    have hqs1 := hqs.1
    have hob := isO_b hW0 hqO
    have hcv := cov_b hW.2.1 hqO
    have hop := isOpt_b (ho q hqm)
    have hqa := har _ q hq
    rw [show ((k.toNat : Nat) : Int) = k by omega] at hqa
    have e5 : ia τ 115 k = q.2 := by rw [hF.a 115 rfl]; exact hqa.2
    have e4 : ia τ 114 k = q.1 := by rw [hF.a 114 rfl]; exact hqa.1
    have hwb := weigh_b hW hqO hpl hqs1 hla
    have hdr : p.drop k.toNat = q :: p.drop (k.toNat + 1) := by
      rw [List.drop_eq_getElem_cons hlt]
      congr 1
      rw [List.getElem?_eq_getElem hlt] at hq
      exact Option.some.inj hq
    refine bX11_costOf_7 in_ (iR_of (by omega) (by omega)) (iR_of (by omega) (by omega)) (iR_of (by omega) (by omega)) hSt ⟨fun q => absurd q (by omega), fun _ => ⟨⟨hk0, by omega⟩, ?_⟩⟩
    rw [e5, e4]
    refine EV.k (by apply w_weighs <;> (first | with_reducible assumption | with_reducible exact iR_of (by omega) (by omega) | omega | with_reducible (exact bi_01) | assumption)) (by omega) (fun _ => ?_)
    simp (config := {decide := true}) only [sc_S, ia_S, la_S, rv_S, sc_I, rv_I, la_I, ia_I, sc_L, rv_L, ia_L, la_L, sc_A, rv_A, la_A, ia_A, sc_B, rv_B, ia_B, la_B, sc_R, ia_R, la_R, rv_R, ia_w, la_w, rv_w, sc_w, if_true, if_false]
    rw [e5, e4]
    refine EI.k (by apply w_covers <;> (first | with_reducible assumption | with_reducible exact iR_of (by omega) (by omega) | omega | with_reducible (exact bi_01) | assumption)) (by omega) (fun _ _ => ?_)
    refine ⟨iR_of (by omega) (by omega), iR_of (by omega) (by omega), fun _ _ _ _ hS' => ?_⟩
    simp (config := {decide := true}) only [sc_S, ia_S, la_S, rv_S, sc_I, rv_I, la_I, ia_I, sc_L, rv_L, ia_L, la_L, sc_A, rv_A, la_A, ia_A, sc_B, rv_B, ia_B, la_B, sc_R, ia_R, la_R, rv_R, ia_w, la_w, rv_w, sc_w, if_true, if_false]
    refine ih _ _ _ hS' (Fm.wst hF (by decide) (by decide)) (by omega) hwb.2 (fun hk => ?_) (fun hk => ?_)
    · have := h1 (by omega)
      rw [hdr, show (n - k).toNat = (n - (k + 1)).toNat + 1 by omega, stC] at this
      rw [show (k + 1).toNat = k.toNat + 1 by omega]
      exact this
    · have := h1 (by omega)
      rw [hdr, show (n - k).toNat = 0 by omega, stC] at this
      simp (config := {decide := true}) only [sc_S, ia_S, la_S, rv_S, sc_I, rv_I, la_I, ia_I, sc_L, rv_L, ia_L, la_L, sc_A, rv_A, la_A, ia_A, sc_B, rv_B, ia_B, la_B, sc_R, ia_R, la_R, rv_R, ia_w, la_w, rv_w, sc_w, if_true, if_false]
      exact this
/-- thrown and answered -/
def wayT (k what : Int) : Int := if 0 ≤ what ∧ what ≤ 2 then if 0 ≤ k ∧ k ≤ 29 then 0 else 2 else 1
def wayV (m : Int → Int) (k what : Int) : Int := if wayT k what = 0 then (match wayK m k with
  | none => -1
  | some w => if what = 0 then w.1 else if what = 1 then w.2.length else (txt m w.2).length) else 0
theorem e_isWayNumber {x0 : Int} (h0 : iR x0) (hS : SR σ) (hd : 1 ≤ d) : EI g ad d mX11_isWayNumber [vi x0] σ (bi (0 ≤ x0 ∧ x0 ≤ 29)) σ := by
  refine EbS rfl pl_X11 rfl rfl (bX11_isWayNumber_0 h0 hS ?_)
  refine EI.k (by apply e_isIn <;> (first | with_reducible assumption | with_reducible exact iR_of (by omega) (by omega) | omega | with_reducible (exact bi_01) | assumption)) (by omega) (fun _ _ => ?_)
  exact ⟨bi_01, re_i ⟨rfl, rfl⟩⟩
theorem e_way {x1 x2 : Int} (em : ia σ 103 = m) (hW : WF m) (hS : SR σ) (hI : LI σ) (h1 : iR x1) (h2 : iR x2) (hd : 21 ≤ d) : EQ g ad d mX11_way [.ref (ad 102), vi x1, vi x2] σ (wayV m x1 x2) (wayT x1 x2) := by
  have i0 : iR 0 := iR_lit rfl
  refine EbS rfl pl_X11 rfl rfl (bX11_way_0 h1 h2 hS ?_)
  refine EI.k (by apply e_isIn <;> (first | with_reducible assumption | with_reducible exact iR_of (by omega) (by omega) | omega | with_reducible (exact bi_01) | assumption)) (by omega) (fun _ _ => ?_)
  refine bi_nz (fun c1 => ?_) (fun c1 => ?_)
  · refine EI.k (by apply e_isWayNumber <;> (first | with_reducible assumption | with_reducible exact iR_of (by omega) (by omega) | omega | with_reducible (exact bi_01) | assumption)) (by omega) (fun _ _ => ?_)
    refine bi_nz (fun c2 => ?_) (fun c2 => ?_)
    · have hT : wayT x1 x2 = 0 := by unfold wayT; rw [if_pos c1, if_pos c2]
      simp (config := {decide := true}) only [sc_S, ia_S, la_S, rv_S, sc_I, rv_I, la_I, ia_I, sc_L, rv_L, ia_L, la_L, sc_A, rv_A, la_A, ia_A, sc_B, rv_B, ia_B, la_B, sc_R, ia_R, la_R, rv_R, ia_w, la_w, rv_w, sc_w, if_true, if_false]
      refine ⟨fun _ => ?_, fun q => q.elim⟩
      refine Cl.i (w_isWay (m := m) (d := d - 1) (by simp (config := {decide := true}) only [sc_S, ia_S, la_S, rv_S, sc_I, rv_I, la_I, ia_I, sc_L, rv_L, ia_L, la_L, sc_A, rv_A, la_A, ia_A, sc_B, rv_B, ia_B, la_B, sc_R, ia_R, la_R, rv_R, ia_w, la_w, rv_w, sc_w, if_true, if_false]; exact em) hW (SR_setS hS i0) (LI_S (by decide) hI) c2.1 (by omega) (by omega)) (by omega) (fun r s hr hS' h => ?_)
      obtain ⟨hh, hL, hF⟩ := h
      have ht : sc s 102 0 = 0 := by rw [hF.s 0 rfl]; simp (config := {decide := true}) only [sc_S, ia_S, la_S, rv_S, sc_I, rv_I, la_I, ia_I, sc_L, rv_L, ia_L, la_L, sc_A, rv_A, la_A, ia_A, sc_B, rv_B, ia_B, la_B, sc_R, ia_R, la_R, rv_R, ia_w, la_w, rv_w, sc_w, if_true, if_false]
      have hq : Fq σ s := ((Fq.refl σ).S rfl).trans (hF.q rfl rfl)
      rw [hT]
      unfold wayV
      rw [if_pos hT]
      rcases hh with ⟨w, e1, rfl, e3⟩ | ⟨e1, rfl⟩
      · rw [e1]
        refine ⟨fun _ => ⟨fun c3 => ⟨fun c4 => re_i ⟨?_, ht, hq, hL⟩, fun c4 => re_i ⟨?_, ht, hq, hL⟩⟩, fun c3 => re_i ⟨?_, ht, hq, hL⟩⟩, fun q => absurd q (by decide)⟩
        · simp only [if_neg c3, if_neg c4]; exact e3.2.2.2.1
        · simp only [if_neg c3, if_pos c4]; exact e3.1
        · simp only [if_pos c3]; exact e3.2.1
      · rw [e1]
        exact ⟨fun q => absurd rfl q, fun _ => re_i ⟨rfl, ht, hq, hL⟩⟩
    · have hT : wayT x1 x2 = 2 := by unfold wayT; rw [if_pos c1, if_neg c2]
      simp (config := {decide := true}) only [sc_S, ia_S, la_S, rv_S, sc_I, rv_I, la_I, ia_I, sc_L, rv_L, ia_L, la_L, sc_A, rv_A, la_A, ia_A, sc_B, rv_B, ia_B, la_B, sc_R, ia_R, la_R, rv_R, ia_w, la_w, rv_w, sc_w, if_true, if_false]
      refine ⟨fun q => absurd q (by decide), fun _ => re_i ⟨?_, ?_, (Fq.refl σ).S rfl, LI_S (by decide) hI⟩⟩
      · unfold wayV; rw [hT]; rfl
      · rw [hT]; simp (config := {decide := true}) only [sc_S, ia_S, la_S, rv_S, sc_I, rv_I, la_I, ia_I, sc_L, rv_L, ia_L, la_L, sc_A, rv_A, la_A, ia_A, sc_B, rv_B, ia_B, la_B, sc_R, ia_R, la_R, rv_R, ia_w, la_w, rv_w, sc_w, if_true, if_false]
  · have hT : wayT x1 x2 = 1 := by unfold wayT; rw [if_neg c1]
    simp (config := {decide := true}) only [sc_S, ia_S, la_S, rv_S, sc_I, rv_I, la_I, ia_I, sc_L, rv_L, ia_L, la_L, sc_A, rv_A, la_A, ia_A, sc_B, rv_B, ia_B, la_B, sc_R, ia_R, la_R, rv_R, ia_w, la_w, rv_w, sc_w, if_true, if_false]
    refine ⟨fun q => absurd q (by decide), fun _ => re_i ⟨?_, ?_, (Fq.refl σ).S rfl, LI_S (by decide) hI⟩⟩
    · unfold wayV; rw [hT]; rfl
    · rw [hT]; simp (config := {decide := true}) only [sc_S, ia_S, la_S, rv_S, sc_I, rv_I, la_I, ia_I, sc_L, rv_L, ia_L, la_L, sc_A, rv_A, la_A, ia_A, sc_B, rv_B, ia_B, la_B, sc_R, ia_R, la_R, rv_R, ia_w, la_w, rv_w, sc_w, if_true, if_false]
end QY
