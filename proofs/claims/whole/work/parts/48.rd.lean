/-- what begins leaves -/
def BG (σ s : SG) : Prop := (∀ j, 0 ≤ j → j < 855 → ia s 104 j = ia σ 103 j) ∧ (sc s 102 9 = -1) ∧ (sc s 102 7 = sc σ 102 6) ∧ (sc s 102 6 = 0) ∧ (sc s 102 8 = 0) ∧ (sc s 102 12 = 0) ∧ (sc s 102 14 = 0) ∧ (sc s 102 18 = 0) ∧ (sc s 102 20 = 0) ∧ (Fm [104] [6, 7, 8, 9, 12, 14, 18, 20] σ s)
theorem BG.sd {σ s : SG} (h_ : BG σ s) : ∀ j, 0 ≤ j → j < 855 → ia s 104 j = ia σ 103 j := h_.1
theorem BG.f9 {σ s : SG} (h_ : BG σ s) : sc s 102 9 = -1 := h_.2.1
theorem BG.f7 {σ s : SG} (h_ : BG σ s) : sc s 102 7 = sc σ 102 6 := h_.2.2.1
theorem BG.f6 {σ s : SG} (h_ : BG σ s) : sc s 102 6 = 0 := h_.2.2.2.1
theorem BG.f8 {σ s : SG} (h_ : BG σ s) : sc s 102 8 = 0 := h_.2.2.2.2.1
theorem BG.f12 {σ s : SG} (h_ : BG σ s) : sc s 102 12 = 0 := h_.2.2.2.2.2.1
theorem BG.f14 {σ s : SG} (h_ : BG σ s) : sc s 102 14 = 0 := h_.2.2.2.2.2.2.1
theorem BG.f18 {σ s : SG} (h_ : BG σ s) : sc s 102 18 = 0 := h_.2.2.2.2.2.2.2.1
theorem BG.f20 {σ s : SG} (h_ : BG σ s) : sc s 102 20 = 0 := h_.2.2.2.2.2.2.2.2.1
theorem BG.fm {σ s : SG} (h_ : BG σ s) : Fm [104] [6, 7, 8, 9, 12, 14, 18, 20] σ s := h_.2.2.2.2.2.2.2.2.2
/-- what lies aside, and what reading doesn't touch -/
def AF (s : SG) (m0 k : Int → Int) (h : Int) (tp : Int → Int) : Prop := (∀ j, 0 ≤ j → j < 855 → ia s 104 j = m0 j) ∧ (ia s 105 = k) ∧ (sc s 102 4 = h) ∧ (ia s 106 = tp) ∧ (sc s 102 6 = 0) ∧ (sc s 102 20 = 0)
theorem AF.sd {s : SG} {m0 k : Int → Int} {h : Int} {tp : Int → Int} (h_ : AF s m0 k h tp) : ∀ j, 0 ≤ j → j < 855 → ia s 104 j = m0 j := h_.1
theorem AF.k {s : SG} {m0 k : Int → Int} {h : Int} {tp : Int → Int} (h_ : AF s m0 k h tp) : ia s 105 = k := h_.2.1
theorem AF.h {s : SG} {m0 k : Int → Int} {h : Int} {tp : Int → Int} (h_ : AF s m0 k h tp) : sc s 102 4 = h := h_.2.2.1
theorem AF.tp {s : SG} {m0 k : Int → Int} {h : Int} {tp : Int → Int} (h_ : AF s m0 k h tp) : ia s 106 = tp := h_.2.2.2.1
theorem AF.tn {s : SG} {m0 k : Int → Int} {h : Int} {tp : Int → Int} (h_ : AF s m0 k h tp) : sc s 102 6 = 0 := h_.2.2.2.2.1
theorem AF.li {s : SG} {m0 k : Int → Int} {h : Int} {tp : Int → Int} (h_ : AF s m0 k h tp) : sc s 102 20 = 0 := h_.2.2.2.2.2
section RDs
variable {g : AG} {ad : Nat → Nat} {d : Nat} {σ : SG} {m k tp t : Int → Int} {h tn f e : Int}
theorem e_begins (hS : SR σ) : Eb g ad d mX11_begins 0 0 [.ref (ad 102)] σ (Kv fun s => BG σ s) := by
  refine EbS rfl pl_X11 rfl rfl (bX11_begins_0 hS ?_)
  intro _ hS0
  refine up_loop (P := fun j => ∀ τ, SR τ → Fm [104] [6, 7, 8, 9, 12, 14, 18, 20] σ τ → sc τ 102 6 = sc σ 102 6 → (∀ i, 0 ≤ i → i < j → ia τ 104 i = ia σ 103 i) → aX11_begins_2 g ad d (Kv fun s => BG σ s) 0 0 τ j) (hi := 855) 0 (by omega) ?_ ?_ σ hS0 (Fm.refl σ) rfl (fun i h0 h1 => by omega)
  · intro τ hSt hF e6 hall
    refine bX11_begins_2 (iR_lit rfl) hSt ⟨fun _ => re_v ⟨hall, by simp (config := {decide := true}) only [sc_S, ia_S, la_S, rv_S, sc_I, rv_I, la_I, ia_I, sc_L, rv_L, ia_L, la_L, sc_A, rv_A, la_A, ia_A, sc_B, rv_B, ia_B, la_B, sc_R, ia_R, la_R, rv_R, ia_w, la_w, rv_w, sc_w, if_true, if_false], by simp (config := {decide := true}) only [sc_S, ia_S, la_S, rv_S, sc_I, rv_I, la_I, ia_I, sc_L, rv_L, ia_L, la_L, sc_A, rv_A, la_A, ia_A, sc_B, rv_B, ia_B, la_B, sc_R, ia_R, la_R, rv_R, ia_w, la_w, rv_w, sc_w, if_true, if_false]; exact e6, by simp (config := {decide := true}) only [sc_S, ia_S, la_S, rv_S, sc_I, rv_I, la_I, ia_I, sc_L, rv_L, ia_L, la_L, sc_A, rv_A, la_A, ia_A, sc_B, rv_B, ia_B, la_B, sc_R, ia_R, la_R, rv_R, ia_w, la_w, rv_w, sc_w, if_true, if_false], by simp (config := {decide := true}) only [sc_S, ia_S, la_S, rv_S, sc_I, rv_I, la_I, ia_I, sc_L, rv_L, ia_L, la_L, sc_A, rv_A, la_A, ia_A, sc_B, rv_B, ia_B, la_B, sc_R, ia_R, la_R, rv_R, ia_w, la_w, rv_w, sc_w, if_true, if_false], by simp (config := {decide := true}) only [sc_S, ia_S, la_S, rv_S, sc_I, rv_I, la_I, ia_I, sc_L, rv_L, ia_L, la_L, sc_A, rv_A, la_A, ia_A, sc_B, rv_B, ia_B, la_B, sc_R, ia_R, la_R, rv_R, ia_w, la_w, rv_w, sc_w, if_true, if_false], by simp (config := {decide := true}) only [sc_S, ia_S, la_S, rv_S, sc_I, rv_I, la_I, ia_I, sc_L, rv_L, ia_L, la_L, sc_A, rv_A, la_A, ia_A, sc_B, rv_B, ia_B, la_B, sc_R, ia_R, la_R, rv_R, ia_w, la_w, rv_w, sc_w, if_true, if_false], by simp (config := {decide := true}) only [sc_S, ia_S, la_S, rv_S, sc_I, rv_I, la_I, ia_I, sc_L, rv_L, ia_L, la_L, sc_A, rv_A, la_A, ia_A, sc_B, rv_B, ia_B, la_B, sc_R, ia_R, la_R, rv_R, ia_w, la_w, rv_w, sc_w, if_true, if_false], by simp (config := {decide := true}) only [sc_S, ia_S, la_S, rv_S, sc_I, rv_I, la_I, ia_I, sc_L, rv_L, ia_L, la_L, sc_A, rv_A, la_A, ia_A, sc_B, rv_B, ia_B, la_B, sc_R, ia_R, la_R, rv_R, ia_w, la_w, rv_w, sc_w, if_true, if_false], ?_⟩, fun q => absurd (by decide) q⟩
    exact (((((((hF.setS (by decide)).setS (by decide)).setS (by decide)).setS (by decide)).setS (by decide)).setS (by decide)).setS (by decide)).setS (by decide)
  · intro j hj0 hj1 ih τ hSt hF e6 hall
    refine bX11_begins_2 (iR_of (by omega) (by omega)) hSt ⟨fun q => absurd q (by omega), fun _ => ⟨⟨hj0, hj1⟩, iR_of (by omega) (by omega), fun _ hS' => ?_⟩⟩
    refine ih _ hS' (hF.setI (by decide)) e6 (fun i hi0 hi1 => ?_)
    rw [ia_setI]
    by_cases e : i = j
    · rw [e, up_at, hF.a 103 rfl]
    · rw [up_ne e]; exact hall i hi0 (by omega)
theorem AF.fm {A K : List Nat} {s s' : SG} (q : AF s m k h tp) (hF : Fm A K s s') (hA : A.all (fun c => decide (c ≠ 104 ∧ c ≠ 105 ∧ c ≠ 106)) = true) (hK : K.all (fun k => decide (k ≠ 4 ∧ k ≠ 6 ∧ k ≠ 20)) = true) : AF s' m k h tp := by
  have ha : ∀ c, c = 104 ∨ c = 105 ∨ c = 106 → ia s' c = ia s c := fun c hc => hF.2.2.1 c (fun q => by have := of_decide_eq_true (List.all_eq_true.mp hA c q); omega)
  have hk : ∀ c, c = 4 ∨ c = 6 ∨ c = 20 → sc s' 102 c = sc s 102 c := fun c hc => hF.2.2.2 102 c (fun q => by have := of_decide_eq_true (List.all_eq_true.mp hK c q.2); omega)
  exact ⟨fun j h0 h1 => by rw [ha 104 (by omega)]; exact q.sd j h0 h1, by rw [ha 105 (by omega)]; exact q.k, by rw [hk 4 (by omega)]; exact q.h, by rw [ha 106 (by omega)]; exact q.tp, by rw [hk 6 (by omega)]; exact q.tn, by rw [hk 20 (by omega)]; exact q.li⟩
theorem BG.af {s : SG} (b : BG σ s) (p : PS σ m k h tp tn f) : AF s m k h tp :=
  ⟨fun j h0 h1 => by rw [b.sd j h0 h1, p.m], by rw [b.fm.a 105 rfl]; exact p.k, by rw [b.fm.s 4 rfl]; exact p.h, by rw [b.fm.a 106 rfl]; exact p.tp, b.f6, b.f20⟩
theorem BG.sp {s : SG} (b : BG σ s) (p : PS σ m k h tp tn f) (hG : GM m) (htb : ∀ j, 0 ≤ tp j ∧ tp j ≤ 255) (htn : 0 ≤ tn ∧ tn ≤ 400) : SP tp tn s (skp tp tn 0) m := by
  have e3 : ia s 103 = m := by rw [b.fm.a 103 rfl]; exact p.m
  refine ⟨⟨by rw [b.fm.a 106 rfl]; exact p.tp, htb, by rw [b.f7]; exact p.tn, htn, by rw [b.f8]; exact Int.le_refl _, by rw [b.f8]; exact htn.1, by rw [e3]; exact hG.zr⟩, b.f9, ?_, e3, hG.wf.1.1, trivial⟩
  rw [b.f8]
theorem e_isRight_ok {m' : Int → Int} (q : AF σ m k h tp) (h9 : sc σ 102 9 = -1) (em : ia σ 103 = m') (hS : SR σ) : Eb g ad d mX11_isRight 0 0 [.ref (ad 102)] σ (Ki fun r s => r = 1 ∧ sc s 102 0 = 0 ∧ PS s m' k h tp 0 (-1) ∧ s = setS σ 102 0 0) := by
  refine EbS rfl pl_X11 rfl rfl (bX11_isRight_0 hS ⟨fun c => absurd h9 c, fun _ => ?_⟩)
  simp (config := {decide := true}) only [sc_S, ia_S, la_S, rv_S, sc_I, rv_I, la_I, ia_I, sc_L, rv_L, ia_L, la_L, sc_A, rv_A, la_A, ia_A, sc_B, rv_B, ia_B, la_B, sc_R, ia_R, la_R, rv_R, ia_w, la_w, rv_w, sc_w, if_true, if_false]
  refine ⟨fun c => absurd h9 c, fun _ => re_i ⟨rfl, by simp (config := {decide := true}) only [sc_S, ia_S, la_S, rv_S, sc_I, rv_I, la_I, ia_I, sc_L, rv_L, ia_L, la_L, sc_A, rv_A, la_A, ia_A, sc_B, rv_B, ia_B, la_B, sc_R, ia_R, la_R, rv_R, ia_w, la_w, rv_w, sc_w, if_true, if_false], ⟨em, q.k, ?_, q.tp, ?_, ?_, LI_0 ?_⟩, rfl⟩⟩
  · simp (config := {decide := true}) only [sc_S, ia_S, la_S, rv_S, sc_I, rv_I, la_I, ia_I, sc_L, rv_L, ia_L, la_L, sc_A, rv_A, la_A, ia_A, sc_B, rv_B, ia_B, la_B, sc_R, ia_R, la_R, rv_R, ia_w, la_w, rv_w, sc_w, if_true, if_false]; exact q.h
  · simp (config := {decide := true}) only [sc_S, ia_S, la_S, rv_S, sc_I, rv_I, la_I, ia_I, sc_L, rv_L, ia_L, la_L, sc_A, rv_A, la_A, ia_A, sc_B, rv_B, ia_B, la_B, sc_R, ia_R, la_R, rv_R, ia_w, la_w, rv_w, sc_w, if_true, if_false]; exact q.tn
  · simp (config := {decide := true}) only [sc_S, ia_S, la_S, rv_S, sc_I, rv_I, la_I, ia_I, sc_L, rv_L, ia_L, la_L, sc_A, rv_A, la_A, ia_A, sc_B, rv_B, ia_B, la_B, sc_R, ia_R, la_R, rv_R, ia_w, la_w, rv_w, sc_w, if_true, if_false]; exact h9
  · simp (config := {decide := true}) only [sc_S, ia_S, la_S, rv_S, sc_I, rv_I, la_I, ia_I, sc_L, rv_L, ia_L, la_L, sc_A, rv_A, la_A, ia_A, sc_B, rv_B, ia_B, la_B, sc_R, ia_R, la_R, rv_R, ia_w, la_w, rv_w, sc_w, if_true, if_false]; exact q.li
theorem e_isRight_bad {f : Int} (q : AF σ m k h tp) (h9 : sc σ 102 9 = f) (hf : 0 ≤ f) (hz : ZR 855 (ia σ 103)) (hz0 : ZR 855 m) (hS : SR σ) : Eb g ad d mX11_isRight 0 0 [.ref (ad 102)] σ (Ki fun r s => r = 0 ∧ sc s 102 0 = 1 ∧ PS s m k h tp 0 f ∧ Fm [103] [0] σ s) := by
  refine EbS rfl pl_X11 rfl rfl (bX11_isRight_0 hS ⟨fun c => ?_, fun c => absurd c (by omega)⟩)
  simp (config := {decide := true}) only [sc_S, ia_S, la_S, rv_S, sc_I, rv_I, la_I, ia_I, sc_L, rv_L, ia_L, la_L, sc_A, rv_A, la_A, ia_A, sc_B, rv_B, ia_B, la_B, sc_R, ia_R, la_R, rv_R, ia_w, la_w, rv_w, sc_w, if_true, if_false]
  refine ⟨fun _ => ?_, fun c => absurd c (by omega)⟩
  intro _ hS0
  refine up_loop (P := fun j => ∀ τ, SR τ → Fm [103] [0] σ τ → sc τ 102 0 = 1 → ZR 855 (ia τ 103) → (∀ i, 0 ≤ i → i < j → ia τ 103 i = m i) → aX11_isRight_29 g ad d (Ki fun r s => r = 0 ∧ sc s 102 0 = 1 ∧ PS s m k h tp 0 f ∧ Fm [103] [0] σ s) 0 0 τ j) (hi := 855) 0 (by omega) ?_ ?_ _ hS0 ((Fm.refl σ).setS (by decide)) (by simp (config := {decide := true}) only [sc_S, ia_S, la_S, rv_S, sc_I, rv_I, la_I, ia_I, sc_L, rv_L, ia_L, la_L, sc_A, rv_A, la_A, ia_A, sc_B, rv_B, ia_B, la_B, sc_R, ia_R, la_R, rv_R, ia_w, la_w, rv_w, sc_w, if_true, if_false]) hz (fun i h0 h1 => by omega)
  · intro τ hSt hF e0 hzt hall
    have qt := q.fm hF rfl rfl
    exact bX11_isRight_29 (iR_lit rfl) hSt ⟨fun _ => re_i ⟨rfl, e0, ⟨ZR.eq hzt hz0 hall, qt.k, qt.h, qt.tp, qt.tn, by rw [hF.s 9 rfl]; exact h9, LI_0 qt.li⟩, hF⟩, fun q => absurd (by decide) q⟩
  · intro j hj0 hj1 ih τ hSt hF e0 hzt hall
    have qt := q.fm hF rfl rfl
    refine bX11_isRight_29 (iR_of (by omega) (by omega)) hSt ⟨fun q => absurd q (by omega), fun _ => ⟨⟨hj0, hj1⟩, iR_of (by omega) (by omega), fun _ hS' => ?_⟩⟩
    refine ih _ hS' (hF.setI (by decide)) (by simp (config := {decide := true}) only [sc_S, ia_S, la_S, rv_S, sc_I, rv_I, la_I, ia_I, sc_L, rv_L, ia_L, la_L, sc_A, rv_A, la_A, ia_A, sc_B, rv_B, ia_B, la_B, sc_R, ia_R, la_R, rv_R, ia_w, la_w, rv_w, sc_w, if_true, if_false]; exact e0) (by rw [ia_setI]; exact hzt.up ⟨hj0, hj1⟩) (fun i hi0 hi1 => ?_)
    rw [ia_setI]
    by_cases e : i = j
    · rw [e, up_at]; exact qt.sd j hj0 hj1
    · rw [up_ne e]; exact hall i hi0 (by omega)
theorem e_comes {x1 x2 : Int} (em : ia σ 103 = m) (h1 : 0 ≤ m 1 ∧ m 1 < 30) (hx1 : 0 ≤ x1 ∧ x1 + 8 ≤ 120) (hx2 : iR x2) (hS : SR σ) : Eb g ad d mX11_comes 0 0 [.ref (ad 102), vi x1, vi x2] σ (Kv fun s => ia s 103 = comesS m (ia σ 107) x1 x2 ∧ Fm [103] [] σ s) := by
  have i1 : iR x1 := iR_of (by omega) (by omega)
  refine EbS rfl pl_X11 rfl rfl (bX11_comes_0 i1 hx2 hS ?_)
  rw [em]
  refine ⟨iR_of (by omega) (by omega), fun _ _ _ _ _ => ?_⟩
  have i3 : iR (369 + 10 * m 1) := iR_of (by omega) (by omega)
  refine up_loop (P := fun j => ∀ τ, SR τ → Fm [103] [] σ τ → ia τ 103 = (ir 0 j).foldl (fun f k => up f (369 + 10 * m 1 + k) (ia σ 107 (x1 + k))) m → aX11_comes_17 g ad d (Kv fun s => ia s 103 = comesS m (ia σ 107) x1 x2 ∧ Fm [103] [] σ s) 0 0 τ x1 x2 (369 + 10 * m 1) j) (hi := 8) 0 (by omega) ?_ ?_ σ hS (Fm.refl σ) em
  · intro τ hSt hF e3
    have hlo : ∀ j, 0 ≤ j → j ≤ 8 → ((ir 0 j).foldl (fun f k => up f (369 + 10 * m 1 + k) (ia σ 107 (x1 + k))) m) 1 = m 1 := by
      intro j hj0 hj1
      refine up_loop (P := fun i => (((ir 0 i).foldl (fun f k => up f (369 + 10 * m 1 + k) (ia σ 107 (x1 + k))) m) 1 = m 1) → ((ir 0 j).foldl (fun f k => up f (369 + 10 * m 1 + k) (ia σ 107 (x1 + k))) m) 1 = m 1) (hi := j) 0 hj0 (fun z => z) (fun i hi0 hi1 ih z => ih ?_) ?_
      · rw [ir_snoc hi0, List.foldl_append]
        show up _ (369 + 10 * m 1 + i) _ 1 = m 1
        rw [up_ne (by omega)]
        exact z
      · rw [ir_nil (Int.le_refl _)]; rfl
    have e1 : ia τ 103 1 = m 1 := by rw [e3]; exact hlo 8 (by omega) (by omega)
    refine bX11_comes_17 i1 hx2 i3 (iR_lit rfl) hSt ⟨fun _ => ⟨⟨by omega, by omega⟩, ⟨by omega, by omega⟩, ?_⟩, fun q => absurd (by decide) q⟩
    have e2 : ia (setI (setI τ 103 (369 + 10 * m 1 + 8) x2) 103 (369 + 10 * m 1 + 9) 0) 103 1 = m 1 := by
      rw [ia_setI, up_ne (by omega), ia_setI, up_ne (by omega)]
      exact e1
    rw [e2]
    refine ⟨iR_of (by omega) (by omega), re_v ⟨?_, ((hF.setI (by decide)).setI (by decide)).setI (by decide)⟩⟩
    rw [ia_setI, ia_setI, ia_setI, e3]
    rfl
  · intro j hj0 hj1 ih τ hSt hF e3
    refine bX11_comes_17 i1 hx2 i3 (iR_of (by omega) (by omega)) hSt ⟨fun q => absurd q (by omega), fun _ => ⟨⟨by omega, by omega⟩, ⟨by omega, by omega⟩, iR_of (by omega) (by omega), fun _ _ _ _ hS' => ?_⟩⟩
    refine ih _ hS' (hF.setI (by decide)) ?_
    rw [ia_setI, e3, ir_snoc hj0, List.foldl_append, hF.a 107 rfl]
    rfl
/-! rows -/
theorem sea_cong {p q : Int → Bool} : ∀ (n : Nat) (k : Int), (∀ j, k ≤ j → j < k + n → p j = q j) → sea p n k = sea q n k
  | 0, k, _ => rfl
  | n + 1, k, h => by
    rw [sea, sea, h k (Int.le_refl _) (by omega), sea_cong n (k + 1) (fun j h1 h2 => h j (by omega) (by omega))]
def srcL (m : Int → Int) (p : Int) : List Int := (ir 0 (of_ m p 0)).map (fun k => of_ m p (1 + k))
def tgtL (m : Int → Int) (p : Int) : List Int := (ir 0 (of_ m p 4)).map (fun k => of_ m p (5 + k))
/-- the phrase, not gone, of a source and a target -/
def alkL (m : Int → Int) (a b : List Int) : Int := sea (fun p => decide (of_ m p 9 = 0) && (decide (srcL m p = a) && decide (tgtL m p = b))) (m 1).toNat 0
theorem ir_get {a b : Int} {i : Nat} (h : (i : Int) < b - a) : (ir a b)[i]? = some (a + i) := by
  unfold ir
  rw [List.getElem?_map, List.getElem?_range (by omega)]
  rfl
theorem mapir_eq {n : Int} {f : Int → Int} {a : List Int} (hn : 0 ≤ n) : (ir 0 n).map f = a ↔ n = a.length ∧ ∀ i : Nat, i < a.length → f i = a.getD i 0 := by
  constructor
  · intro h
    subst h
    refine ⟨by rw [List.length_map, ir_length]; omega, fun i hi => ?_⟩
    rw [List.length_map, ir_length] at hi
    rw [List.getD_eq_getElem?_getD, List.getElem?_map, ir_get (by omega)]
    show f i = f (0 + i)
    rw [Int.zero_add]
  · rintro ⟨h1, h2⟩
    apply List.ext_getElem?
    intro i
    by_cases hi : i < a.length
    · rw [List.getElem?_map, ir_get (by omega), List.getElem?_eq_getElem hi]
      show some (f (0 + i)) = _
      rw [Int.zero_add, h2 i hi, List.getD_eq_getElem?_getD, List.getElem?_eq_getElem hi]
      rfl
    · rw [List.getElem?_eq_none (by rw [List.length_map, ir_length]; omega), List.getElem?_eq_none (by omega)]
theorem alk_L {R : Int → Int} {r : Int} {a b : List Int} (hW : W1 m) (h1 : R r = a.length) (h2 : hl R (r + 1) a) (h3 : R (r + 4) = b.length) (h4 : hl R (r + 5) b) (h5 : a.length ≤ 3) (h6 : b.length ≤ 3) : alk m R r (-1) = alkL m a b := by
  unfold alk alkL
  refine sea_cong _ _ (fun p hp0 hp1 => ?_)
  have hm : p < m 1 := by omega
  have hp := hW p (by omega) hm
  rw [Bool.eq_iff_iff]
  unfold alkP srcL tgtL
  simp only [Bool.and_eq_true, decide_eq_true_eq]
  rw [mapir_eq (by omega), mapir_eq (by omega), h1, h3]
  have hk : (allN (alkK m R r p) 3 1 = true) ↔ (alkK m R r p 1 = true ∧ alkK m R r p 2 = true ∧ alkK m R r p 3 = true) := by
    show (alkK m R r p 1 && (alkK m R r p (1 + 1) && (alkK m R r p (1 + 1 + 1) && true))) = true ↔ _
    rw [Bool.and_true, Bool.and_eq_true, Bool.and_eq_true]
    exact Iff.rfl
  rw [hk]
  have hK : ∀ j : Int, 1 ≤ j → j ≤ 3 → (alkK m R r p j = true ↔ ((((a.length : Int) < j) ∨ of_ m p j = R (r + j)) ∧ (((b.length : Int) < j) ∨ of_ m p (4 + j) = R (r + 4 + j)))) := by
    intro j _ _
    unfold alkK
    rw [h1, h3, Bool.and_eq_true, Bool.or_eq_true, Bool.or_eq_true, decide_eq_true_eq, decide_eq_true_eq, decide_eq_true_eq, decide_eq_true_eq]
  have ha : ∀ i : Nat, i < a.length → R (r + 1 + i) = a.getD i 0 := fun i hi => hl_getD h2 hi
  have hb : ∀ i : Nat, i < b.length → R (r + 5 + i) = b.getD i 0 := fun i hi => hl_getD h4 hi
  constructor
  · rintro ⟨⟨⟨⟨-, h9⟩, e0⟩, e4⟩, k1, k2, k3⟩
    have hall : ∀ j : Int, 1 ≤ j → j ≤ 3 → ((((a.length : Int) < j) ∨ of_ m p j = R (r + j)) ∧ (((b.length : Int) < j) ∨ of_ m p (4 + j) = R (r + 4 + j))) := by
      intro j hj0 hj1
      refine (hK j hj0 hj1).mp ?_
      rcases (show j = 1 ∨ j = 2 ∨ j = 3 by omega) with rfl | rfl | rfl
      · exact k1
      · exact k2
      · exact k3
    refine ⟨h9, ⟨e0, fun i hi => ?_⟩, e4, fun i hi => ?_⟩
    · rcases (hall (1 + i) (by omega) (by omega)).1 with q | q
      · omega
      · rw [q, ← ha i hi]; congr 1; omega
    · rcases (hall (1 + i) (by omega) (by omega)).2 with q | q
      · omega
      · rw [← hb i hi, show r + 5 + (i : Int) = r + 4 + (1 + i) by omega, ← q]; congr 1; omega
  · rintro ⟨h9, ⟨e0, ea⟩, e4, eb⟩
    have hall : ∀ j : Int, 1 ≤ j → j ≤ 3 → alkK m R r p j = true := by
      intro j hj0 hj1
      refine (hK j hj0 hj1).mpr ⟨?_, ?_⟩
      · by_cases c : (a.length : Int) < j
        · exact Or.inl c
        · right
          have := ea (j - 1).toNat (by omega)
          have h' := ha (j - 1).toNat (by omega)
          rw [show (1 : Int) + ((j - 1).toNat : Int) = j by omega] at this
          rw [show r + 1 + ((j - 1).toNat : Int) = r + j by omega] at h'
          rw [this, h']
      · by_cases c : (b.length : Int) < j
        · exact Or.inl c
        · right
          have := eb (j - 1).toNat (by omega)
          have h' := hb (j - 1).toNat (by omega)
          rw [show (5 : Int) + ((j - 1).toNat : Int) = 4 + j by omega] at this
          rw [show r + 5 + ((j - 1).toNat : Int) = r + 4 + j by omega] at h'
          rw [this, h']
    exact ⟨⟨⟨⟨by omega, h9⟩, e0⟩, e4⟩, hall 1 (by omega) (by omega), hall 2 (by omega) (by omega), hall 3 (by omega) (by omega)⟩
theorem alkL_b (h0 : W0 m) (a b : List Int) : -1 ≤ alkL m a b ∧ alkL m a b < m 1 := by
  have h1 := h0.2.1
  unfold alkL
  rcases sea_spec (fun p => decide (of_ m p 9 = 0) && (decide (srcL m p = a) && decide (tgtL m p = b))) (m 1).toNat 0 with q | q <;> omega
end RDs
