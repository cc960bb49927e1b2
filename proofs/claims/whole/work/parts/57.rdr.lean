/-- the class reads: text t of length e, words of the Knowledge k (m), fault f -/
def CB (t : Int → Int) (e : Int) (k : Nat) (new : Bool) (s : SG) (f : Int) (m : Int → Int) : Prop := (ia s 38 = t) ∧ (∀ j, 0 ≤ t j ∧ t j ≤ 255) ∧ (sc s 37 1 = e) ∧ (0 ≤ e ∧ e ≤ 400) ∧ (0 ≤ sc s 37 15) ∧ (sc s 37 15 ≤ e) ∧ (rv s 37 16 = k) ∧ (sc s 37 17 = if new = true then 1 else 0) ∧ (sc s 37 2 = f) ∧ (f = -1 ∨ 0 ≤ f) ∧ (RK s k m) ∧ (GM m) ∧ (isK k)
theorem CB.tp {t : Int → Int} {e : Int} {k : Nat} {new : Bool} {s : SG} {f : Int} {m : Int → Int} (h_ : CB t e k new s f m) : ia s 38 = t := h_.1
theorem CB.tb {t : Int → Int} {e : Int} {k : Nat} {new : Bool} {s : SG} {f : Int} {m : Int → Int} (h_ : CB t e k new s f m) : ∀ j, 0 ≤ t j ∧ t j ≤ 255 := h_.2.1
theorem CB.en {t : Int → Int} {e : Int} {k : Nat} {new : Bool} {s : SG} {f : Int} {m : Int → Int} (h_ : CB t e k new s f m) : sc s 37 1 = e := h_.2.2.1
theorem CB.eb {t : Int → Int} {e : Int} {k : Nat} {new : Bool} {s : SG} {f : Int} {m : Int → Int} (h_ : CB t e k new s f m) : 0 ≤ e ∧ e ≤ 400 := h_.2.2.2.1
theorem CB.a0 {t : Int → Int} {e : Int} {k : Nat} {new : Bool} {s : SG} {f : Int} {m : Int → Int} (h_ : CB t e k new s f m) : 0 ≤ sc s 37 15 := h_.2.2.2.2.1
theorem CB.a1 {t : Int → Int} {e : Int} {k : Nat} {new : Bool} {s : SG} {f : Int} {m : Int → Int} (h_ : CB t e k new s f m) : sc s 37 15 ≤ e := h_.2.2.2.2.2.1
theorem CB.dk {t : Int → Int} {e : Int} {k : Nat} {new : Bool} {s : SG} {f : Int} {m : Int → Int} (h_ : CB t e k new s f m) : rv s 37 16 = k := h_.2.2.2.2.2.2.1
theorem CB.gr {t : Int → Int} {e : Int} {k : Nat} {new : Bool} {s : SG} {f : Int} {m : Int → Int} (h_ : CB t e k new s f m) : sc s 37 17 = if new = true then 1 else 0 := h_.2.2.2.2.2.2.2.1
theorem CB.fa {t : Int → Int} {e : Int} {k : Nat} {new : Bool} {s : SG} {f : Int} {m : Int → Int} (h_ : CB t e k new s f m) : sc s 37 2 = f := h_.2.2.2.2.2.2.2.2.1
theorem CB.fb {t : Int → Int} {e : Int} {k : Nat} {new : Bool} {s : SG} {f : Int} {m : Int → Int} (h_ : CB t e k new s f m) : f = -1 ∨ 0 ≤ f := h_.2.2.2.2.2.2.2.2.2.1
theorem CB.rk {t : Int → Int} {e : Int} {k : Nat} {new : Bool} {s : SG} {f : Int} {m : Int → Int} (h_ : CB t e k new s f m) : RK s k m := h_.2.2.2.2.2.2.2.2.2.2.1
theorem CB.gm {t : Int → Int} {e : Int} {k : Nat} {new : Bool} {s : SG} {f : Int} {m : Int → Int} (h_ : CB t e k new s f m) : GM m := h_.2.2.2.2.2.2.2.2.2.2.2.1
theorem CB.ik {t : Int → Int} {e : Int} {k : Nat} {new : Bool} {s : SG} {f : Int} {m : Int → Int} (h_ : CB t e k new s f m) : isK k := h_.2.2.2.2.2.2.2.2.2.2.2.2
section RDRs
variable {g : AG} {ad : Nat → Nat} {d : Nat} {σ : SG} {m t : Int → Int} {k : Nat} {e f : Int} {new : Bool} {D : Nat → Prop}
/-- but for these arrays, these numbers of the reader and the cells D all is as it was -/
def Fy (A K : List Nat) (D : Nat → Prop) (σ s : SG) : Prop := rv s = rv σ ∧ (∀ c, ¬ D c → la s c = la σ c) ∧ (∀ c, c ∉ A → ¬ D c → ia s c = ia σ c) ∧ (∀ c j, ¬ (c = 37 ∧ j ∈ K) → ¬ D c → sc s c j = sc σ c j)
theorem Fy.refl {A K : List Nat} (σ : SG) : Fy A K D σ σ := ⟨rfl, fun _ _ => rfl, fun _ _ _ => rfl, fun _ _ _ _ => rfl⟩
theorem Fy.trans {A K : List Nat} {σ s u : SG} (h1 : Fy A K D σ s) (h2 : Fy A K D s u) : Fy A K D σ u := ⟨h2.1.trans h1.1, fun c hd => (h2.2.1 c hd).trans (h1.2.1 c hd), fun c hc hd => (h2.2.2.1 c hc hd).trans (h1.2.2.1 c hc hd), fun c k hk hd => (h2.2.2.2 c k hk hd).trans (h1.2.2.2 c k hk hd)⟩
theorem Fy.mono {A K A' K' : List Nat} {σ s : SG} (h : Fy A K D σ s) (hA : ∀ c ∈ A, c ∈ A') (hK : ∀ k ∈ K, k ∈ K') : Fy A' K' D σ s := ⟨h.1, h.2.1, fun c hc hd => h.2.2.1 c (fun q => hc (hA c q)) hd, fun c k hk hd => h.2.2.2 c k (fun q => hk ⟨q.1, hK k q.2⟩) hd⟩
theorem Fy.setS {A K : List Nat} {σ s : SG} (h : Fy A K D σ s) {j : Nat} {v : Int} (hj : j ∈ K) : Fy A K D σ (setS s 37 j v) := by
  refine ⟨h.1, h.2.1, h.2.2.1, fun c i hi hd => ?_⟩
  refine Eq.trans ?_ (h.2.2.2 c i hi hd)
  rw [sc_S, if_neg]
  rintro ⟨rfl, rfl⟩
  exact hi ⟨rfl, hj⟩
theorem Fy.setI {A K : List Nat} {σ s : SG} (h : Fy A K D σ s) {c : Nat} {j v : Int} (hc : c ∈ A) : Fy A K D σ (setI s c j v) := by
  refine ⟨h.1, h.2.1, fun b hb hd => ?_, h.2.2.2⟩
  refine Eq.trans ?_ (h.2.2.1 b hb hd)
  rw [ia_I, if_neg]
  rintro rfl
  exact hb hc
/-- the cells that words may come to -/
def Dk (new : Bool) (k : Nat) : Nat → Prop := fun c => new = true ∧ Kcl k c
theorem Dk_no {c : Nat} (hk : isK k) (hc : 37 ≤ c) : ¬ Dk new k c := by
  have hk' : k = 1 ∨ k = 13 ∨ k = 25 := hk
  rintro ⟨-, h1, h2⟩
  omega
theorem Fy.a {A K : List Nat} {σ s : SG} (h : Fy A K (Dk new k) σ s) (hk : isK k) (c : Nat) (h37 : 37 ≤ c) (hc : c ∉ A) : ia s c = ia σ c := h.2.2.1 c hc (Dk_no hk h37)
theorem Fy.s {A K : List Nat} {σ s : SG} (h : Fy A K (Dk new k) σ s) (hk : isK k) (j : Nat) (hj : j ∉ K) : sc s 37 j = sc σ 37 j := h.2.2.2 37 j (fun q => hj q.2) (Dk_no hk (Nat.le_refl _))
theorem Fry {s : SG} (h : Fr (Kcl k) σ s) (hn : new = true) {A K : List Nat} : Fy A K (Dk new k) σ s := ⟨h.1, fun c hd => h.la c (fun q => hd ⟨hn, q⟩), fun c _ hd => h.ia c (fun q => hd ⟨hn, q⟩), fun c j _ hd => h.sc c j (fun q => hd ⟨hn, q⟩)⟩
theorem RK.rd {s : SG} (h : RK σ k m) (hk : isK k) (h1 : ∀ c, c < 37 → ia s c = ia σ c) (h2 : ∀ c j, c < 37 → sc s c j = sc σ c j) : RK s k m := by
  have hk' : k = 1 ∨ k = 13 ∨ k = 25 := hk
  have ha : ∀ i, i ≤ 11 → ia s (k + i) = ia σ (k + i) := fun i hi => h1 _ (by omega)
  have hs : ∀ j, sc s k j = sc σ k j := fun j => h2 k j (by omega)
  refine ⟨?_, ?_, ?_, ?_, ?_, ?_, ?_, ?_, ?_, ?_, ?_, ?_, ?_, ?_, ?_, ?_⟩
  · rw [hs]; exact h.w
  · rw [hs]; exact h.p
  · rw [hs]; exact h.f
  · rw [hs]; exact h.n
  · rw [ha 2 (by omega)]; exact h.ln
  · rw [ha 1 (by omega)]; exact h.lt
  · rw [ha 4 (by omega)]; exact h.ss
  · rw [ha 3 (by omega)]; exact h.so
  · rw [ha 6 (by omega)]; exact h.ts
  · rw [ha 5 (by omega)]; exact h.tt
  · rw [ha 7 (by omega)]; exact h.co
  · rw [ha 8 (by omega)]; exact h.go
  · rw [ha 8 (by omega)]; exact h.gb
  · rw [ha 9 (by omega)]; exact h.fl
  · rw [ha 10 (by omega)]; exact h.pl
  · rw [ha 11 (by omega)]; exact h.st
theorem RK.S {j : Nat} {v : Int} (h : RK σ k m) (hk : isK k) {c : Nat} (hc : 37 ≤ c) : RK (setS σ c j v) k m := h.rd hk (fun _ _ => rfl) (fun b i hb => by rw [sc_S, if_neg (by omega)])
theorem RK.I {j v : Int} (h : RK σ k m) (hk : isK k) {c : Nat} (hc : 37 ≤ c) : RK (setI σ c j v) k m := h.rd hk (fun b hb => by rw [ia_I, if_neg (by omega)]) (fun _ _ _ => rfl)
/-- at moves -/
theorem CB.at (h : CB t e k new σ f m) {v : Int} (h0 : 0 ≤ v) (h1 : v ≤ e) : CB t e k new (setS σ 37 15 v) f m :=
  ⟨h.tp, h.tb, by simp (config := {decide := true}) only [sc_S, ia_S, la_S, rv_S, sc_I, rv_I, la_I, ia_I, sc_L, rv_L, ia_L, la_L, sc_A, rv_A, la_A, ia_A, sc_B, rv_B, ia_B, la_B, sc_R, ia_R, la_R, rv_R, ia_w, la_w, rv_w, sc_w, if_true, if_false]; exact h.en, h.eb, by simp (config := {decide := true}) only [sc_S, ia_S, la_S, rv_S, sc_I, rv_I, la_I, ia_I, sc_L, rv_L, ia_L, la_L, sc_A, rv_A, la_A, ia_A, sc_B, rv_B, ia_B, la_B, sc_R, ia_R, la_R, rv_R, ia_w, la_w, rv_w, sc_w, if_true, if_false]; exact h0, by simp (config := {decide := true}) only [sc_S, ia_S, la_S, rv_S, sc_I, rv_I, la_I, ia_I, sc_L, rv_L, ia_L, la_L, sc_A, rv_A, la_A, ia_A, sc_B, rv_B, ia_B, la_B, sc_R, ia_R, la_R, rv_R, ia_w, la_w, rv_w, sc_w, if_true, if_false]; exact h1, h.dk, by simp (config := {decide := true}) only [sc_S, ia_S, la_S, rv_S, sc_I, rv_I, la_I, ia_I, sc_L, rv_L, ia_L, la_L, sc_A, rv_A, la_A, ia_A, sc_B, rv_B, ia_B, la_B, sc_R, ia_R, la_R, rv_R, ia_w, la_w, rv_w, sc_w, if_true, if_false]; exact h.gr, by simp (config := {decide := true}) only [sc_S, ia_S, la_S, rv_S, sc_I, rv_I, la_I, ia_I, sc_L, rv_L, ia_L, la_L, sc_A, rv_A, la_A, ia_A, sc_B, rv_B, ia_B, la_B, sc_R, ia_R, la_R, rv_R, ia_w, la_w, rv_w, sc_w, if_true, if_false]; exact h.fa, h.fb, h.rk.S h.ik (Nat.le_refl _), h.gm, h.ik⟩
theorem CB.I (h : CB t e k new σ f m) {c : Nat} {j v : Int} (hc : 39 ≤ c) : CB t e k new (setI σ c j v) f m :=
  ⟨by rw [ia_I, if_neg (by omega)]; exact h.tp, h.tb, h.en, h.eb, h.a0, h.a1, h.dk, h.gr, h.fa, h.fb, h.rk.I h.ik (by omega), h.gm, h.ik⟩
theorem CB.S (h : CB t e k new σ f m) {j : Nat} {v : Int} (hj : decide (j ≠ 1 ∧ j ≠ 2 ∧ j ≠ 15 ∧ j ≠ 17) = true) : CB t e k new (setS σ 37 j v) f m := by
  have hj' := of_decide_eq_true hj
  have hs : ∀ i, (i = 1 ∨ i = 2 ∨ i = 15 ∨ i = 17) → sc (setS σ 37 j v) 37 i = sc σ 37 i := fun i hi => by rw [sc_S, if_neg (by omega)]
  exact ⟨h.tp, h.tb, by rw [hs 1 (by omega)]; exact h.en, h.eb, by rw [hs 15 (by omega)]; exact h.a0, by rw [hs 15 (by omega)]; exact h.a1, h.dk, by rw [hs 17 (by omega)]; exact h.gr, by rw [hs 2 (by omega)]; exact h.fa, h.fb, h.rk.S h.ik (Nat.le_refl _), h.gm, h.ik⟩
theorem CB.bad (h : CB t e k new σ f m) {v : Int} (h0 : 0 ≤ v) : CB t e k new (setS σ 37 2 v) v m :=
  ⟨h.tp, h.tb, by simp (config := {decide := true}) only [sc_S, ia_S, la_S, rv_S, sc_I, rv_I, la_I, ia_I, sc_L, rv_L, ia_L, la_L, sc_A, rv_A, la_A, ia_A, sc_B, rv_B, ia_B, la_B, sc_R, ia_R, la_R, rv_R, ia_w, la_w, rv_w, sc_w, if_true, if_false]; exact h.en, h.eb, by simp (config := {decide := true}) only [sc_S, ia_S, la_S, rv_S, sc_I, rv_I, la_I, ia_I, sc_L, rv_L, ia_L, la_L, sc_A, rv_A, la_A, ia_A, sc_B, rv_B, ia_B, la_B, sc_R, ia_R, la_R, rv_R, ia_w, la_w, rv_w, sc_w, if_true, if_false]; exact h.a0, by simp (config := {decide := true}) only [sc_S, ia_S, la_S, rv_S, sc_I, rv_I, la_I, ia_I, sc_L, rv_L, ia_L, la_L, sc_A, rv_A, la_A, ia_A, sc_B, rv_B, ia_B, la_B, sc_R, ia_R, la_R, rv_R, ia_w, la_w, rv_w, sc_w, if_true, if_false]; exact h.a1, h.dk, by simp (config := {decide := true}) only [sc_S, ia_S, la_S, rv_S, sc_I, rv_I, la_I, ia_I, sc_L, rv_L, ia_L, la_L, sc_A, rv_A, la_A, ia_A, sc_B, rv_B, ia_B, la_B, sc_R, ia_R, la_R, rv_R, ia_w, la_w, rv_w, sc_w, if_true, if_false]; exact h.gr, by simp (config := {decide := true}) only [sc_S, ia_S, la_S, rv_S, sc_I, rv_I, la_I, ia_I, sc_L, rv_L, ia_L, la_L, sc_A, rv_A, la_A, ia_A, sc_B, rv_B, ia_B, la_B, sc_R, ia_R, la_R, rv_R, ia_w, la_w, rv_w, sc_w, if_true, if_false], Or.inr h0, h.rk.S h.ik (Nat.le_refl _), h.gm, h.ik⟩
theorem c_skip : ∀ (n : Nat) {σ : SG}, (e - sc σ 37 15).toNat ≤ n → CB t e k new σ f m → SR σ → EV g ad d mX6_skipBlanks [.ref (ad 37)] σ (setS σ 37 15 (skp t e (sc σ 37 15))) := by
  intro n σ hn hP hS
  refine EbS rfl pl_X6 rfl rfl ?_
  have key : ∀ (n : Nat) (τ : SG), (e - sc τ 37 15).toNat ≤ n → CB t e k new τ f m → SR τ → skp t e (sc τ 37 15) = skp t e (sc σ 37 15) → setS τ 37 15 (skp t e (sc σ 37 15)) = setS σ 37 15 (skp t e (sc σ 37 15)) → Wb g ad d mX6_skipBlanks (Kv fun s => s = setS σ 37 15 (skp t e (sc σ 37 15))) 0 [some (.ref (ad 37))] [] τ 0 0 := by
    intro n
    induction n with
    | zero =>
      intro τ hn hP hS h1 h2
      have h0 := hP.a0
      have h1' := hP.a1
      have hst : skp t e (sc τ 37 15) = sc τ 37 15 := by unfold skp; rw [scn_eq, if_neg (by omega)]
      have hfin : τ = setS σ 37 15 (skp t e (sc σ 37 15)) := by rw [← h2, ← h1, hst, setS_self]
      exact bX6_skipBlanks_0 hS ⟨fun _ => re_v hfin, fun q => absurd (by rw [hP.en]; omega) q⟩
    | succ n ih =>
      intro τ hn hP hS h1 h2
      have h0 := hP.a0
      have h1' := hP.a1
      have heb := hP.eb
      have hst : skp t e (sc τ 37 15) = if sc τ 37 15 < e ∧ blk t (sc τ 37 15) = true then skp t e (sc τ 37 15 + 1) else sc τ 37 15 := scn_eq
      have fin : ¬ (sc τ 37 15 < e ∧ blk t (sc τ 37 15) = true) → τ = setS σ 37 15 (skp t e (sc σ 37 15)) := by
        intro c
        rw [if_neg c] at hst
        rw [← h2, ← h1, hst, setS_self]
      refine bX6_skipBlanks_0 hS ⟨fun c => ?_, fun c => ⟨⟨h0, by rw [hP.en] at c; omega⟩, fun c2 => ?_, fun c2 => ⟨iR_of (by omega) (by omega), fun hS' => ?_⟩⟩⟩
      · exact re_v (fin (fun q => by rw [hP.en] at c; omega))
      · rw [hP.tp] at c2
        exact re_v (fin (fun q => c2 (of_decide_eq_true q.2)))
      · rw [hP.en] at c
        rw [hP.tp] at c2
        rw [if_pos ⟨by omega, decide_eq_true c2⟩] at hst
        refine ih _ (by simp (config := {decide := true}) only [sc_S, ia_S, la_S, rv_S, sc_I, rv_I, la_I, ia_I, sc_L, rv_L, ia_L, la_L, sc_A, rv_A, la_A, ia_A, sc_B, rv_B, ia_B, la_B, sc_R, ia_R, la_R, rv_R, ia_w, la_w, rv_w, sc_w, if_true, if_false]; omega) (hP.at (by omega) (by omega)) hS' ?_ ?_
        · simp (config := {decide := true}) only [sc_S, ia_S, la_S, rv_S, sc_I, rv_I, la_I, ia_I, sc_L, rv_L, ia_L, la_L, sc_A, rv_A, la_A, ia_A, sc_B, rv_B, ia_B, la_B, sc_R, ia_R, la_R, rv_R, ia_w, la_w, rv_w, sc_w, if_true, if_false]
          rw [← h1, hst]
        · rw [setS_S]; exact h2
  exact key n σ hn hP hS rfl rfl
theorem w_skip (hP : CB t e k new σ f m) (hS : SR σ) : EV g ad d mX6_skipBlanks [.ref (ad 37)] σ (setS σ 37 15 (skp t e (sc σ 37 15))) := c_skip _ (Nat.le_refl _) hP hS
theorem CB.sk (h : CB t e k new σ f m) : CB t e k new (setS σ 37 15 (skp t e (sc σ 37 15))) f m := by
  have := scn_le (b := blk t) h.a1
  have h0 := h.a0
  exact h.at (by unfold skp; omega) this.2
theorem c_isRight (hS : SR σ) : EI g ad d mX6_isRight [.ref (ad 37)] σ (bi (sc σ 37 2 = -1)) σ :=
  EbS rfl pl_X6 rfl rfl (bX6_isRight_0 hS ⟨fun c => re_i ⟨(bi_f c).symm, rfl⟩, fun c => re_i ⟨(bi_t c).symm, rfl⟩⟩)
theorem c_fail {x1 : Int} (h1 : iR x1) (hS : SR σ) : EV g ad d mX6_fail [.ref (ad 37), vi x1] σ (if sc σ 37 2 = -1 then setS σ 37 2 x1 else σ) := by
  refine EbS rfl pl_X6 rfl rfl (bX6_fail_0 h1 hS ⟨fun c => re_v ?_, fun c => re_v ?_⟩)
  · rw [if_neg c]
  · rw [if_pos c]
/-- the first fault stays -/
def fst1 (f v : Int) : Int := if f = -1 then v else f
theorem CB.fail (h : CB t e k new σ f m) {v : Int} (h0 : 0 ≤ v) : CB t e k new (if sc σ 37 2 = -1 then setS σ 37 2 v else σ) (fst1 f v) m := by
  unfold fst1
  by_cases c : f = -1
  · rw [if_pos c, if_pos (by rw [h.fa]; exact c)]; exact h.bad h0
  · rw [if_neg c, if_neg (by rw [h.fa]; exact c)]; exact h
theorem failY {v : Int} {A K : List Nat} {σ s : SG} (hF : Fy A K D σ s) (hK : 2 ∈ K) : Fy A K D σ (if sc s 37 2 = -1 then setS s 37 2 v else s) := by
  split
  · exact hF.setS hK
  · exact hF
theorem failAt {v : Int} : sc (if sc σ 37 2 = -1 then setS σ 37 2 v else σ) 37 15 = sc σ 37 15 := by
  split
  · simp (config := {decide := true}) only [sc_S, ia_S, la_S, rv_S, sc_I, rv_I, la_I, ia_I, sc_L, rv_L, ia_L, la_L, sc_A, rv_A, la_A, ia_A, sc_B, rv_B, ia_B, la_B, sc_R, ia_R, la_R, rv_R, ia_w, la_w, rv_w, sc_w, if_true, if_false]
  · rfl
theorem c_atLetter (h : CB t e k new σ f m) (hS : SR σ) : EI g ad d mX6_atLetter [.ref (ad 37)] σ (bi (sc σ 37 15 < e ∧ ltr t (sc σ 37 15) = true)) σ := by
  have h0 := h.a0
  have heb := h.eb
  refine EbS rfl pl_X6 rfl rfl (bX6_atLetter_0 hS ?_)
  rw [h.en, h.tp]
  refine ⟨fun c => re_i ⟨(bi_f (fun q => by omega)).symm, rfl⟩, fun c => ⟨⟨h0, by omega⟩, fun c2 => re_i ⟨(bi_f (fun q => ?_)).symm, rfl⟩, fun c2 => ⟨fun c3 => re_i ⟨(bi_f (fun q => ?_)).symm, rfl⟩, fun c3 => re_i ⟨(bi_t ⟨by omega, decide_eq_true ⟨by omega, by omega⟩⟩).symm, rfl⟩⟩⟩⟩
  · have := of_decide_eq_true q.2
    omega
  · have := of_decide_eq_true q.2
    omega
theorem c_take {x1 : Int} (h : CB t e k new σ f m) (hS : SR σ) (h1 : iR x1) (hd : 1 ≤ d) : EI g ad d mX6_take [.ref (ad 37), vi x1] σ (bi (sc σ 37 15 < e ∧ t (sc σ 37 15) = x1)) (if sc σ 37 15 < e ∧ t (sc σ 37 15) = x1 then setS σ 37 15 (skp t e (sc σ 37 15 + 1)) else σ) := by
  have h0 := h.a0
  have ha1 := h.a1
  have heb := h.eb
  refine EbS rfl pl_X6 rfl rfl (bX6_take_0 h1 hS ?_)
  rw [h.en, h.tp]
  refine ⟨fun c => re_i ⟨(bi_f (fun q => by omega)).symm, (if_neg (fun q => by omega)).symm⟩, fun c => ⟨⟨h0, by omega⟩, fun c2 => ⟨iR_of (by omega) (by omega), ?_⟩, fun c2 => re_i ⟨(bi_f (fun q => c2 q.2)).symm, (if_neg (fun q => c2 q.2)).symm⟩⟩⟩
  have hc : sc σ 37 15 < e ∧ t (sc σ 37 15) = x1 := ⟨by omega, c2⟩
  refine EV.k (w_skip (d := d - 1) (h.at (v := sc σ 37 15 + 1) (by omega) (by omega)) (SR_setS hS (iR_of (by omega) (by omega)))) (by omega) (fun _ => re_i ⟨(bi_t hc).symm, ?_⟩)
  rw [if_pos hc, setS_S]
  simp (config := {decide := true}) only [sc_S, ia_S, la_S, rv_S, sc_I, rv_I, la_I, ia_I, sc_L, rv_L, ia_L, la_L, sc_A, rv_A, la_A, ia_A, sc_B, rv_B, ia_B, la_B, sc_R, ia_R, la_R, rv_R, ia_w, la_w, rv_w, sc_w, if_true, if_false]
theorem c_needSome {x1 : Int} (h : CB t e k new σ f m) (hS : SR σ) (h1 : iR x1) (hd : 1 ≤ d) : EV g ad d mX6_needSome [.ref (ad 37), vi x1] σ (if x1 = 0 then (if sc σ 37 2 = -1 then setS σ 37 2 (sc σ 37 15) else σ) else σ) := by
  refine EbS rfl pl_X6 rfl rfl (bX6_needSome_0 h1 hS ⟨fun c => re_v (if_neg c).symm, fun c => ?_⟩)
  refine EV.k (c_fail (d := d - 1) (SR_sc hS 37 15) hS) (by omega) (fun _ => re_v ?_)
  rw [if_pos c]
/-- what a sign that must stand there does -/
theorem c_expect {x1 : Int} (h : CB t e k new σ f m) (hS : SR σ) (h1 : iR x1) (hd : 2 ≤ d) : Eb g ad d mX6_expect 0 0 [.ref (ad 37), vi x1] σ (Kv fun s => (match pSign t e x1 (sc σ 37 15) m with
    | Except.error f1 => CB t e k new s (fst1 f f1) m
    | Except.ok (_, p, m') => CB t e k new s f m' ∧ m' = m ∧ sc s 37 15 = p) ∧ Fy [] [2, 15] D σ s) := by
  have h0 := h.a0
  have ha1 := h.a1
  have heb := h.eb
  refine EbS rfl pl_X6 rfl rfl (bX6_expect_0 h1 hS ?_)
  refine EI.k (c_take (d := d - 1) h hS h1 (by omega)) (by omega) (fun _ hS' => bi_nz (fun c => ?_) (fun c => ?_))
  · have hp : pSign t e x1 (sc σ 37 15) m = .ok () (skp t e (sc σ 37 15 + 1)) m := if_pos c
    have hb := scn_le (b := blk t) (e := e) (p := sc σ 37 15 + 1) (by omega)
    rw [if_pos c, hp]
    refine re_v ⟨⟨h.at (by unfold skp; omega) hb.2, rfl, by simp (config := {decide := true}) only [sc_S, ia_S, la_S, rv_S, sc_I, rv_I, la_I, ia_I, sc_L, rv_L, ia_L, la_L, sc_A, rv_A, la_A, ia_A, sc_B, rv_B, ia_B, la_B, sc_R, ia_R, la_R, rv_R, ia_w, la_w, rv_w, sc_w, if_true, if_false]⟩, (Fy.refl σ).setS (by decide)⟩
  · have hp : pSign t e x1 (sc σ 37 15) m = .bad (sc σ 37 15) := if_neg c
    rw [if_neg c] at hS' ⊢
    rw [hp]
    refine EV.k (c_fail (d := d - 1) (SR_sc hS 37 15) hS) (by omega) (fun _ => re_v ⟨h.fail h0, failY (Fy.refl σ) (by decide)⟩)
end RDRs
