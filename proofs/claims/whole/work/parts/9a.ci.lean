/-- what a question of the class leaves as it was -/
def Qf (σ s : SG) : Prop := (∀ c j, ¬ (c = 48 ∧ j = 11) → rv s c j = rv σ c j) ∧ (∀ c, ¬ c = 0 → ¬ (48 ≤ c ∧ c ≤ 101) → ia s c = ia σ c ∧ la s c = la σ c ∧ sc s c = sc σ c) ∧ ∀ j, ¬ j = 12 → ¬ j = 13 → ¬ j = 14 → sc s 0 j = sc σ 0 j
/-- what making ready leaves as it was -/
def Uf (σ s : SG) : Prop := ∀ c, 75 ≤ c → c ≤ 101 → ia s c = ia σ c ∧ la s c = la σ c ∧ sc s c = sc σ c
/-- the class holds m, its image mi, if hi -/
def CI (s : SG) (m mi : Int → Int) (hi : Int) : Prop := (rv s 0 1 = 13 ∧ rv s 0 2 = 25 ∨ rv s 0 1 = 25 ∧ rv s 0 2 = 13) ∧ (GM m) ∧ (RK s (rv s 0 1) m) ∧ (sc s 0 11 = hi) ∧ (¬ hi = 0 → RK s 1 mi ∧ GM mi) ∧ (KCl s) ∧ (¬ sc s 0 12 = 0 → OPT s m (rv s 0 1) ∧ KNT s m ∧ STR s m) ∧ (¬ sc s 0 13 = 0 → ¬ sc s 0 12 = 0 ∧ (sc s 58 6 = m 6 ∧ sc s 58 7 = m 7 ∧ RST s m) ∧ WAY s m) ∧ (¬ sc s 0 14 = 0 → ¬ sc s 0 12 = 0 ∧ FIL s m (m 8))
theorem CI.kn {s : SG} {m mi : Int → Int} {hi : Int} (h_ : CI s m mi hi) : rv s 0 1 = 13 ∧ rv s 0 2 = 25 ∨ rv s 0 1 = 25 ∧ rv s 0 2 = 13 := h_.1
theorem CI.gm {s : SG} {m mi : Int → Int} {hi : Int} (h_ : CI s m mi hi) : GM m := h_.2.1
theorem CI.rk {s : SG} {m mi : Int → Int} {hi : Int} (h_ : CI s m mi hi) : RK s (rv s 0 1) m := h_.2.2.1
theorem CI.hi_ {s : SG} {m mi : Int → Int} {hi : Int} (h_ : CI s m mi hi) : sc s 0 11 = hi := h_.2.2.2.1
theorem CI.im {s : SG} {m mi : Int → Int} {hi : Int} (h_ : CI s m mi hi) : ¬ hi = 0 → RK s 1 mi ∧ GM mi := h_.2.2.2.2.1
theorem CI.kc {s : SG} {m mi : Int → Int} {hi : Int} (h_ : CI s m mi hi) : KCl s := h_.2.2.2.2.2.1
theorem CI.op {s : SG} {m mi : Int → Int} {hi : Int} (h_ : CI s m mi hi) : ¬ sc s 0 12 = 0 → OPT s m (rv s 0 1) ∧ KNT s m ∧ STR s m := h_.2.2.2.2.2.2.1
theorem CI.wy {s : SG} {m mi : Int → Int} {hi : Int} (h_ : CI s m mi hi) : ¬ sc s 0 13 = 0 → ¬ sc s 0 12 = 0 ∧ (sc s 58 6 = m 6 ∧ sc s 58 7 = m 7 ∧ RST s m) ∧ WAY s m := h_.2.2.2.2.2.2.2.1
theorem CI.st {s : SG} {m mi : Int → Int} {hi : Int} (h_ : CI s m mi hi) : ¬ sc s 0 14 = 0 → ¬ sc s 0 12 = 0 ∧ FIL s m (m 8) := h_.2.2.2.2.2.2.2.2
section CIs
variable {g : AG} {ad : Nat → Nat} {d : Nat} {σ : SG} {m mi t : Int → Int} {k : Nat} {hi : Int}
theorem Uf.refl : Uf σ σ := fun _ _ _ => ⟨rfl, rfl, rfl⟩
theorem Uf.trans {s u : SG} (h1 : Uf σ s) (h2 : Uf s u) : Uf σ u := fun c a b => ⟨(h2 c a b).1.trans (h1 c a b).1, (h2 c a b).2.1.trans (h1 c a b).2.1, (h2 c a b).2.2.trans (h1 c a b).2.2⟩
theorem Uf.of {C : Nat → Prop} {s : SG} (h : Fr C σ s) (hC : ∀ c, C c → ¬ (75 ≤ c ∧ c ≤ 101)) : Uf σ s := fun c a b => h.2 c (fun z => hC c z ⟨a, b⟩)
theorem Qf.refl : Qf σ σ := ⟨fun _ _ _ => rfl, fun _ _ _ => ⟨rfl, rfl, rfl⟩, fun _ _ _ _ => rfl⟩
theorem Qf.trans {s u : SG} (h1 : Qf σ s) (h2 : Qf s u) : Qf σ u := ⟨fun c j hc => (h2.1 c j hc).trans (h1.1 c j hc), fun c h0 hc => ⟨(h2.2.1 c h0 hc).1.trans (h1.2.1 c h0 hc).1, (h2.2.1 c h0 hc).2.1.trans (h1.2.1 c h0 hc).2.1, (h2.2.1 c h0 hc).2.2.trans (h1.2.1 c h0 hc).2.2⟩, fun j a b c => (h2.2.2 j a b c).trans (h1.2.2 j a b c)⟩
theorem Qf.of {C : Nat → Prop} {s : SG} (h : Fr C σ s) (hC : ∀ c, C c → 48 ≤ c ∧ c ≤ 101) : Qf σ s := ⟨fun c j _ => by rw [h.1], fun c _ hc => h.2 c (fun z => hc (hC c z)), fun j _ _ _ => h.sc 0 j (fun z => by have := hC 0 z; omega)⟩
theorem Qf.S {s : SG} {j : Nat} {v : Int} (h : Qf σ s) (hj : j = 12 ∨ j = 13 ∨ j = 14) : Qf σ (setS s 0 j v) := by
  refine ⟨h.1, fun c h0 hc => ?_, fun i a b c => ?_⟩
  · have := h.2.1 c h0 hc
    refine ⟨this.1, this.2.1, ?_⟩
    rw [← this.2.2]
    funext i
    rw [sc_S, if_neg (fun z => h0 z.1)]
  · rw [sc_S, if_neg (fun z => by omega)]
    exact h.2.2 i a b c
theorem Qf.R (v : Nat) : Qf σ (setR σ 48 11 v) := ⟨fun c j hc => by rw [rv_R, if_neg hc], fun _ _ _ => ⟨rfl, rfl, rfl⟩, fun _ _ _ _ => rfl⟩
theorem Qf.rv01 {s : SG} (h : Qf σ s) : rv s 0 1 = rv σ 0 1 ∧ rv s 0 2 = rv σ 0 2 := ⟨h.1 0 1 (by omega), h.1 0 2 (by omega)⟩
/-- RK through Qf -/
theorem RK.eq {s : SG} (h : RK σ k m) (ha : ∀ c, k ≤ c → c ≤ k + 11 → ia s c = ia σ c) (hs : sc s k = sc σ k) : RK s k m := by
  refine ⟨by rw [hs]; exact h.w, by rw [hs]; exact h.p, by rw [hs]; exact h.f, by rw [hs]; exact h.n, ?_, ?_, ?_, ?_, ?_, ?_, ?_, ?_, ?_, ?_, ?_, ?_⟩
  · rw [ha (k + 2) (by omega) (by omega)]; exact h.ln
  · rw [ha (k + 1) (by omega) (by omega)]; exact h.lt
  · rw [ha (k + 4) (by omega) (by omega)]; exact h.ss
  · rw [ha (k + 3) (by omega) (by omega)]; exact h.so
  · rw [ha (k + 6) (by omega) (by omega)]; exact h.ts
  · rw [ha (k + 5) (by omega) (by omega)]; exact h.tt
  · rw [ha (k + 7) (by omega) (by omega)]; exact h.co
  · rw [ha (k + 8) (by omega) (by omega)]; exact h.go
  · rw [ha (k + 8) (by omega) (by omega)]; exact h.gb
  · rw [ha (k + 9) (by omega) (by omega)]; exact h.fl
  · rw [ha (k + 10) (by omega) (by omega)]; exact h.pl
  · rw [ha (k + 11) (by omega) (by omega)]; exact h.st
theorem Qf.rk {s : SG} (h : Qf σ s) (hk : isK k) (hR : RK σ k m) : RK s k m := by
  have := isK_b hk
  exact hR.eq (fun c h1 h2 => (h.2.1 c (by omega) (by omega)).1) (h.2.1 k (by omega) (by omega)).2.2
theorem CI.isk (h : CI σ m mi hi) : isK (rv σ 0 1) := by
  rcases h.kn with z | z
  · exact Or.inr (Or.inl z.1)
  · exact Or.inr (Or.inr z.1)
theorem CI.isd (h : CI σ m mi hi) : isK (rv σ 0 2) := by
  rcases h.kn with z | z
  · exact Or.inr (Or.inr z.2)
  · exact Or.inr (Or.inl z.2)
/-- what stands over a question: only the tables must be said anew -/
theorem CI.q {s : SG} (h : CI σ m mi hi) (hQ : Qf σ s) (kc : KCl s) (op : ¬ sc s 0 12 = 0 → OPT s m (rv s 0 1) ∧ KNT s m ∧ STR s m) (wy : ¬ sc s 0 13 = 0 → ¬ sc s 0 12 = 0 ∧ (sc s 58 6 = m 6 ∧ sc s 58 7 = m 7 ∧ RST s m) ∧ WAY s m) (st : ¬ sc s 0 14 = 0 → ¬ sc s 0 12 = 0 ∧ FIL s m (m 8)) : CI s m mi hi := by
  have hr := hQ.rv01
  refine ⟨by rw [hr.1, hr.2]; exact h.kn, h.gm, by rw [hr.1]; exact hQ.rk h.isk h.rk, ?_, fun z => ⟨hQ.rk (Or.inl rfl) (h.im z).1, (h.im z).2⟩, kc, op, wy, st⟩
  rw [hQ.2.2 11 (by decide) (by decide) (by decide)]
  exact h.hi_
/-! tables under frames -/
theorem STR.fr {s : SG} {C : Nat → Prop} (h : STR σ m) (hF : Fr C σ s) (hC : ∀ c, C c → ¬ (72 ≤ c ∧ c ≤ 74)) : STR s m := by
  have e73 : ia s 73 = ia σ 73 := hF.ia 73 (fun z => hC 73 z ⟨by omega, by omega⟩)
  have e74 : ia s 74 = ia σ 74 := hF.ia 74 (fun z => hC 74 z ⟨by omega, by omega⟩)
  unfold STR StC
  rw [e73, e74]
  exact h
theorem KCl.fr {s : SG} {C : Nat → Prop} (h : KCl σ) (hF : Fr C σ s) (hC : ∀ c, C c → ¬ Kno c) : KCl s := by
  have e59 : ia s 59 = ia σ 59 := hF.ia 59 (fun z => hC 59 z ⟨by omega, by omega⟩)
  have e60 : ia s 60 = ia σ 60 := hF.ia 60 (fun z => hC 60 z ⟨by omega, by omega⟩)
  have e5 : sc s 58 5 = sc σ 58 5 := hF.sc 58 5 (fun z => hC 58 z ⟨by omega, by omega⟩)
  unfold KCl kN
  rw [e59, e60, e5]
  exact h
theorem WAY.fr {s : SG} {C : Nat → Prop} (h : WAY σ m) (hF : Fr C σ s) (hC : ∀ c, C c → ¬ Wcl c ∧ ¬ Kno c) : WAY s m := by
  obtain ⟨R, Q, hQ, hR, hw⟩ := h
  have w : ∀ c, Wcl c → ¬ C c := fun c hc z => (hC c z).1 hc
  have e60 : ia s 60 = ia σ 60 := hF.ia 60 (fun z => (hC 60 z).2 ⟨by omega, by omega⟩)
  have e5 : kN s = kN σ := hF.sc 58 5 (fun z => (hC 58 z).2 ⟨by omega, by omega⟩)
  refine ⟨R, Q, ⟨?_, fun p y hp => ?_⟩, ⟨?_, fun i v hi' => ?_⟩, hw⟩
  · rw [hF.sc 63 6 (w 63 ⟨by omega, by omega⟩)]
    exact hQ.1
  · have := hQ.2 p y hp
    unfold QE KE at this ⊢
    rw [hF.la 64 (w 64 ⟨by omega, by omega⟩), hF.ia 65 (w 65 ⟨by omega, by omega⟩), hF.ia 66 (w 66 ⟨by omega, by omega⟩), hF.ia 67 (w 67 ⟨by omega, by omega⟩), e60, e5]
    exact this
  · rw [hF.sc 63 8 (w 63 ⟨by omega, by omega⟩)]
    exact hR.1
  · rw [hF.la 68 (w 68 ⟨by omega, by omega⟩)]
    exact hR.2 i v hi'
theorem FIL.fr {s : SG} {w : Int} {C : Nat → Prop} (h : FIL σ m w) (hF : Fr C σ s) (hC : ∀ c, C c → ¬ Fcl c) : FIL s m w := by
  have n75 : ¬ C 75 := fun z => hC 75 z ⟨by omega, by omega⟩
  refine ⟨?_, ?_, ?_, ?_, ?_, ?_, ?_⟩
  · rw [hF.sc 75 12 n75]; exact h.mn
  · rw [hF.sc 75 13 n75]; exact h.mg
  · rw [hF.sc 75 14 n75]; exact h.ct
  · rw [hF.sc 75 15 n75]; exact h.fc
  · have := h.pa
    unfold PaC at this ⊢
    rw [hF.sc 75 17 n75, hF.ia 84 (fun z => hC 84 z ⟨by omega, by omega⟩)]
    exact this
  · rw [hF.ia 80 (fun z => hC 80 z ⟨by omega, by omega⟩)]; exact h.cn
  · rw [hF.ia 81 (fun z => hC 81 z ⟨by omega, by omega⟩)]; exact h.lo
/-- a flag set at cell 0 touches no table -/
theorem Fr0 {j : Nat} {v : Int} : Fr (fun c => c = 0) σ (setS σ 0 j v) := (Fr.refl σ).S rfl
theorem p_options (h : CI σ m mi hi) (hS : SR σ) (hd : 4 ≤ d) : Eb g ad d mX10_prepareOptions 0 0 [.ref (ad 0)] σ (Kv fun s => CI s m mi hi ∧ ¬ sc s 0 12 = 0 ∧ Qf σ s ∧ sc s 0 13 = sc σ 0 13 ∧ sc s 0 14 = sc σ 0 14 ∧ Uf σ s) := by
  have hW := h.gm.wf
  have hk := h.isk
  refine EbS rfl pl_X10 rfl rfl (bX10_prepareOptions_0 hS ⟨fun c => re_v ⟨h, c, Qf.refl, rfl, rfl, Uf.refl⟩, fun c => ⟨hk, ?_⟩⟩)
  refine Cl.vo (o_gather (d := d - 1) hk h.rk hW hS (by omega)) (by omega) (fun s2 hS2 h2 => ?_)
  have q2 : Qf σ s2 := (Qf.R _).trans (Qf.of h2.2 (fun c hc => by unfold Ocl at hc; omega))
  have hkc2 : KCl s2 := by
    have e1 : KCl (setR σ 48 11 (rv σ 0 1)) := h.kc
    exact e1.fr h2.2 (fun c hc z => by unfold Ocl at hc; unfold Kno at z; omega)
  refine Cl.vo (n_explore (d := d - 1) hk h2.1 hW hkc2 hS2 (by omega)) (by omega) (fun s3 hS3 h3 => ?_)
  have o3 : OPT s3 m (rv σ 0 1) := h2.1.fr h3.2 (fun c hc z => by unfold Kno at hc; unfold Ocl at z; omega)
  refine Cl.vo (t_reckon (d := d - 1) o3 hW hS3 (by omega)) (by omega) (fun s4 hS4 h4 => re_v ?_)
  have q4 : Qf σ s4 := (q2.trans (Qf.of h3.2 (fun c hc => by unfold Kno at hc; omega))).trans (Qf.of h4.2 (fun c hc => by unfold Scl at hc; omega))
  have o4 : OPT s4 m (rv σ 0 1) := o3.fr h4.2 (fun c hc z => by unfold Scl at hc; unfold Ocl at z; omega)
  have k4 : KNT s4 m := h3.1.fr h4.2 (fun c hc z => by unfold Scl at hc; unfold Kno at z; omega)
  have q5 : Qf σ (setS s4 0 12 1) := q4.S (Or.inl rfl)
  have u2 : Uf σ s2 := by
    have a1 : Uf σ (setR σ 48 11 (rv σ 0 1)) := fun _ _ _ => ⟨rfl, rfl, rfl⟩
    exact a1.trans (Uf.of h2.2 (fun c hc z => by unfold Ocl at hc; omega))
  have u4 : Uf σ s4 := (u2.trans (Uf.of h3.2 (fun c hc z => by unfold Kno at hc; omega))).trans (Uf.of h4.2 (fun c hc z => by unfold Scl at hc; omega))
  have u5 : Uf σ (setS s4 0 12 1) := u4.trans (Uf.of Fr0 (fun c hc z => by omega))
  have o5 : OPT (setS s4 0 12 1) m (rv σ 0 1) := o4.fr Fr0 (fun c hc z => by unfold Ocl at z; omega)
  have k5 : KNT (setS s4 0 12 1) m := k4.fr Fr0 (fun c hc z => by unfold Kno at z; omega)
  have t5 : STR (setS s4 0 12 1) m := h4.1.fr Fr0 (fun c hc z => by omega)
  have e13 : sc (setS s4 0 12 1) 0 13 = sc σ 0 13 := by
    simp (config := {decide := true}) only [sc_S, ia_S, la_S, rv_S, sc_I, rv_I, la_I, ia_I, sc_L, rv_L, ia_L, la_L, sc_A, rv_A, la_A, ia_A, sc_B, rv_B, ia_B, la_B, sc_R, ia_R, la_R, rv_R, ia_w, la_w, rv_w, sc_w, if_true, if_false]
    rw [h4.2.sc 0 13 (fun z => by unfold Scl at z; omega), h3.2.sc 0 13 (fun z => by unfold Kno at z; omega), h2.2.sc 0 13 (fun z => by unfold Ocl at z; omega)]
    rfl
  have e14 : sc (setS s4 0 12 1) 0 14 = sc σ 0 14 := by
    simp (config := {decide := true}) only [sc_S, ia_S, la_S, rv_S, sc_I, rv_I, la_I, ia_I, sc_L, rv_L, ia_L, la_L, sc_A, rv_A, la_A, ia_A, sc_B, rv_B, ia_B, la_B, sc_R, ia_R, la_R, rv_R, ia_w, la_w, rv_w, sc_w, if_true, if_false]
    rw [h4.2.sc 0 14 (fun z => by unfold Scl at z; omega), h3.2.sc 0 14 (fun z => by unfold Kno at z; omega), h2.2.sc 0 14 (fun z => by unfold Ocl at z; omega)]
    rfl
  have e12 : ¬ sc (setS s4 0 12 1) 0 12 = 0 := by
    simp (config := {decide := true}) only [sc_S, ia_S, la_S, rv_S, sc_I, rv_I, la_I, ia_I, sc_L, rv_L, ia_L, la_L, sc_A, rv_A, la_A, ia_A, sc_B, rv_B, ia_B, la_B, sc_R, ia_R, la_R, rv_R, ia_w, la_w, rv_w, sc_w, if_true, if_false]
  refine ⟨h.q q5 k5.clear (fun _ => ⟨by rw [q5.rv01.1]; exact o5, k5, t5⟩) (fun z => ?_) (fun z => ?_), e12, q5, e13, e14, u5⟩
  · rw [e13] at z
    exact absurd c (h.wy z).1
  · rw [e14] at z
    exact absurd c (h.st z).1
theorem CI.wb (h : CI σ m mi hi) (h13 : ¬ sc σ 0 13 = 0) : WB σ m m (rv σ 0 1) := by
  have h1 := h.wy h13
  have h2 := h.op h1.1
  exact ⟨h.rk, h.gm.wf, VA_id h.gm.wf, h2.1, h2.1, h2.2.1, h1.2.1.1, h1.2.1.2.1, h1.2.1.2.2⟩
theorem CI.sb (h : CI σ m mi hi) (h12 : ¬ sc σ 0 12 = 0) : SB σ m (rv σ 0 1) := by
  have h2 := h.op h12
  exact ⟨h.rk, h2.1, h2.2.1, h2.2.2⟩
theorem p_ways (h : CI σ m mi hi) (h12 : ¬ sc σ 0 12 = 0) (hS : SR σ) (hd : 5 ≤ d) : Eb g ad d mX10_prepareWays 0 0 [.ref (ad 0)] σ (Kv fun s => CI s m mi hi ∧ ¬ sc s 0 12 = 0 ∧ ¬ sc s 0 13 = 0 ∧ Qf σ s ∧ sc s 0 14 = sc σ 0 14 ∧ Uf σ s) := by
  have hW := h.gm.wf
  have hk := h.isk
  refine EbS rfl pl_X10 rfl rfl (bX10_prepareWays_0 hS ⟨fun c => re_v ⟨h, h12, c, Qf.refl, rfl, Uf.refl⟩, fun c => ⟨hk, ?_⟩⟩)
  have hop := h.op h12
  have e6 : ia σ (rv σ 0 1 + 11) 2 = m 6 := h.rk.st 2 (by omega) (by omega)
  have e7 : ia σ (rv σ 0 1 + 11) 3 = m 7 := h.rk.st 3 (by omega) (by omega)
  rw [e6, e7]
  refine Cl.vo (n_reckon (d := d - 1) hk (VA_id hW) hW h.rk hop.1 hop.2.1 (iR_lit rfl) hS (by omega)) (by omega) (fun s2 hS2 h2 => ?_)
  have hB2 : WB s2 m m (rv σ 0 1) := ⟨h2.1.rk, hW, VA_id hW, h2.1.op, h2.1.op, h2.1.kn, h2.1.j6, h2.1.j7, h2.2.1⟩
  refine Cl.vo (w_begin (d := d - 1) hk hB2 hW hS2 (by omega)) (by omega) (fun s3 hS3 h3 => re_v ?_)
  have hB3 := hB2.fr hk h3.2
  have q3 : Qf σ s3 := (Qf.of h2.2.2 (fun c hc => by unfold Kno at hc; omega)).trans (Qf.of h3.2 (fun c hc => by unfold Wcl at hc; omega))
  have q4 : Qf σ (setS s3 0 13 1) := q3.S (Or.inr (Or.inl rfl))
  have f0 : ∀ j, sc s3 0 j = sc σ 0 j := fun j => by rw [h3.2.sc 0 j (fun z => by unfold Wcl at z; omega), h2.2.2.sc 0 j (fun z => by unfold Kno at z; omega)]
  have e12 : sc (setS s3 0 13 1) 0 12 = sc σ 0 12 := by
    simp (config := {decide := true}) only [sc_S, ia_S, la_S, rv_S, sc_I, rv_I, la_I, ia_I, sc_L, rv_L, ia_L, la_L, sc_A, rv_A, la_A, ia_A, sc_B, rv_B, ia_B, la_B, sc_R, ia_R, la_R, rv_R, ia_w, la_w, rv_w, sc_w, if_true, if_false]
    exact f0 12
  have e14 : sc (setS s3 0 13 1) 0 14 = sc σ 0 14 := by
    simp (config := {decide := true}) only [sc_S, ia_S, la_S, rv_S, sc_I, rv_I, la_I, ia_I, sc_L, rv_L, ia_L, la_L, sc_A, rv_A, la_A, ia_A, sc_B, rv_B, ia_B, la_B, sc_R, ia_R, la_R, rv_R, ia_w, la_w, rv_w, sc_w, if_true, if_false]
    exact f0 14
  have hF4 : Fr (fun c => c = 0) s3 (setS s3 0 13 1) := Fr0
  have k4 : KNT (setS s3 0 13 1) m := hB3.kn.fr hF4 (fun c hc z => by unfold Kno at z; omega)
  have hT : STR s3 m := (hop.2.2.fr h2.2.2 (fun c hc z => by unfold Kno at hc; omega)).fr h3.2 (fun c hc z => by unfold Wcl at hc; omega)
  refine ⟨h.q q4 k4.clear (fun _ => ⟨?_, k4, hT.fr hF4 (fun c hc z => by omega)⟩) (fun _ => ⟨by rw [e12]; exact h12, ⟨?_, ?_, hB3.rs.fr hF4 (fun c hc z => by unfold Kno at z; omega)⟩, h3.1.fr hF4 (fun c hc => ⟨fun z => by unfold Wcl at z; omega, fun z => by unfold Kno at z; omega⟩)⟩) (fun z => ?_), by rw [e12]; exact h12, ?_, q4, e14, ((Uf.of h2.2.2 (fun c hc z => by unfold Kno at hc; omega)).trans (Uf.of h3.2 (fun c hc z => by unfold Wcl at hc; omega))).trans (Uf.of hF4 (fun c hc z => by omega))⟩
  · rw [q4.rv01.1]
    exact hB3.op.fr hF4 (fun c hc z => by unfold Ocl at z; omega)
  · rw [hF4.sc 58 6 (by omega)]
    exact hB3.j6
  · rw [hF4.sc 58 7 (by omega)]
    exact hB3.j7
  · rw [e14] at z
    refine ⟨by rw [e12]; exact h12, ?_⟩
    exact (((h.st z).2.fr h2.2.2 (fun c hc y => by unfold Kno at hc; unfold Fcl at y; omega)).fr h3.2 (fun c hc y => by unfold Wcl at hc; unfold Fcl at y; omega)).fr hF4 (fun c hc y => by unfold Fcl at y; omega)
  · simp (config := {decide := true}) only [sc_S, ia_S, la_S, rv_S, sc_I, rv_I, la_I, ia_I, sc_L, rv_L, ia_L, la_L, sc_A, rv_A, la_A, ia_A, sc_B, rv_B, ia_B, la_B, sc_R, ia_R, la_R, rv_R, ia_w, la_w, rv_w, sc_w, if_true, if_false]
theorem p_stacks (h : CI σ m mi hi) (hS : SR σ) (hd : 5 ≤ d) : Eb g ad d mX10_prepareStacks 0 0 [.ref (ad 0)] σ (Kv fun s => CI s m mi hi ∧ ¬ sc s 0 12 = 0 ∧ ¬ sc s 0 14 = 0 ∧ Qf σ s) := by
  have hW := h.gm.wf
  refine EbS rfl pl_X10 rfl rfl (bX10_prepareStacks_0 hS ?_)
  refine Cl.vo (p_options (d := d - 1) h hS (by omega)) (by omega) (fun s1 hS1 h1 => ⟨fun c => re_v ⟨h1.1, h1.2.1, c, h1.2.2.1⟩, fun c => ⟨h1.1.isk, ?_⟩⟩)
  have hc := h1.1
  have e6 : ia s1 (rv s1 0 1 + 11) 2 = m 6 := hc.rk.st 2 (by omega) (by omega)
  have e7 : ia s1 (rv s1 0 1 + 11) 3 = m 7 := hc.rk.st 3 (by omega) (by omega)
  have e8 : ia s1 (rv s1 0 1 + 11) 4 = m 8 := hc.rk.st 4 (by omega) (by omega)
  rw [e6, e7, e8]
  refine Cl.vo (f_fill (d := d - 1) hc.isk (hc.sb h1.2.1) hW hW.1.2.2.2.2.2.2.2.2 hS1 (by omega)) (by omega) (fun s3 hS3 h3 => re_v ?_)
  have q3 : Qf s1 s3 := Qf.of h3.2 (fun c hc => by unfold Fcl at hc; omega)
  have q4 : Qf s1 (setS s3 0 14 1) := q3.S (Or.inr (Or.inr rfl))
  have hF4 : Fr (fun c => c = 0) s3 (setS s3 0 14 1) := Fr0
  have e12 : sc (setS s3 0 14 1) 0 12 = sc s1 0 12 := by
    simp (config := {decide := true}) only [sc_S, ia_S, la_S, rv_S, sc_I, rv_I, la_I, ia_I, sc_L, rv_L, ia_L, la_L, sc_A, rv_A, la_A, ia_A, sc_B, rv_B, ia_B, la_B, sc_R, ia_R, la_R, rv_R, ia_w, la_w, rv_w, sc_w, if_true, if_false]
    exact h3.2.sc 0 12 (fun z => by unfold Fcl at z; omega)
  have e13 : sc (setS s3 0 14 1) 0 13 = sc s1 0 13 := by
    simp (config := {decide := true}) only [sc_S, ia_S, la_S, rv_S, sc_I, rv_I, la_I, ia_I, sc_L, rv_L, ia_L, la_L, sc_A, rv_A, la_A, ia_A, sc_B, rv_B, ia_B, la_B, sc_R, ia_R, la_R, rv_R, ia_w, la_w, rv_w, sc_w, if_true, if_false]
    exact h3.2.sc 0 13 (fun z => by unfold Fcl at z; omega)
  have hFF : Fr (fun c => Fcl c ∨ c = 0) s1 (setS s3 0 14 1) := (h3.2.mono (fun c hc => Or.inl hc)).trans (hF4.mono (fun c hc => Or.inr hc))
  have hop := hc.op h1.2.1
  refine ⟨hc.q q4 (hc.kc.fr hFF (fun c hc' z => by unfold Fcl at hc'; unfold Kno at z; omega)) (fun _ => ⟨?_, hop.2.1.fr hFF (fun c hc' z => by unfold Fcl at hc'; unfold Kno at z; omega), hop.2.2.fr hFF (fun c hc' z => by unfold Fcl at hc'; omega)⟩) (fun z => ?_) (fun _ => ⟨by rw [e12]; exact h1.2.1, h3.1.fr hF4 (fun c hc' y => by unfold Fcl at y; omega)⟩), by rw [e12]; exact h1.2.1, ?_, h1.2.2.1.trans q4⟩
  · rw [q4.rv01.1]
    exact hop.1.fr hFF (fun c hc' z => by unfold Fcl at hc'; unfold Ocl at z; omega)
  · rw [e13] at z
    have hw := hc.wy z
    refine ⟨by rw [e12]; exact h1.2.1, ⟨?_, ?_, hw.2.1.2.2.fr hFF (fun c hc' y => by unfold Fcl at hc'; unfold Kno at y; omega)⟩, hw.2.2.fr hFF (fun c hc' => ⟨fun y => by unfold Fcl at hc'; unfold Wcl at y; omega, fun y => by unfold Fcl at hc'; unfold Kno at y; omega⟩)⟩
    · rw [hFF.sc 58 6 (fun y => by unfold Fcl at y; omega)]
      exact hw.2.1.1
    · rw [hFF.sc 58 7 (fun y => by unfold Fcl at y; omega)]
      exact hw.2.1.2.1
  · simp (config := {decide := true}) only [sc_S, ia_S, la_S, rv_S, sc_I, rv_I, la_I, ia_I, sc_L, rv_L, ia_L, la_L, sc_A, rv_A, la_A, ia_A, sc_B, rv_B, ia_B, la_B, sc_R, ia_R, la_R, rv_R, ia_w, la_w, rv_w, sc_w, if_true, if_false]
/-- a frame that touches no table -/
theorem CI.keep {s : SG} {C : Nat → Prop} (h : CI σ m mi hi) (hF : Fr C σ s) (hC : ∀ c, C c → 85 ≤ c ∧ c ≤ 101) : CI s m mi hi ∧ Qf σ s := by
  have hq : Qf σ s := Qf.of hF (fun c hc => by have := hC c hc; omega)
  have e : ∀ j, sc s 0 j = sc σ 0 j := fun j => hF.sc 0 j (fun z => by have := hC 0 z; omega)
  refine ⟨h.q hq (h.kc.fr hF (fun c hc z => by have := hC c hc; unfold Kno at z; omega)) (fun z => ?_) (fun z => ?_) (fun z => ?_), hq⟩
  · rw [e] at z
    have hop := h.op z
    refine ⟨?_, hop.2.1.fr hF (fun c hc y => by have := hC c hc; unfold Kno at y; omega), hop.2.2.fr hF (fun c hc y => by have := hC c hc; omega)⟩
    rw [hq.rv01.1]
    exact hop.1.fr hF (fun c hc y => by have := hC c hc; unfold Ocl at y; omega)
  · rw [e] at z
    have hw := h.wy z
    refine ⟨by rw [e]; exact hw.1, ⟨?_, ?_, hw.2.1.2.2.fr hF (fun c hc y => by have := hC c hc; unfold Kno at y; omega)⟩, hw.2.2.fr hF (fun c hc => ⟨fun y => by have := hC c hc; unfold Wcl at y; omega, fun y => by have := hC c hc; unfold Kno at y; omega⟩)⟩
    · rw [hF.sc 58 6 (fun y => by have := hC 58 y; omega)]
      exact hw.2.1.1
    · rw [hF.sc 58 7 (fun y => by have := hC 58 y; omega)]
      exact hw.2.1.2.1
  · rw [e] at z
    have hs := h.st z
    exact ⟨by rw [e]; exact hs.1, hs.2.fr hF (fun c hc y => by have := hC c hc; unfold Fcl at y; omega)⟩
/-- a way is unfolded -/
def UWY (s : SG) (m : Int → Int) (x r : Int) : Prop := (∃ w, wayK m x = some w ∧ r = 1 ∧ UNF s m w ∧ w ∈ LW m ∧ ∃ R, RA s m R ∧ R[x.toNat]? = some w) ∨ (wayK m x = none ∧ r = 0 ∧ sc s 63 11 = 0 ∧ sc s 63 13 = 0)
theorem p_unfold {x : Int} (h : CI σ m mi hi) (hx : 0 ≤ x ∧ x ≤ 29) (hS : SR σ) (hd : 6 ≤ d) : Eb g ad d mX10_unfoldWay 0 0 [.ref (ad 0), vi x] σ (Ki fun r s => UWY s m x r ∧ CI s m mi hi ∧ ¬ sc s 0 12 = 0 ∧ (¬ sc s 0 13 = 0 ∧ Uf σ s) ∧ Qf σ s) := by
  have hW := h.gm.wf
  have ix_ : iR x := iR_of (by omega) (by omega)
  refine EbS rfl pl_X10 rfl rfl (bX10_unfoldWay_0 ix_ hS ?_)
  refine Cl.vo (p_options (d := d - 1) h hS (by omega)) (by omega) (fun s1 hS1 h1 => ?_)
  refine Cl.vo (p_ways (d := d - 1) h1.1 h1.2.1 hS1 (by omega)) (by omega) (fun s2 hS2 h2 => ?_)
  have hc2 := h2.1
  have hB2 := hc2.wb h2.2.2.1
  refine Cl.vo (w_bring (d := d - 1) hc2.isk hB2 hW (hc2.wy h2.2.2.1).2.2 hx hS2 (by omega)) (by omega) (fun s3 hS3 h3 => ?_)
  obtain ⟨R, Q, hQ3, hR3, hw3, hq3, hF3⟩ := h3
  have hB3 := hB2.fr hc2.isk hF3
  have hway := hw3.way hW hx hq3
  refine Cl.i (w_unfold (d := d - 1) (x := x) hc2.isk hB3 hW hR3 hw3.rd ⟨hx.1, by omega⟩ hS3 (by omega)) (by omega) (fun r s4 hr4 hS4 h4 => ?_)
  have hU := h4.2.2.2
  have hF4 : Fr Wcl s2 s4 := hF3.trans hU.f
  have hq4 : Qf s2 s4 := Qf.of hF4 (fun c hc => by unfold Wcl at hc; omega)
  have e0 : ∀ j, sc s4 0 j = sc s2 0 j := fun j => hF4.sc 0 j (fun z => by unfold Wcl at z; omega)
  have hB4 := hB2.fr hc2.isk hF4
  have hop := hc2.op h2.2.1
  have hwa := hU.w hQ3 hR3
  have hc4 : CI s4 m mi hi := by
    refine hc2.q hq4 (hc2.kc.fr hF4 (fun c hc z => by unfold Wcl at hc; unfold Kno at z; omega)) (fun _ => ⟨?_, hB4.kn, hop.2.2.fr hF4 (fun c hc z => by unfold Wcl at hc; omega)⟩) (fun _ => ⟨by rw [e0]; exact h2.2.1, ⟨hB4.j6, hB4.j7, hB4.rs⟩, ⟨R, Q, hwa.1, hwa.2, hw3⟩⟩) (fun z => ?_)
    · rw [hq4.rv01.1]
      exact hB4.op
    · rw [e0] at z
      have hs := hc2.st z
      exact ⟨by rw [e0]; exact hs.1, hs.2.fr hF4 (fun c hc y => by unfold Wcl at hc; unfold Fcl at y; omega)⟩
  refine ⟨?_, re_i ⟨?_, hc4, by rw [e0]; exact h2.2.1, ⟨by rw [e0]; exact h2.2.2.1, (h1.2.2.2.2.2.trans h2.2.2.2.2.2).trans (Uf.of hF4 (fun c hc z => by unfold Wcl at hc; omega))⟩, (h1.2.2.1.trans h2.2.2.2.1).trans hq4⟩⟩
  · rw [h4.1]
    exact bi_01
  · by_cases c : x < R.length
    · obtain ⟨w, hw⟩ : ∃ w, R[x.toNat]? = some w := ⟨_, List.getElem?_eq_getElem (by omega)⟩
      exact Or.inl ⟨w, hway.1 w hw, by rw [h4.1, bi, if_pos c], h4.2.1 w hw, (hw3.rd _ w hw).1, R, hwa.2, hw⟩
    · have := h4.2.2.1 c
      exact Or.inr ⟨hway.2 c, by rw [h4.1, bi, if_neg c], this.1, this.2⟩
end CIs
