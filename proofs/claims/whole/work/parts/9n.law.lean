/-- the class and the reference, side by side -/
def LJ (s : SG) (m k : Int → Int) (h : Int) (tp : Int → Int) (tn f : Int) : Prop := (PS s m k h tp tn f) ∧ (CI s m k h) ∧ (TP s tp tn f) ∧ (∀ j, 0 ≤ tp j ∧ tp j ≤ 255) ∧ (0 ≤ tn ∧ tn ≤ 400) ∧ (ZR 855 k)
theorem LJ.ps {s : SG} {m k : Int → Int} {h : Int} {tp : Int → Int} {tn f : Int} (h_ : LJ s m k h tp tn f) : PS s m k h tp tn f := h_.1
theorem LJ.ci {s : SG} {m k : Int → Int} {h : Int} {tp : Int → Int} {tn f : Int} (h_ : LJ s m k h tp tn f) : CI s m k h := h_.2.1
theorem LJ.tp_ {s : SG} {m k : Int → Int} {h : Int} {tp : Int → Int} {tn f : Int} (h_ : LJ s m k h tp tn f) : TP s tp tn f := h_.2.2.1
theorem LJ.tb {s : SG} {m k : Int → Int} {h : Int} {tp : Int → Int} {tn f : Int} (h_ : LJ s m k h tp tn f) : ∀ j, 0 ≤ tp j ∧ tp j ≤ 255 := h_.2.2.2.1
theorem LJ.te {s : SG} {m k : Int → Int} {h : Int} {tp : Int → Int} {tn f : Int} (h_ : LJ s m k h tp tn f) : 0 ≤ tn ∧ tn ≤ 400 := h_.2.2.2.2.1
theorem LJ.zk {s : SG} {m k : Int → Int} {h : Int} {tp : Int → Int} {tn f : Int} (h_ : LJ s m k h tp tn f) : ZR 855 k := h_.2.2.2.2.2
section LAW
variable {g : AG} {ad : Nat → Nat} {d : Nat} {σ : SG} {m m1 k tp : Int → Int} {h tn f : Int}
def LE (s : SG) : Prop := ∃ m k h tp tn f, LJ s m k h tp tn f
theorem pl_L : plainName R_law = true := by decide +kernel
theorem CI.kr {s : SG} {mi : Int → Int} {hi : Int} {C : Nat → Prop} (h : CI σ m mi hi) (hF : Fr C σ s) (hC : ∀ c, C c → 102 ≤ c) : CI s m mi hi := by
  have e : ∀ j, sc s 0 j = sc σ 0 j := fun j => hF.sc 0 j (fun z => by have := hC 0 z; omega)
  have er : rv s = rv σ := hF.1
  have hkb := isK_b h.isk
  refine ⟨by rw [er]; exact h.kn, h.gm, ?_, by rw [e]; exact h.hi_, fun z => ⟨(h.im z).1.fr hF (fun c hc y => by unfold Kcl at hc; have := hC c y; omega), (h.im z).2⟩, h.kc.fr hF (fun c hc y => by unfold Kno at y; have := hC c hc; omega), fun z => ?_, fun z => ?_, fun z => ?_⟩
  · rw [er]
    exact h.rk.fr hF (fun c hc y => by unfold Kcl at hc; have := hC c y; omega)
  · rw [e] at z
    have hop := h.op z
    rw [er]
    exact ⟨hop.1.fr hF (fun c hc y => by unfold Ocl at y; have := hC c hc; omega), hop.2.1.fr hF (fun c hc y => by unfold Kno at y; have := hC c hc; omega), hop.2.2.fr hF (fun c hc y => by have := hC c hc; omega)⟩
  · rw [e] at z
    have hw := h.wy z
    refine ⟨by rw [e]; exact hw.1, ⟨?_, ?_, hw.2.1.2.2.fr hF (fun c hc y => by have := hC c hc; unfold Kno at y; omega)⟩, hw.2.2.fr hF (fun c hc => ⟨fun y => by have := hC c hc; unfold Wcl at y; omega, fun y => by have := hC c hc; unfold Kno at y; omega⟩)⟩
    · rw [hF.sc 58 6 (fun y => by have := hC 58 y; omega)]
      exact hw.2.1.1
    · rw [hF.sc 58 7 (fun y => by have := hC 58 y; omega)]
      exact hw.2.1.2.1
  · rw [e] at z
    have hs := h.st z
    exact ⟨by rw [e]; exact hs.1, hs.2.fr hF (fun c hc y => by have := hC c hc; unfold Fcl at y; omega)⟩
theorem Fc.fr {s : SG} (h : Fc σ s) : Fr (fun c => 102 ≤ c) σ s := ⟨h.1, fun c hc => ⟨h.2.2.1 c (Or.inl (by omega)), h.2.1 c (by omega), funext (fun j => h.2.2.2 c j (by omega))⟩⟩
/-- the reference went on: the class stands as it was -/
theorem CI.fc {s : SG} {mi : Int → Int} {hi : Int} (h : CI σ m mi hi) (hF : Fc σ s) : CI s m mi hi := h.kr hF.fr (fun c hc => hc)
theorem TP.fc {s : SG} (h : TP σ tp tn f) (hF : Fc σ s) : TP s tp tn f := ⟨(hF.fr.ia 38 (by omega)).trans h.1, (hF.fr.sc 37 1 (by omega)).trans h.2.1, (hF.fr.sc 37 2 (by omega)).trans h.2.2⟩
/-- the class went on: the reference stands as it was -/
theorem PS.cf {s : SG} (p : PS σ m k h tp tn f) (hc : Cf σ s) : PS s m k h tp tn f := by
  have e103 := (hc 103 (by omega)).1
  have e112 := (hc 112 (by omega)).1
  have esc := (hc 102 (by omega)).2.2.1
  refine ⟨by rw [e103]; exact p.m, by rw [(hc 105 (by omega)).1]; exact p.k, by rw [esc]; exact p.h, by rw [(hc 106 (by omega)).1]; exact p.tp, by rw [esc]; exact p.tn, by rw [esc]; exact p.f, ?_⟩
  have hl := p.li
  unfold LI at hl ⊢
  rw [esc, e103, e112]
  exact hl
/-- the row of answers -/
theorem PS.L {v : Int} (p : PS σ m k h tp tn f) : PS (setL σ 131 0 v) m k h tp tn f := ⟨p.m, p.k, p.h, p.tp, p.tn, p.f, p.li⟩
theorem CI.L {v : Int} {mi : Int → Int} {hi : Int} (h : CI σ m mi hi) : CI (setL σ 131 0 v) m mi hi := h.kr ((Fr.refl σ).L (C := fun c => 102 ≤ c) (by show 102 ≤ 131; omega)) (fun c hc => hc)
theorem TP.L {v : Int} (h : TP σ tp tn f) : TP (setL σ 131 0 v) tp tn f := h
theorem la131 {v : Int} : la (setL σ 131 0 v) 131 0 = v := by
  have : la (setL σ 131 0 v) 131 = up (la σ 131) 0 v := by simp (config := {decide := true}) only [sc_S, ia_S, la_S, rv_S, sc_I, rv_I, la_I, ia_I, sc_L, rv_L, ia_L, la_L, sc_A, rv_A, la_A, ia_A, sc_B, rv_B, ia_B, la_B, sc_R, ia_R, la_R, rv_R, ia_w, la_w, rv_w, sc_w, if_true, if_false]
  rw [this, up_at]
theorem lCmp_self {a : Int} (h : lR a) : lCmp a a = 0 := by
  rw [lCmp_eq h h, if_neg (by omega), if_pos rfl]
/-- the tail: what was thrown, and the answers -/
theorem tail {cont bad : SG → Prop} {r v : Int} (h0 : sc σ 102 0 = r) (h1 : r = 0 → la σ 131 0 = v) (hS : SR σ) (hd : 1 ≤ d) (hc : cont σ) : Cl g ad d mX11_thrown 0 0 [.ref (ad 102)] σ (Ki fun r3 s3 => ((r3 = r → ((¬ r = 0 → cont s3) ∧ (r = 0 → (((lCmp (la s3 131 0) v) = 0 → cont s3) ∧ (¬ (lCmp (la s3 131 0) v) = 0 → bad s3))))) ∧ (¬ r3 = r → bad s3))) := by
  refine EI.k (e_thrown (d := d - 1) hS) (by omega) (fun _ _ => ?_)
  rw [h0]
  refine ⟨fun _ => ⟨fun _ => hc, fun z => ⟨fun _ => hc, fun y => absurd ?_ y⟩⟩, fun y => absurd rfl y⟩
  rw [← h1 z]
  exact lCmp_self (SR_la hS 131 0)
/-- a call with what it may throw: the class by ML, the reference by MX -/
theorem law_w {ML MX : AM} {mc ms d1 : Nat} {as bs : List Value} {P : Int → SG → Prop} {cont bad : SG → Prop} {X : String → SG → Prop} (hw : Eb g ad d1 ML mc ms as σ (Kx (Ki P) (fun _ _ => False))) (hd1 : d1 + 1 ≤ d) (hd : 1 ≤ d) (hr : ∀ r s, SR s → P r s → Eb g ad (d - 1) MX 0 0 bs s (Ki fun v u => sc u 102 0 = r ∧ (r = 0 → la u 131 0 = v) ∧ LE u)) (hc : ∀ s, SR s → LE s → cont s) : Cl g ad d ML mc ms as σ (Kx (Ki fun r1 s1 => Cl g ad d MX 0 0 bs s1 (Ki fun r2 s2 => Cl g ad d mX11_thrown 0 0 [.ref (ad 102)] s2 (Ki fun r3 s3 => ((r3 = r1 → ((¬ r1 = 0 → cont s3) ∧ (r1 = 0 → (((lCmp (la s3 131 0) r2) = 0 → cont s3) ∧ (¬ (lCmp (la s3 131 0) r2) = 0 → bad s3))))) ∧ (¬ r3 = r1 → bad s3))))) X) := by
  refine ⟨d1, hd1, Eb.mono hw ?_⟩
  rintro o s (⟨r, e, h1, h2, h3⟩ | ⟨E, _, _, z⟩)
  · refine Or.inl ⟨r, e, h1, h2, ?_⟩
    refine Cl.i (hr r s h2 h3) (by omega) (fun v u _ hSu hu => tail hu.1 hu.2.1 hSu hd (hc u hSu hu.2.2))
  · exact absurd z id
/-- what the class left, with its answer -/
def WP (t v : Int) (J : SG → Prop) : AO → SG → Prop := Kx (Ki fun r s => r = t ∧ (t = 0 → la s 131 0 = v) ∧ J s) (fun _ _ => False)
theorem wp0 {t v r : Int} {J : SG → Prop} {s : SG} (ht : t = 0) (hv : r = v) (hJ : J (setL s 131 0 r)) : iR 0 → SR (setL s 131 0 r) → WP t v J (.inl (some (vi 0))) (setL s 131 0 r) := fun i1 i2 => Or.inl ⟨0, rfl, i1, i2, ht.symm, fun _ => by rw [la131]; exact hv, hJ⟩
theorem wpx {t v x : Int} {J : SG → Prop} {s : SG} (ht : x = t) (hx : ¬ x = 0) (hJ : J s) : iR x → SR s → WP t v J (.inl (some (vi x))) s := fun i1 i2 => Or.inl ⟨x, rfl, i1, i2, ht, fun z => absurd (ht.trans z) hx, hJ⟩
/-- a question, one way to throw -/
theorem wq1 {M : AM} {mc ms d' : Nat} {as : List Value} {v t : Int} {a : String} (hE : Eb g ad d' M mc ms as σ (XC σ m k h v t (X1 a))) (hd : d' + 1 ≤ d) (hJ : LJ σ m k h tp tn f) : Cl g ad d M mc ms as σ (Kx (Ki fun r1 s1 => (iR 0 → SR (setL s1 131 0 r1) → WP t v (fun s => LJ s m k h tp tn f) (.inl (some (vi 0))) (setL s1 131 0 r1))) (fun E s1 => (E = a ∧ (iR 1 → SR s1 → WP t v (fun s => LJ s m k h tp tn f) (.inl (some (vi 1))) s1)))) := by
  refine ⟨d', hd, Eb.mono hE ?_⟩
  rintro o s (⟨r, e, h1, h2, ht, hr, hc, hq⟩ | ⟨E, e, h2, ht, hx, hc, hq⟩)
  · exact Or.inl ⟨r, e, h1, h2, wp0 ht hr ⟨(hJ.ps.cf hq.c).L, hc.L, (hJ.tp_.tf hq.tf).L, hJ.tb, hJ.te, hJ.zk⟩⟩
  · exact Or.inr ⟨E, e, h2, hx.1, wpx hx.2.symm (by decide) ⟨hJ.ps.cf hq.c, hc, hJ.tp_.tf hq.tf, hJ.tb, hJ.te, hJ.zk⟩⟩
theorem wq2 {M : AM} {mc ms d' : Nat} {as : List Value} {v t : Int} {a b : String} (hE : Eb g ad d' M mc ms as σ (XC σ m k h v t (X2 a b))) (hd : d' + 1 ≤ d) (hJ : LJ σ m k h tp tn f) : Cl g ad d M mc ms as σ (Kx (Ki fun r1 s1 => (iR 0 → SR (setL s1 131 0 r1) → WP t v (fun s => LJ s m k h tp tn f) (.inl (some (vi 0))) (setL s1 131 0 r1))) (fun E s1 => (E = a ∧ (iR 1 → SR s1 → WP t v (fun s => LJ s m k h tp tn f) (.inl (some (vi 1))) s1)) ∨ (E = b ∧ (iR 2 → SR s1 → WP t v (fun s => LJ s m k h tp tn f) (.inl (some (vi 2))) s1)))) := by
  refine ⟨d', hd, Eb.mono hE ?_⟩
  rintro o s (⟨r, e, h1, h2, ht, hr, hc, hq⟩ | ⟨E, e, h2, ht, hx, hc, hq⟩)
  · exact Or.inl ⟨r, e, h1, h2, wp0 ht hr ⟨(hJ.ps.cf hq.c).L, hc.L, (hJ.tp_.tf hq.tf).L, hJ.tb, hJ.te, hJ.zk⟩⟩
  · refine Or.inr ⟨E, e, h2, ?_⟩
    rcases hx with hx | hx
    · exact Or.inl ⟨hx.1, wpx hx.2.symm (by decide) ⟨hJ.ps.cf hq.c, hc, hJ.tp_.tf hq.tf, hJ.tb, hJ.te, hJ.zk⟩⟩
    · exact Or.inr ⟨hx.1, wpx hx.2.symm (by decide) ⟨hJ.ps.cf hq.c, hc, hJ.tp_.tf hq.tf, hJ.tb, hJ.te, hJ.zk⟩⟩
/-- the reference answers a question -/
theorem rf_q {MX : AM} {bs : List Value} {v t : Int} {d2 : Nat} (hE : ∀ s, SR s → ia s 103 = m → LI s → EQ g ad d2 MX bs s v t) : ∀ r s, SR s → (r = t ∧ (t = 0 → la s 131 0 = v) ∧ LJ s m k h tp tn f) → Eb g ad d2 MX 0 0 bs s (Ki fun w u => sc u 102 0 = r ∧ (r = 0 → la u 131 0 = w) ∧ LE u) := by
  rintro r s hSs ⟨hr, hv, hJ⟩
  refine Eb.mono ((hE s hSs hJ.ps.m hJ.ps.li).p hJ.ps) ?_
  rintro o u ⟨w, e, a1, a2, a3, a4, a5, a6⟩
  refine ⟨w, e, a1, a2, by rw [hr]; exact a4, fun z => ?_, _, _, _, _, _, _, a6, hJ.ci.fc a5, hJ.tp_.fc a5, hJ.tb, hJ.te, hJ.zk⟩
  rw [a3, a5.2.1 131 (by omega)]
  exact hv (hr.symm.trans z)
end LAW
