section L3A
def bi (p : Prop) [Decidable p] : Int := if p then 1 else 0
theorem bi_R {p : Prop} [Decidable p] : iR (bi p) := by unfold bi; split <;> exact iR_lit rfl
theorem bi_01 {p : Prop} [Decidable p] : bi p = 0 ∨ bi p = 1 := by unfold bi; split <;> simp
theorem bi_t {p : Prop} [Decidable p] (h : p) : bi p = 1 := if_pos h
theorem bi_f {p : Prop} [Decidable p] (h : ¬ p) : bi p = 0 := if_neg h
theorem bi_z {p : Prop} [Decidable p] : bi p = 0 ↔ ¬ p := by unfold bi; split <;> simp_all
theorem bi_n {p : Prop} [Decidable p] : ¬ bi p = 0 ↔ p := by unfold bi; split <;> simp_all
/-- behind a call that answers a boolean -/
theorem bi_nz {p : Prop} [Decidable p] {A B : Prop} (ha : p → A) (hb : ¬ p → B) : (¬ bi p = 0 → A) ∧ (bi p = 0 → B) := ⟨fun h => ha (bi_n.mp h), fun h => hb (bi_z.mp h)⟩
theorem bi_zn {p : Prop} [Decidable p] {A B : Prop} (ha : p → A) (hb : ¬ p → B) : (bi p = 0 → B) ∧ (¬ bi p = 0 → A) := ⟨fun h => hb (bi_z.mp h), fun h => ha (bi_n.mp h)⟩
/-- a method that answers v and leaves the world σ' -/
def EI (g : AG) (ad : Nat → Nat) (d : Nat) (M : AM) (as : List Value) (σ : SG) (v : Int) (σ' : SG) : Prop := Eb g ad d M 0 0 as σ (Ki fun r s => r = v ∧ s = σ')
def EV (g : AG) (ad : Nat → Nat) (d : Nat) (M : AM) (as : List Value) (σ : SG) (σ' : SG) : Prop := Eb g ad d M 0 0 as σ (Kv fun s => s = σ')
section
variable {g : AG} {ad : Nat → Nat} {d d' : Nat} {M : AM} {as : List Value} {σ σ' : SG} {v : Int} {mc ms : Nat}
theorem EI.c {K : Int → SG → Prop} (h : EI g ad d' M as σ v σ') (hd : d' + 1 ≤ d) (k : iR v → SR σ' → K v σ') : Cl g ad d M 0 0 as σ (Ki K) := by
  refine ⟨d', hd, Eb.mono h ?_⟩
  rintro o s ⟨r, e, h1, h2, rfl, rfl⟩
  exact ⟨_, e, h1, h2, k h1 h2⟩
theorem EV.c {K : SG → Prop} (h : EV g ad d' M as σ σ') (hd : d' + 1 ≤ d) (k : SR σ' → K σ') : Cl g ad d M 0 0 as σ (Kv K) := by
  refine ⟨d', hd, Eb.mono h ?_⟩
  rintro o s ⟨e, h1, rfl⟩
  exact ⟨e, h1, k h1⟩
theorem Cl.i {P K : Int → SG → Prop} (h : Eb g ad d' M mc ms as σ (Ki P)) (hd : d' + 1 ≤ d) (k : ∀ r s, iR r → SR s → P r s → K r s) : Cl g ad d M mc ms as σ (Ki K) := by
  refine ⟨d', hd, Eb.mono h ?_⟩
  rintro o s ⟨r, e, h1, h2, h3⟩
  exact ⟨r, e, h1, h2, k r s h1 h2 h3⟩
theorem Cl.v {P K : SG → Prop} (h : Eb g ad d' M mc ms as σ (Kv P)) (hd : d' + 1 ≤ d) (k : ∀ s, SR s → P s → K s) : Cl g ad d M mc ms as σ (Kv K) := by
  refine ⟨d', hd, Eb.mono h ?_⟩
  rintro o s ⟨e, h1, h3⟩
  exact ⟨e, h1, k s h1 h3⟩
theorem Cl.l {P K : Int → SG → Prop} (h : Eb g ad d' M mc ms as σ (Kl P)) (hd : d' + 1 ≤ d) (k : ∀ r s, lR r → SR s → P r s → K r s) : Cl g ad d M mc ms as σ (Kl K) := by
  refine ⟨d', hd, Eb.mono h ?_⟩
  rintro o s ⟨r, e, h1, h2, h3⟩
  exact ⟨r, e, h1, h2, k r s h1 h2 h3⟩
end
theorem re_i {P : Int → SG → Prop} {e : Int} {σ : SG} (k : P e σ) : iR e → SR σ → Ki P (.inl (some (vi e))) σ := fun h1 h2 => ⟨e, rfl, h1, h2, k⟩
theorem re_v {P : SG → Prop} {σ : SG} (k : P σ) : SR σ → Kv P (.inl none) σ := fun h2 => ⟨rfl, h2, k⟩
theorem re_l {P : Int → SG → Prop} {e : Int} {σ : SG} (k : P e σ) : lR e → SR σ → Kl P (.inl (some (vl e))) σ := fun h1 h2 => ⟨e, rfl, h1, h2, k⟩
theorem iR_of {z : Int} (h1 : -2147483648 ≤ z) (h2 : z < 2147483648) : iR z := ⟨h1, h2⟩
theorem pl_X11 : plainName RX11 = true := by decide +kernel
theorem pl_X10 : plainName RX10 = true := by decide +kernel
theorem pl_X9 : plainName RX9 = true := by decide +kernel
theorem pl_X8 : plainName RX8 = true := by decide +kernel
theorem pl_X7 : plainName RX7 = true := by decide +kernel
theorem pl_X6 : plainName RX6 = true := by decide +kernel
theorem pl_X5 : plainName RX5 = true := by decide +kernel
theorem pl_X4 : plainName RX4 = true := by decide +kernel
theorem pl_X3 : plainName RX3 = true := by decide +kernel
theorem pl_X2 : plainName RX2 = true := by decide +kernel
theorem pl_X1 : plainName RX1 = true := by decide +kernel
theorem pl_X0 : plainName RX0 = true := by decide +kernel
/-! bits -/
theorem bShl_1 {n : Int} (h0 : 0 ≤ n) (h1 : n < 31) : bShl 1 n = 2 ^ n.toNat := by
  have h : n.toNat < 31 := by omega
  have e : n = (n.toNat : Int) := by omega
  rw [e]
  generalize n.toNat = k at h
  have : ∀ k : Fin 31, bShl 1 (k.val : Int) = 2 ^ k.val := by decide
  exact this ⟨k, h⟩
end L3A
section L3B
variable {g : AG} {ad : Nat → Nat} {d : Nat} {σ : SG}
theorem e_isIn {x0 x1 x2 : Int} (h0 : iR x0) (h1 : iR x1) (h2 : iR x2) (hS : SR σ) : EI g ad d mX11_isIn [vi x0, vi x1, vi x2] σ (bi (x1 ≤ x0 ∧ x0 ≤ x2)) σ := by
  refine Eb.of rfl pl_X11 (by decide) rfl (bX11_isIn_0 h0 h1 h2 hS ⟨fun c => ?_, fun c => ⟨fun c2 => ?_, fun c2 => ?_⟩⟩)
  · exact re_i ⟨(bi_f (by omega)).symm, rfl⟩
  · exact re_i ⟨(bi_f (by omega)).symm, rfl⟩
  · exact re_i ⟨(bi_t (by omega)).symm, rfl⟩
theorem e_lesser {x0 x1 : Int} (h0 : iR x0) (h1 : iR x1) (hS : SR σ) : EI g ad d mX11_lesser [vi x0, vi x1] σ (min x0 x1) σ := by
  refine Eb.of rfl pl_X11 (by decide) rfl (bX11_lesser_0 h0 h1 hS ⟨fun c => ?_, fun c => ?_⟩)
  · exact re_i ⟨by omega, rfl⟩
  · exact re_i ⟨by omega, rfl⟩
/-- how far two places are away -/
def apB (a b : Int) : Int := if a < b then b - a else a - b
theorem e_apartBy {x0 x1 : Int} (h0 : iR x0) (h1 : iR x1) (hr : iR (apB x0 x1)) (hS : SR σ) : EI g ad d mX11_apartBy [vi x0, vi x1] σ (apB x0 x1) σ := by
  unfold apB at hr ⊢
  refine Eb.of rfl pl_X11 (by decide) rfl (bX11_apartBy_0 h0 h1 hS ⟨fun c => ?_, fun c => ?_⟩)
  · rw [if_neg (by omega)] at hr ⊢
    exact ⟨hr, re_i ⟨rfl, rfl⟩⟩
  · rw [if_pos (by omega)] at hr ⊢
    exact ⟨hr, re_i ⟨rfl, rfl⟩⟩
abbrev mm (σ : SG) : Int → Int := ia σ 103
def of_ (m : Int → Int) (p w : Int) : Int := m (369 + 10 * p + w)
theorem e_of {x1 x2 : Int} (h0 : 0 ≤ 369 + 10 * x1 + x2) (h1 : 369 + 10 * x1 + x2 < 855) (hx1 : iR x1) (hx2 : iR x2) (hS : SR σ) : EI g ad d mX11_of [.ref (ad 102), vi x1, vi x2] σ (of_ (mm σ) x1 x2) σ :=
  Eb.of rfl pl_X11 (by decide) rfl (bX11_of_0 hx1 hx2 hS ⟨⟨h0, h1⟩, re_i ⟨rfl, rfl⟩⟩)
theorem e_isWord {x1 : Int} (hx1 : iR x1) (hW : 0 ≤ mm σ 0 ∧ mm σ 0 ≤ 40) (hS : SR σ) (hd : 1 ≤ d) : EI g ad d mX11_isWord [.ref (ad 102), vi x1] σ (bi (0 ≤ x1 ∧ x1 < mm σ 0)) σ := by
  refine Eb.of rfl pl_X11 (by decide) rfl (bX11_isWord_0 hx1 hS ?_)
  refine (e_isIn (d := 0) hx1 (iR_lit rfl) (iR_of (by omega) (by omega)) hS).c hd (fun _ _ => ⟨bi_01, re_i ⟨?_, rfl⟩⟩)
  unfold bi
  congr 1
  exact propext ⟨fun h => ⟨h.1, by omega⟩, fun h => ⟨h.1, by omega⟩⟩
end L3B
