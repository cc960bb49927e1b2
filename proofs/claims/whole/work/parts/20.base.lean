-- needs: at
section L3A
def bi (p : Prop) [Decidable p] : Int := if p then 1 else 0
theorem bi_R {p : Prop} [Decidable p] : iR (bi p) := by unfold bi; split <;> exact iR_lit rfl
theorem bi_01 {p : Prop} [Decidable p] : bi p = 0 ∨ bi p = 1 := by unfold bi; split <;> simp
theorem bi_t {p : Prop} [Decidable p] (h : p) : bi p = 1 := if_pos h
theorem bi_f {p : Prop} [Decidable p] (h : ¬ p) : bi p = 0 := if_neg h
theorem bi_z {p : Prop} [Decidable p] : bi p = 0 ↔ ¬ p := by unfold bi; split <;> simp_all
theorem bi_n {p : Prop} [Decidable p] : ¬ bi p = 0 ↔ p := by unfold bi; split <;> simp_all
/-- behind a call that answers a boolean -/
theorem bi_nz {p : Prop} [Decidable p] {A B : Prop} (ha : p → A) (hb : ¬ p → B) : (¬ bi p = 0 → A) ∧ (bi p = 0 → B) := ⟨fun h => ha (bi_n.mp h), fun h => hb (bi_z.mp h)⟩
theorem bi_zn {p : Prop} [Decidable p] {A B : Prop} (ha : p → A) (hb : ¬ p → B) : (bi p = 0 → B) ∧ (¬ bi p = 0 → A) := ⟨fun h => hb (bi_z.mp h), fun h => ha (bi_n.mp h)⟩
/-- a method that answers v and leaves the world σ' -/
def EI (g : AG) (ad : Nat → Nat) (d : Nat) (M : AM) (as : List Value) (σ : SG) (v : Int) (σ' : SG) : Prop := Eb g ad d M 0 0 as σ (Ki fun r s => r = v ∧ s = σ')
def EV (g : AG) (ad : Nat → Nat) (d : Nat) (M : AM) (as : List Value) (σ : SG) (σ' : SG) : Prop := Eb g ad d M 0 0 as σ (Kv fun s => s = σ')
section
variable {g : AG} {ad : Nat → Nat} {d d' : Nat} {M : AM} {as : List Value} {σ σ' : SG} {v : Int} {mc ms : Nat}
theorem EI.c {K : Int → SG → Prop} (h : EI g ad d' M as σ v σ') (hd : d' + 1 ≤ d) (k : iR v → SR σ' → K v σ') : Cl g ad d M 0 0 as σ (Ki K) := by
  refine ⟨d', hd, Eb.mono h ?_⟩
  rintro o s ⟨r, e, h1, h2, rfl, rfl⟩
  exact ⟨_, e, h1, h2, k h1 h2⟩
theorem EV.c {K : SG → Prop} (h : EV g ad d' M as σ σ') (hd : d' + 1 ≤ d) (k : SR σ' → K σ') : Cl g ad d M 0 0 as σ (Kv K) := by
  refine ⟨d', hd, Eb.mono h ?_⟩
  rintro o s ⟨e, h1, rfl⟩
  exact ⟨e, h1, k h1⟩
theorem Cl.i {P K : Int → SG → Prop} (h : Eb g ad d' M mc ms as σ (Ki P)) (hd : d' + 1 ≤ d) (k : ∀ r s, iR r → SR s → P r s → K r s) : Cl g ad d M mc ms as σ (Ki K) := by
  refine ⟨d', hd, Eb.mono h ?_⟩
  rintro o s ⟨r, e, h1, h2, h3⟩
  exact ⟨r, e, h1, h2, k r s h1 h2 h3⟩
theorem Cl.vo {P K : SG → Prop} (h : Eb g ad d' M mc ms as σ (Kv P)) (hd : d' + 1 ≤ d) (k : ∀ s, SR s → P s → K s) : Cl g ad d M mc ms as σ (Kv K) := by
  refine ⟨d', hd, Eb.mono h ?_⟩
  rintro o s ⟨e, h1, h3⟩
  exact ⟨e, h1, k s h1 h3⟩
theorem Cl.l {P K : Int → SG → Prop} (h : Eb g ad d' M mc ms as σ (Kl P)) (hd : d' + 1 ≤ d) (k : ∀ r s, lR r → SR s → P r s → K r s) : Cl g ad d M mc ms as σ (Kl K) := by
  refine ⟨d', hd, Eb.mono h ?_⟩
  rintro o s ⟨r, e, h1, h2, h3⟩
  exact ⟨r, e, h1, h2, k r s h1 h2 h3⟩
end
theorem EbS {g : AG} {ad : Nat → Nat} {d : Nat} {M : AM} {mc ms : Nat} {as : List Value} {σ : SG} {Q : AO → SG → Prop} {L : List (Option Value)} (hh : am_h M = []) (hy : plainName (am_y M).cls = true) (hn : Nat.ble (ent as).length (am_n M) = true) (hL : entL as (am_n M) = L) (kk : Wb g ad d M Q 0 L [] σ mc ms) : Eb g ad d M mc ms as σ Q := Eb.of hh hy (Nat.le_of_ble_eq_true hn) hL kk
theorem re_i {P : Int → SG → Prop} {e : Int} {σ : SG} (k : P e σ) : iR e → SR σ → Ki P (.inl (some (vi e))) σ := fun h1 h2 => ⟨e, rfl, h1, h2, k⟩
theorem re_v {P : SG → Prop} {σ : SG} (k : P σ) : SR σ → Kv P (.inl none) σ := fun h2 => ⟨rfl, h2, k⟩
theorem re_l {P : Int → SG → Prop} {e : Int} {σ : SG} (k : P e σ) : lR e → SR σ → Kl P (.inl (some (vl e))) σ := fun h1 h2 => ⟨e, rfl, h1, h2, k⟩
theorem iR_of {z : Int} (h1 : -2147483648 ≤ z) (h2 : z < 2147483648) : iR z := ⟨h1, h2⟩
theorem pl_X11 : plainName RX11 = true := by decide +kernel
theorem pl_X10 : plainName RX10 = true := by decide +kernel
theorem pl_X9 : plainName RX9 = true := by decide +kernel
theorem pl_X8 : plainName RX8 = true := by decide +kernel
theorem pl_X7 : plainName RX7 = true := by decide +kernel
theorem pl_X6 : plainName RX6 = true := by decide +kernel
theorem pl_X5 : plainName RX5 = true := by decide +kernel
theorem pl_X4 : plainName RX4 = true := by decide +kernel
theorem pl_X3 : plainName RX3 = true := by decide +kernel
theorem pl_X2 : plainName RX2 = true := by decide +kernel
theorem pl_X1 : plainName RX1 = true := by decide +kernel
theorem pl_X0 : plainName RX0 = true := by decide +kernel
/-! bits -/
theorem bShl_1 {n : Int} (h0 : 0 ≤ n) (h1 : n < 31) : bShl 1 n = 2 ^ n.toNat := by
  have h : n.toNat < 31 := by omega
  have e : n = (n.toNat : Int) := by omega
  rw [e]
  generalize n.toNat = k at h
  have : ∀ k : Fin 31, bShl 1 (k.val : Int) = 2 ^ k.val := by decide
  exact this ⟨k, h⟩
end L3A
section L3B
variable {g : AG} {ad : Nat → Nat} {d : Nat} {σ : SG}
theorem e_isIn {x0 x1 x2 : Int} (h0 : iR x0) (h1 : iR x1) (h2 : iR x2) (hS : SR σ) : EI g ad d mX11_isIn [vi x0, vi x1, vi x2] σ (bi (x1 ≤ x0 ∧ x0 ≤ x2)) σ := by
  refine EbS rfl pl_X11 rfl rfl (bX11_isIn_0 h0 h1 h2 hS ⟨fun c => ?_, fun c => ⟨fun c2 => ?_, fun c2 => ?_⟩⟩)
  · exact re_i ⟨(bi_f (by omega)).symm, rfl⟩
  · exact re_i ⟨(bi_f (by omega)).symm, rfl⟩
  · exact re_i ⟨(bi_t (by omega)).symm, rfl⟩
theorem e_lesser {x0 x1 : Int} (h0 : iR x0) (h1 : iR x1) (hS : SR σ) : EI g ad d mX11_lesser [vi x0, vi x1] σ (min x0 x1) σ := by
  refine EbS rfl pl_X11 rfl rfl (bX11_lesser_0 h0 h1 hS ⟨fun c => ?_, fun c => ?_⟩)
  · exact re_i ⟨by omega, rfl⟩
  · exact re_i ⟨by omega, rfl⟩
/-- how far two places are away -/
def apB (a b : Int) : Int := if a < b then b - a else a - b
theorem e_apartBy {x0 x1 : Int} (h0 : iR x0) (h1 : iR x1) (hr : iR (apB x0 x1)) (hS : SR σ) : EI g ad d mX11_apartBy [vi x0, vi x1] σ (apB x0 x1) σ := by
  unfold apB at hr ⊢
  refine EbS rfl pl_X11 rfl rfl (bX11_apartBy_0 h0 h1 hS ⟨fun c => ?_, fun c => ?_⟩)
  · rw [if_neg (by omega)] at hr ⊢
    exact ⟨hr, re_i ⟨rfl, rfl⟩⟩
  · rw [if_pos (by omega)] at hr ⊢
    exact ⟨hr, re_i ⟨rfl, rfl⟩⟩
def of_ (m : Int → Int) (p w : Int) : Int := m (369 + 10 * p + w)
theorem e_of {x1 x2 : Int} (h0 : 0 ≤ 369 + 10 * x1 + x2) (h1 : 369 + 10 * x1 + x2 < 855) (hx1 : iR x1) (hx2 : iR x2) (hS : SR σ) : EI g ad d mX11_of [.ref (ad 102), vi x1, vi x2] σ (of_ (ia σ 103) x1 x2) σ :=
  EbS rfl pl_X11 rfl rfl (bX11_of_0 hx1 hx2 hS ⟨⟨h0, h1⟩, re_i ⟨rfl, rfl⟩⟩)
/-- the first k from here on, of n, for which p holds; none: -1 -/
def sea (p : Int → Bool) : Nat → Int → Int
  | 0, _ => -1
  | n + 1, k => if p k then k else sea p n (k + 1)
theorem bi_cong {p q : Prop} [Decidable p] [Decidable q] (h : p ↔ q) : bi p = bi q := by
  unfold bi
  by_cases hp : p
  · rw [if_pos hp, if_pos (h.mp hp)]
  · rw [if_neg hp, if_neg (fun z => hp (h.mpr z))]
/-- the numbers at the head of the reference's row are within their bounds -/
def W0 (m : Int → Int) : Prop := (0 ≤ m 0 ∧ m 0 ≤ 40) ∧ (0 ≤ m 1 ∧ m 1 ≤ 30) ∧ (0 ≤ m 2 ∧ m 2 ≤ 60) ∧ (0 ≤ m 3 ∧ m 3 ≤ 6) ∧ (0 ≤ m 4 ∧ m 4 ≤ 99) ∧ (0 ≤ m 5 ∧ m 5 ≤ 99) ∧ (0 ≤ m 6 ∧ m 6 ≤ 20) ∧ (0 ≤ m 7 ∧ m 7 ≤ 6) ∧ (1 ≤ m 8 ∧ m 8 ≤ 40)
/-- the phrases, the pairs, the sentence -/
def W1 (m : Int → Int) : Prop := ∀ p, 0 ≤ p → p < m 1 → (1 ≤ of_ m p 0 ∧ of_ m p 0 ≤ 3) ∧ (0 ≤ of_ m p 4 ∧ of_ m p 4 ≤ 3) ∧ (0 ≤ of_ m p 8 ∧ of_ m p 8 ≤ 99) ∧ (of_ m p 9 = 0 ∨ of_ m p 9 = 1) ∧ (∀ k, 0 ≤ k → k < of_ m p 0 → 0 ≤ of_ m p (1 + k) ∧ of_ m p (1 + k) < m 0) ∧ (∀ k, 0 ≤ k → k < of_ m p 4 → 0 ≤ of_ m p (5 + k) ∧ of_ m p (5 + k) < m 0)
def W2 (m : Int → Int) : Prop := ∀ k, 0 ≤ k → k < m 2 → (-1 ≤ m (669 + 3 * k) ∧ m (669 + 3 * k) < m 0) ∧ (-1 ≤ m (669 + 3 * k + 1) ∧ m (669 + 3 * k + 1) < m 0) ∧ (0 ≤ m (669 + 3 * k + 2) ∧ m (669 + 3 * k + 2) ≤ 99)
def W3 (m : Int → Int) : Prop := ∀ k, 0 ≤ k → k < m 3 → 0 ≤ m (849 + k) ∧ m (849 + k) < m 0
def WF (m : Int → Int) : Prop := W0 m ∧ W1 m ∧ W2 m ∧ W3 m
theorem e_isWord {x1 : Int} (hx1 : iR x1) (hW : W0 (ia σ 103)) (hS : SR σ) (hd : 1 ≤ d) : EI g ad d mX11_isWord [.ref (ad 102), vi x1] σ (bi (0 ≤ x1 ∧ x1 < ia σ 103 0)) σ := by
  have h0 := hW.1
  refine EbS rfl pl_X11 rfl rfl (bX11_isWord_0 hx1 hS ?_)
  refine (e_isIn (d := 0) hx1 (iR_lit rfl) (iR_of (by omega) (by omega)) hS).c hd (fun _ _ => ⟨bi_01, re_i ⟨bi_cong (by omega), rfl⟩⟩)
theorem e_isPhrase {x1 : Int} (hx1 : iR x1) (hW : W0 (ia σ 103)) (hS : SR σ) (hd : 1 ≤ d) : EI g ad d mX11_isPhrase [.ref (ad 102), vi x1] σ (bi (0 ≤ x1 ∧ x1 < ia σ 103 1)) σ := by
  have h0 := hW.2.1
  refine EbS rfl pl_X11 rfl rfl (bX11_isPhrase_0 hx1 hS ?_)
  refine (e_isIn (d := 0) hx1 (iR_lit rfl) (iR_of (by omega) (by omega)) hS).c hd (fun _ _ => ⟨bi_01, re_i ⟨bi_cong (by omega), rfl⟩⟩)
theorem e_isPlace {x1 : Int} (hx1 : iR x1) (hW : W0 (ia σ 103)) (hS : SR σ) (hd : 1 ≤ d) : EI g ad d mX11_isPlace [.ref (ad 102), vi x1] σ (bi (0 ≤ x1 ∧ x1 < ia σ 103 3)) σ := by
  have h0 := hW.2.2.2.1
  refine EbS rfl pl_X11 rfl rfl (bX11_isPlace_0 hx1 hS ?_)
  refine (e_isIn (d := 0) hx1 (iR_lit rfl) (iR_of (by omega) (by omega)) hS).c hd (fun _ _ => ⟨bi_01, re_i ⟨bi_cong (by omega), rfl⟩⟩)
theorem e_key {x0 x1 x2 : Int} (h0 : 0 ≤ x0 ∧ x0 ≤ 63) (h1 : 0 ≤ x1 ∧ x1 ≤ 6) (h2 : -1 ≤ x2 ∧ x2 ≤ 40) (hS : SR σ) : EI g ad d mX11_key [vi x0, vi x1, vi x2] σ ((x0 * 7 + x1) * 42 + x2 + 1) σ :=
  EbS rfl pl_X11 rfl rfl (bX11_key_0 (iR_of (by omega) (by omega)) (iR_of (by omega) (by omega)) (iR_of (by omega) (by omega)) hS ⟨iR_of (by omega) (by omega), re_i ⟨rfl, rfl⟩⟩)
/-- all places as a set -/
def fullM (m : Int → Int) : Int := 2 ^ (m 3).toNat - 1
theorem fullM_b {m : Int → Int} (hW : W0 m) : 0 ≤ fullM m ∧ fullM m ≤ 63 := by
  have h0 := hW.2.2.2.1
  have h : (m 3).toNat < 7 := by omega
  unfold fullM
  generalize (m 3).toNat = k at h
  have : ∀ k : Fin 7, (0 : Int) ≤ 2 ^ k.val - 1 ∧ (2 : Int) ^ k.val - 1 ≤ 63 := by decide
  exact this ⟨k, h⟩
theorem e_full (hW : W0 (ia σ 103)) (hS : SR σ) : EI g ad d mX11_full [.ref (ad 102)] σ (fullM (ia σ 103)) σ := by
  have h0 := hW.2.2.2.1
  have hb := fullM_b hW
  have e : bShl 1 (ia σ 103 3) - 1 = fullM (ia σ 103) := by
    rw [bShl_1 h0.1 (by omega)]
    rfl
  refine EbS rfl pl_X11 rfl rfl (bX11_full_0 hS ?_)
  rw [e]
  exact ⟨iR_of (by omega) (by omega), re_i ⟨rfl, rfl⟩⟩
/-- the option behind one -/
def nxt (m : Int → Int) (o : Int) : Int := if o + 1 < m 1 then o + 1 else if o + 1 ≤ 99 then 99 else 100
theorem e_next {x1 : Int} (h1 : -1 ≤ x1 ∧ x1 ≤ 99) (hW : W0 (ia σ 103)) (hS : SR σ) : EI g ad d mX11_next [.ref (ad 102), vi x1] σ (nxt (ia σ 103) x1) σ := by
  have h0 := hW.2.1
  have hn : iR (x1 + 1) := iR_of (by omega) (by omega)
  refine EbS rfl pl_X11 rfl rfl (bX11_next_0 (iR_of (by omega) (by omega)) hS ⟨hn, fun c => ⟨fun c2 => ?_, fun c2 => ?_⟩, fun c => ?_⟩)
  · exact re_i ⟨by unfold nxt; rw [if_neg (by omega), if_neg (by omega)], rfl⟩
  · exact re_i ⟨by unfold nxt; rw [if_neg (by omega), if_pos (by omega)], rfl⟩
  · exact re_i ⟨by unfold nxt; rw [if_pos (by omega)], rfl⟩
def cov (m : Int → Int) (o : Int) : Int := if o = 99 then 1 else of_ m o 0
theorem e_covers {x1 : Int} (h1 : x1 = 99 ∨ 0 ≤ x1 ∧ x1 < ia σ 103 1) (hW : W0 (ia σ 103)) (hS : SR σ) (hd : 1 ≤ d) : EI g ad d mX11_covers [.ref (ad 102), vi x1] σ (cov (ia σ 103) x1) σ := by
  have h0 := hW.2.1
  have hr : iR x1 := iR_of (by omega) (by omega)
  refine EbS rfl pl_X11 rfl rfl (bX11_covers_0 hr hS ⟨fun c => ?_, fun c => ?_⟩)
  · refine (e_of (d := 0) (by omega) (by omega) hr (iR_lit rfl) hS).c hd (fun _ _ => re_i ⟨by unfold cov; rw [if_neg c], rfl⟩)
  · exact re_i ⟨by unfold cov; rw [if_pos c], rfl⟩
def tgN (m : Int → Int) (o : Int) : Int := if o = 99 then 1 else of_ m o 4
theorem e_targetMany {x1 : Int} (h1 : x1 = 99 ∨ 0 ≤ x1 ∧ x1 < ia σ 103 1) (hW : W0 (ia σ 103)) (hS : SR σ) (hd : 1 ≤ d) : EI g ad d mX11_targetMany [.ref (ad 102), vi x1] σ (tgN (ia σ 103) x1) σ := by
  have h0 := hW.2.1
  have hr : iR x1 := iR_of (by omega) (by omega)
  refine EbS rfl pl_X11 rfl rfl (bX11_targetMany_0 hr hS ⟨fun c => ?_, fun c => ?_⟩)
  · refine (e_of (d := 0) (by omega) (by omega) hr (iR_lit rfl) hS).c hd (fun _ _ => re_i ⟨by unfold tgN; rw [if_neg c], rfl⟩)
  · exact re_i ⟨by unfold tgN; rw [if_pos c], rfl⟩
def tgt (m : Int → Int) (o s k : Int) : Int := if o = 99 then m (849 + s) else of_ m o (5 + k)
theorem e_targetOf {x1 x2 x3 : Int} (h1 : x1 = 99 ∨ 0 ≤ x1 ∧ x1 < ia σ 103 1) (h2 : 0 ≤ x2 ∧ x2 < 6) (h3 : 0 ≤ x3 ∧ x3 < 3) (hW : W0 (ia σ 103)) (hS : SR σ) (hd : 1 ≤ d) : EI g ad d mX11_targetOf [.ref (ad 102), vi x1, vi x2, vi x3] σ (tgt (ia σ 103) x1 x2 x3) σ := by
  have h0 := hW.2.1
  have hr : iR x1 := iR_of (by omega) (by omega)
  refine EbS rfl pl_X11 rfl rfl (bX11_targetOf_0 hr (iR_of (by omega) (by omega)) (iR_of (by omega) (by omega)) hS ⟨fun c => ?_, fun c => ?_⟩)
  · refine (e_of (d := 0) (by omega) (by omega) hr (iR_of (by omega) (by omega)) hS).c hd (fun _ _ => re_i ⟨by unfold tgt; rw [if_neg c], rfl⟩)
  · exact ⟨⟨by omega, by omega⟩, re_i ⟨by unfold tgt; rw [if_pos c], rfl⟩⟩
/-- the pair of two words -/
def pairP (m : Int → Int) (a b : Int) : Int → Bool := fun k => decide (m (669 + 3 * k) = a) && decide (m (669 + 3 * k + 1) = b)
def pairOf (m : Int → Int) (a b : Int) : Int := sea (pairP m a b) (m 2).toNat 0
theorem e_pairOf {x1 x2 : Int} (h1 : iR x1) (h2 : iR x2) (hW : W0 (ia σ 103)) (hS : SR σ) : EI g ad d mX11_pairOf [.ref (ad 102), vi x1, vi x2] σ (pairOf (ia σ 103) x1 x2) σ := by
  have h0 := hW.2.2.1
  refine EbS rfl pl_X11 rfl rfl (bX11_pairOf_0 h1 h2 hS ?_)
  intro _ _ _ _
  have key : ∀ (n : Nat) (k : Int), 0 ≤ k → k + n = ia σ 103 2 → Wb g ad d mX11_pairOf (Ki fun r s => r = sea (pairP (ia σ 103) x1 x2) n k ∧ s = σ) 2 [some (.ref (ad 102)), some (vi x1), some (vi x2), some (vi k)] [] σ 0 0 := by
    intro n
    induction n with
    | zero =>
      intro k hk0 hk
      refine bX11_pairOf_2 h1 h2 (iR_of (by omega) (by omega)) hS ⟨fun _ => re_i ⟨rfl, rfl⟩, fun c => absurd (by omega) c⟩
    | succ n ih =>
      intro k hk0 hk
      have hi : iR (k + 1) := iR_of (by omega) (by omega)
      refine bX11_pairOf_2 h1 h2 (iR_of (by omega) (by omega)) hS ⟨fun c => absurd c (by omega), fun _ => ⟨⟨by omega, by omega⟩, fun c => ⟨hi, fun _ _ _ _ => ?_⟩, fun c => ⟨⟨by omega, by omega⟩, fun c2 => ⟨hi, fun _ _ _ _ => ?_⟩, fun c2 => re_i ⟨?_, rfl⟩⟩⟩⟩
      · have e : sea (pairP (ia σ 103) x1 x2) (n + 1) k = sea (pairP (ia σ 103) x1 x2) n (k + 1) := by
          rw [sea, if_neg]
          simp [pairP, c]
        rw [e]
        exact ih (k + 1) (by omega) (by omega)
      · have e : sea (pairP (ia σ 103) x1 x2) (n + 1) k = sea (pairP (ia σ 103) x1 x2) n (k + 1) := by
          rw [sea, if_neg]
          simp [pairP, c2]
        rw [e]
        exact ih (k + 1) (by omega) (by omega)
      · rw [sea, if_pos]
        simp [pairP, c, c2]
  exact key (ia σ 103 2).toNat 0 (by omega) (by omega)
end L3B
