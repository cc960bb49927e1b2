section PAR
variable {g : AG} {ad : Nat → Nat} {d : Nat} {σ : SG} {m t : Int → Int} {e : Int}
/-! reading -/
abbrev PR (α : Type) : Type := Except Int (α × Int × (Int → Int))
abbrev PR.ok {α : Type} (a : α) (p : Int) (m : Int → Int) : PR α := Except.ok (a, p, m)
abbrev PR.bad {α : Type} (f : Int) : PR α := Except.error f
theorem PR.inj {α : Type} {a a' : α} {p p' : Int} {m m' : Int → Int} (h : PR.ok a p m = PR.ok a' p' m') : a = a' ∧ p = p' ∧ m = m' := by
  have h1 : (a, p, m) = (a', p', m') := Except.ok.inj h
  exact ⟨congrArg Prod.fst h1, congrArg (fun x => x.2.1) h1, congrArg (fun x => x.2.2) h1⟩
def PR.bind {α β : Type} : PR α → (α → Int → (Int → Int) → PR β) → PR β
  | Except.error f, _ => Except.error f
  | Except.ok (a, p, m), k => k a p m
/-- the first place from p on where b doesn't hold, or the end -/
def scnF (b : Int → Bool) (e : Int) : Nat → Int → Int
  | 0, p => p
  | n + 1, p => if p < e ∧ b p = true then scnF b e n (p + 1) else p
def scn (b : Int → Bool) (e p : Int) : Int := scnF b e (e - p).toNat p
theorem scn_eq {b : Int → Bool} {p : Int} : scn b e p = if p < e ∧ b p = true then scn b e (p + 1) else p := by
  unfold scn
  by_cases c : p < e
  · rw [show (e - p).toNat = (e - (p + 1)).toNat + 1 by omega, scnF]
  · rw [show (e - p).toNat = 0 by omega, scnF, if_neg (fun q => c q.1)]
theorem scn_b {b : Int → Bool} : ∀ (n : Nat) (p : Int), p ≤ e → (e - p).toNat ≤ n → p ≤ scn b e p ∧ scn b e p ≤ e ∧ (scn b e p < e → ¬ b (scn b e p) = true) ∧ ∀ q, p ≤ q → q < scn b e p → b q = true := by
  intro n
  induction n with
  | zero =>
    intro p hp hn
    rw [scn_eq, if_neg (by omega)]
    exact ⟨Int.le_refl _, hp, fun h => by omega, fun q h1 h2 => by omega⟩
  | succ n ih =>
    intro p hp hn
    rw [scn_eq]
    by_cases c : p < e ∧ b p = true
    · rw [if_pos c]
      have := ih (p + 1) (by omega) (by omega)
      refine ⟨by omega, this.2.1, this.2.2.1, fun q h1 h2 => ?_⟩
      by_cases e1 : q = p
      · rw [e1]; exact c.2
      · exact this.2.2.2 q (by omega) h2
    · rw [if_neg c]
      exact ⟨Int.le_refl _, hp, fun h q => c ⟨h, q⟩, fun q h1 h2 => by omega⟩
theorem scn_le {b : Int → Bool} {p : Int} (h : p ≤ e) : p ≤ scn b e p ∧ scn b e p ≤ e := by
  have := scn_b (b := b) (e - p).toNat p h (Nat.le_refl _)
  exact ⟨this.1, this.2.1⟩
theorem scn_idem {b : Int → Bool} {p : Int} (h : p ≤ e) : scn b e (scn b e p) = scn b e p := by
  have := scn_b (b := b) (e - p).toNat p h (Nat.le_refl _)
  rw [scn_eq (p := scn b e p), if_neg (fun q => this.2.2.1 q.1 q.2)]
def blk (t : Int → Int) (p : Int) : Bool := decide (t p = 32)
def ltr (t : Int → Int) (p : Int) : Bool := decide (97 ≤ t p ∧ t p ≤ 122)
def dgt (t : Int → Int) (p : Int) : Bool := decide (48 ≤ t p ∧ t p ≤ 57)
def skp (t : Int → Int) (e p : Int) : Int := scn (blk t) e p
/-! words -/
def spl (m t : Int → Int) (p n w : Int) : Bool := decide (m (9 + 9 * w) = n) && allN (fun k => decide (m (9 + 9 * w + 1 + k) = t (p + k) - 97)) n.toNat 0
def findW (m t : Int → Int) (p n : Int) : Int := sea (spl m t p n) (m 0).toNat 0
def addW (m t : Int → Int) (p n : Int) : Int → Int := up ((ir 0 8).foldl (fun f k => up f (9 + 9 * m 0 + 1 + k) (if k < n then t (p + k) - 97 else 0)) (up m (9 + 9 * m 0) n)) 0 (m 0 + 1)
def pWord (t : Int → Int) (e : Int) (new : Bool) (p : Int) (m : Int → Int) : PR Int :=
  if scn (ltr t) e p - p = 0 ∨ 8 < scn (ltr t) e p - p then .bad p
  else if ¬ findW m t p (scn (ltr t) e p - p) = -1 then .ok (findW m t p (scn (ltr t) e p - p)) (skp t e (scn (ltr t) e p)) m
  else if new = false then .ok (-2) (skp t e (scn (ltr t) e p)) m
  else if m 0 = 40 then .bad p
  else .ok (m 0) (skp t e (scn (ltr t) e p)) (addW m t p (scn (ltr t) e p - p))
def numV (t : Int → Int) (p q : Int) : Int := (ir p q).foldl (fun v k => 10 * v + t k - 48) 0
def pNum (t : Int → Int) (e : Int) (most p : Int) (m : Int → Int) : PR Int :=
  if scn (dgt t) e p - p = 0 ∨ 3 < scn (dgt t) e p - p ∨ most < numV t p (scn (dgt t) e p) then .bad p
  else .ok (numV t p (scn (dgt t) e p)) (skp t e (scn (dgt t) e p)) m
def pSign (t : Int → Int) (e : Int) (c p : Int) (m : Int → Int) : PR Unit := if p < e ∧ t p = c then .ok () (skp t e (p + 1)) m else .bad p
def pWords (t : Int → Int) (e : Int) (new : Bool) (most : Int) : Nat → List Int → Int → (Int → Int) → PR (List Int)
  | 0, _, p, _ => .bad p
  | n + 1, l, p, m => if ¬ (p < e ∧ ltr t p = true) then .ok l p m else if (l.length : Int) = most then .bad p else (pWord t e new p m).bind fun w p' m' => pWords t e new most n (l ++ [w]) p' m'
/-- words from p on -/
def pWs (t : Int → Int) (e : Int) (new : Bool) (most p : Int) (m : Int → Int) : PR (List Int) := pWords t e new most (most.toNat + 1) [] p m
/-! what the reference holds while it reads -/
def PB (t : Int → Int) (e : Int) (s : SG) : Prop := (ia s 106 = t) ∧ (∀ j, 0 ≤ t j ∧ t j ≤ 255) ∧ (sc s 102 7 = e) ∧ (0 ≤ e ∧ e ≤ 400) ∧ (0 ≤ sc s 102 8) ∧ (sc s 102 8 ≤ e) ∧ (ZR 855 (ia s 103))
theorem PB.tp {t : Int → Int} {e : Int} {s : SG} (h_ : PB t e s) : ia s 106 = t := h_.1
theorem PB.tb {t : Int → Int} {e : Int} {s : SG} (h_ : PB t e s) : ∀ j, 0 ≤ t j ∧ t j ≤ 255 := h_.2.1
theorem PB.en {t : Int → Int} {e : Int} {s : SG} (h_ : PB t e s) : sc s 102 7 = e := h_.2.2.1
theorem PB.eb {t : Int → Int} {e : Int} {s : SG} (h_ : PB t e s) : 0 ≤ e ∧ e ≤ 400 := h_.2.2.2.1
theorem PB.a0 {t : Int → Int} {e : Int} {s : SG} (h_ : PB t e s) : 0 ≤ sc s 102 8 := h_.2.2.2.2.1
theorem PB.a1 {t : Int → Int} {e : Int} {s : SG} (h_ : PB t e s) : sc s 102 8 ≤ e := h_.2.2.2.2.2.1
theorem PB.zr {t : Int → Int} {e : Int} {s : SG} (h_ : PB t e s) : ZR 855 (ia s 103) := h_.2.2.2.2.2.2
def SX {α : Type} (t : Int → Int) (e : Int) (s : SG) (x : PR α) (V : α → Prop) : Prop := PB t e s ∧ match x with
  | Except.error f => sc s 102 9 = f ∧ 0 ≤ f
  | Except.ok (a, p, m) => sc s 102 9 = -1 ∧ skp t e (sc s 102 8) = p ∧ ia s 103 = m ∧ (0 ≤ m 0 ∧ m 0 ≤ 40) ∧ V a
/-- reading goes on at p, with m -/
def SP (t : Int → Int) (e : Int) (s : SG) (p : Int) (m : Int → Int) : Prop := SX t e s (PR.ok () p m) (fun _ => True)
theorem setS_self {s : SG} {i k : Nat} : setS s i k (sc s i k) = s := by
  refine Prod.ext ?_ rfl
  funext a b
  show u2 s.1 i k (s.1 i k) a b = s.1 a b
  unfold u2
  split
  · rename_i h; rw [h.1, h.2]
  · rfl
theorem PB.at (h : PB t e σ) {v : Int} (h0 : 0 ≤ v) (h1 : v ≤ e) : PB t e (setS σ 102 8 v) := ⟨h.tp, h.tb, by simp (config := {decide := true}) only [sc_S, ia_S, la_S, rv_S, sc_I, rv_I, la_I, ia_I, sc_L, rv_L, ia_L, la_L, sc_A, rv_A, la_A, ia_A, sc_B, rv_B, ia_B, la_B, sc_R, ia_R, la_R, rv_R, ia_w, la_w, rv_w, sc_w, if_true, if_false]; exact h.en, h.eb, by simp (config := {decide := true}) only [sc_S, ia_S, la_S, rv_S, sc_I, rv_I, la_I, ia_I, sc_L, rv_L, ia_L, la_L, sc_A, rv_A, la_A, ia_A, sc_B, rv_B, ia_B, la_B, sc_R, ia_R, la_R, rv_R, ia_w, la_w, rv_w, sc_w, if_true, if_false]; exact h0, by simp (config := {decide := true}) only [sc_S, ia_S, la_S, rv_S, sc_I, rv_I, la_I, ia_I, sc_L, rv_L, ia_L, la_L, sc_A, rv_A, la_A, ia_A, sc_B, rv_B, ia_B, la_B, sc_R, ia_R, la_R, rv_R, ia_w, la_w, rv_w, sc_w, if_true, if_false]; exact h1, h.zr⟩
theorem PB.fm {A K : List Nat} {s : SG} (h : PB t e σ) (hF : Fm A K σ s) (hA : decide (106 ∈ A) = false) (hK : decide (7 ∈ K ∨ 8 ∈ K) = false) (hz : ZR 855 (ia s 103)) : PB t e s := by
  have hK' := of_decide_eq_false hK
  have e8 : sc s 102 8 = sc σ 102 8 := hF.2.2.2 102 8 (fun q => hK' (Or.inr q.2))
  exact ⟨(hF.a 106 hA).trans h.tp, h.tb, (hF.2.2.2 102 7 (fun q => hK' (Or.inl q.2))).trans h.en, h.eb, by rw [e8]; exact h.a0, by rw [e8]; exact h.a1, hz⟩
theorem e_here : ∀ (n : Nat) {σ : SG}, (e - sc σ 102 8).toNat ≤ n → PB t e σ → SR σ → EI g ad d mX11_here [.ref (ad 102)] σ (skp t e (sc σ 102 8)) (setS σ 102 8 (skp t e (sc σ 102 8))) := by
  intro n σ hn hP hS
  refine EbS rfl pl_X11 rfl rfl ?_
  have key : ∀ (n : Nat) (τ : SG), (e - sc τ 102 8).toNat ≤ n → PB t e τ → SR τ → skp t e (sc τ 102 8) = skp t e (sc σ 102 8) → setS τ 102 8 (skp t e (sc σ 102 8)) = setS σ 102 8 (skp t e (sc σ 102 8)) → Wb g ad d mX11_here (Ki fun r s => r = skp t e (sc σ 102 8) ∧ s = setS σ 102 8 (skp t e (sc σ 102 8))) 0 [some (.ref (ad 102))] [] τ 0 0 := by
    intro n
    induction n with
    | zero =>
      intro τ hn hP hS h1 h2
      have h0 := hP.a0
      have h1' := hP.a1
      have heb := hP.eb
      have hst : skp t e (sc τ 102 8) = sc τ 102 8 := by unfold skp; rw [scn_eq, if_neg (by omega)]
      have hfin : τ = setS σ 102 8 (skp t e (sc σ 102 8)) := by rw [← h2, ← h1, hst, setS_self]
      refine bX11_here_0 hS ⟨fun _ => re_i ⟨by rw [← h1, hst], hfin⟩, fun q => absurd (by rw [hP.en]; omega) q⟩
    | succ n ih =>
      intro τ hn hP hS h1 h2
      have h0 := hP.a0
      have h1' := hP.a1
      have heb := hP.eb
      have hst : skp t e (sc τ 102 8) = if sc τ 102 8 < e ∧ blk t (sc τ 102 8) = true then skp t e (sc τ 102 8 + 1) else sc τ 102 8 := scn_eq
      have fin : ¬ (sc τ 102 8 < e ∧ blk t (sc τ 102 8) = true) → sc τ 102 8 = skp t e (sc σ 102 8) ∧ τ = setS σ 102 8 (skp t e (sc σ 102 8)) := by
        intro c
        rw [if_neg c] at hst
        exact ⟨by rw [← h1, hst], by rw [← h2, ← h1, hst, setS_self]⟩
      refine bX11_here_0 hS ⟨fun c => ?_, fun c => ⟨⟨h0, by rw [hP.en] at c; omega⟩, fun c2 => ?_, fun c2 => ⟨iR_of (by omega) (by omega), fun hS' => ?_⟩⟩⟩
      · have := fin (fun q => by rw [hP.en] at c; omega)
        exact re_i this
      · rw [hP.tp] at c2
        have := fin (fun q => c2 (of_decide_eq_true q.2))
        exact re_i this
      · rw [hP.en] at c
        rw [hP.tp] at c2
        rw [if_pos ⟨by omega, decide_eq_true c2⟩] at hst
        refine ih _ (by simp (config := {decide := true}) only [sc_S, ia_S, la_S, rv_S, sc_I, rv_I, la_I, ia_I, sc_L, rv_L, ia_L, la_L, sc_A, rv_A, la_A, ia_A, sc_B, rv_B, ia_B, la_B, sc_R, ia_R, la_R, rv_R, ia_w, la_w, rv_w, sc_w, if_true, if_false]; omega) (hP.at (by omega) (by omega)) hS' ?_ ?_
        · simp (config := {decide := true}) only [sc_S, ia_S, la_S, rv_S, sc_I, rv_I, la_I, ia_I, sc_L, rv_L, ia_L, la_L, sc_A, rv_A, la_A, ia_A, sc_B, rv_B, ia_B, la_B, sc_R, ia_R, la_R, rv_R, ia_w, la_w, rv_w, sc_w, if_true, if_false]
          rw [← h1, hst]
        · rw [setS_S]; exact h2
  exact key n σ hn hP hS rfl rfl
/-- here, by the place -/
theorem w_here {p : Int} (h : SP t e σ p m) (hS : SR σ) : EI g ad d mX11_here [.ref (ad 102)] σ p (setS σ 102 8 p) := by
  have h2 : skp t e (sc σ 102 8) = p := h.2.2.1
  have := e_here (g := g) (ad := ad) (d := d) (e - sc σ 102 8).toNat (Nat.le_refl _) h.1 hS
  rw [h2] at this
  exact this
theorem SP.b {p : Int} (h : SP t e σ p m) : 0 ≤ p ∧ p ≤ e := by
  have h2 : skp t e (sc σ 102 8) = p := h.2.2.1
  have := scn_le (b := blk t) h.1.a1
  have h0 := h.1.a0
  rw [← h2]
  exact ⟨Int.le_trans h0 this.1, this.2⟩
theorem SP.at {p : Int} (h : SP t e σ p m) : SP t e (setS σ 102 8 p) p m := by
  have hb := h.b
  obtain ⟨h1, h2, h3, h4, h5, -⟩ := h
  have h3' : skp t e (sc σ 102 8) = p := h3
  refine ⟨h1.at hb.1 hb.2, by simp (config := {decide := true}) only [sc_S, ia_S, la_S, rv_S, sc_I, rv_I, la_I, ia_I, sc_L, rv_L, ia_L, la_L, sc_A, rv_A, la_A, ia_A, sc_B, rv_B, ia_B, la_B, sc_R, ia_R, la_R, rv_R, ia_w, la_w, rv_w, sc_w, if_true, if_false]; exact h2, ?_, h4, h5, trivial⟩
  simp (config := {decide := true}) only [sc_S, ia_S, la_S, rv_S, sc_I, rv_I, la_I, ia_I, sc_L, rv_L, ia_L, la_L, sc_A, rv_A, la_A, ia_A, sc_B, rv_B, ia_B, la_B, sc_R, ia_R, la_R, rv_R, ia_w, la_w, rv_w, sc_w, if_true, if_false]
  rw [← h3']
  exact scn_idem h1.a1
theorem SP.nb {p : Int} (h : SP t e σ p m) : p < e → ¬ t p = 32 := by
  have h2 : skp t e (sc σ 102 8) = p := h.2.2.1
  have := (scn_b (b := blk t) _ _ h.1.a1 (Nat.le_refl _)).2.2.1
  intro hp q
  unfold skp at h2
  rw [h2] at this
  exact this hp (decide_eq_true q)
theorem e_wrong {x1 : Int} (h1 : iR x1) (hS : SR σ) : EV g ad d mX11_wrong [.ref (ad 102), vi x1] σ (if sc σ 102 9 = -1 then setS σ 102 9 x1 else σ) := by
  refine EbS rfl pl_X11 rfl rfl (bX11_wrong_0 h1 hS ⟨fun c => re_v ?_, fun c => re_v ?_⟩)
  · rw [if_neg c]
  · rw [if_pos c]
/-- a fault is set -/
theorem SP.bad {α : Type} {p x1 : Int} {V : α → Prop} (h : SP t e σ p m) (h0 : 0 ≤ x1) : SX t e (setS σ 102 9 x1) (PR.bad x1 : PR α) V := by
  refine ⟨⟨h.1.tp, h.1.tb, by simp (config := {decide := true}) only [sc_S, ia_S, la_S, rv_S, sc_I, rv_I, la_I, ia_I, sc_L, rv_L, ia_L, la_L, sc_A, rv_A, la_A, ia_A, sc_B, rv_B, ia_B, la_B, sc_R, ia_R, la_R, rv_R, ia_w, la_w, rv_w, sc_w, if_true, if_false]; exact h.1.en, h.1.eb, by simp (config := {decide := true}) only [sc_S, ia_S, la_S, rv_S, sc_I, rv_I, la_I, ia_I, sc_L, rv_L, ia_L, la_L, sc_A, rv_A, la_A, ia_A, sc_B, rv_B, ia_B, la_B, sc_R, ia_R, la_R, rv_R, ia_w, la_w, rv_w, sc_w, if_true, if_false]; exact h.1.a0, by simp (config := {decide := true}) only [sc_S, ia_S, la_S, rv_S, sc_I, rv_I, la_I, ia_I, sc_L, rv_L, ia_L, la_L, sc_A, rv_A, la_A, ia_A, sc_B, rv_B, ia_B, la_B, sc_R, ia_R, la_R, rv_R, ia_w, la_w, rv_w, sc_w, if_true, if_false]; exact h.1.a1, h.1.zr⟩, by simp (config := {decide := true}) only [sc_S, ia_S, la_S, rv_S, sc_I, rv_I, la_I, ia_I, sc_L, rv_L, ia_L, la_L, sc_A, rv_A, la_A, ia_A, sc_B, rv_B, ia_B, la_B, sc_R, ia_R, la_R, rv_R, ia_w, la_w, rv_w, sc_w, if_true, if_false], h0⟩
theorem e_isSign {p x1 : Int} (h : SP t e σ p m) (hS : SR σ) (h1 : iR x1) (hd : 1 ≤ d) : EI g ad d mX11_isSign [.ref (ad 102), vi x1] σ (bi (p < e ∧ t p = x1)) (setS σ 102 8 p) := by
  have hb := h.b
  have heb := h.1.eb
  refine EbS rfl pl_X11 rfl rfl (bX11_isSign_0 h1 hS ?_)
  refine EI.k (w_here (d := d - 1) h hS) (by omega) (fun _ hS' => ?_)
  have ha := h.at
  rw [ha.1.en]
  simp (config := {decide := true}) only [sc_S, ia_S, la_S, rv_S, sc_I, rv_I, la_I, ia_I, sc_L, rv_L, ia_L, la_L, sc_A, rv_A, la_A, ia_A, sc_B, rv_B, ia_B, la_B, sc_R, ia_R, la_R, rv_R, ia_w, la_w, rv_w, sc_w, if_true, if_false]
  rw [h.1.tp]
  refine ⟨fun c => re_i ⟨(bi_f (by omega)).symm, rfl⟩, fun c => ⟨⟨by omega, by omega⟩, fun c2 => re_i ⟨(bi_f (fun q => c2 q.2)).symm, rfl⟩, fun c2 => re_i ⟨(bi_t ⟨by omega, c2⟩).symm, rfl⟩⟩⟩
theorem e_isLetter {p : Int} (h : SP t e σ p m) (hS : SR σ) (hd : 1 ≤ d) : EI g ad d mX11_isLetter [.ref (ad 102)] σ (bi (p < e ∧ ltr t p = true)) (setS σ 102 8 p) := by
  have hb := h.b
  have heb := h.1.eb
  refine EbS rfl pl_X11 rfl rfl (bX11_isLetter_0 hS ?_)
  refine EI.k (w_here (d := d - 1) h hS) (by omega) (fun _ hS' => ?_)
  have ha := h.at
  rw [ha.1.en]
  simp (config := {decide := true}) only [sc_S, ia_S, la_S, rv_S, sc_I, rv_I, la_I, ia_I, sc_L, rv_L, ia_L, la_L, sc_A, rv_A, la_A, ia_A, sc_B, rv_B, ia_B, la_B, sc_R, ia_R, la_R, rv_R, ia_w, la_w, rv_w, sc_w, if_true, if_false]
  rw [h.1.tp]
  have htb := h.1.tb p
  refine ⟨fun c => re_i ⟨(bi_f (by omega)).symm, rfl⟩, fun c => ⟨⟨by omega, by omega⟩, ?_⟩⟩
  refine EI.k (by apply e_isIn <;> (first | with_reducible assumption | with_reducible exact iR_of (by omega) (by omega) | omega | with_reducible (exact bi_01) | assumption)) (by omega) (fun _ _ => ?_)
  refine bi_zn (fun c2 => re_i ⟨(bi_t ⟨by omega, decide_eq_true c2⟩).symm, rfl⟩) (fun c2 => re_i ⟨(bi_f (fun q => c2 (of_decide_eq_true q.2))).symm, rfl⟩)
/-- at stands behind a sign that is no blank -/
theorem SP.next {p : Int} (h : SP t e σ p m) (hp : p < e) : SP t e (setS (setS σ 102 8 p) 102 8 (p + 1)) (skp t e (p + 1)) m := by
  have hb := h.b
  obtain ⟨h1, h2, h3, h4, h5, -⟩ := h.at
  refine ⟨h1.at (by omega) (by omega), by simp (config := {decide := true}) only [sc_S, ia_S, la_S, rv_S, sc_I, rv_I, la_I, ia_I, sc_L, rv_L, ia_L, la_L, sc_A, rv_A, la_A, ia_A, sc_B, rv_B, ia_B, la_B, sc_R, ia_R, la_R, rv_R, ia_w, la_w, rv_w, sc_w, if_true, if_false]; exact h.2.1, ?_, h4, h5, trivial⟩
  simp (config := {decide := true}) only [sc_S, ia_S, la_S, rv_S, sc_I, rv_I, la_I, ia_I, sc_L, rv_L, ia_L, la_L, sc_A, rv_A, la_A, ia_A, sc_B, rv_B, ia_B, la_B, sc_R, ia_R, la_R, rv_R, ia_w, la_w, rv_w, sc_w, if_true, if_false]
theorem e_mustSign {p x1 : Int} (h : SP t e σ p m) (hS : SR σ) (h1 : iR x1) (hd : 2 ≤ d) : Eb g ad d mX11_mustSign 0 0 [.ref (ad 102), vi x1] σ (Kv fun s => SX t e s (pSign t e x1 p m) (fun _ => True) ∧ Fm [] [8, 9] σ s) := by
  have hb := h.b
  have heb := h.1.eb
  refine EbS rfl pl_X11 rfl rfl (bX11_mustSign_0 h1 hS ⟨fun _ => ?_, fun q => absurd h.2.1 q⟩)
  refine EI.k (e_isSign (d := d - 1) h hS h1 (by omega)) (by omega) (fun _ hS' => bi_zn (fun c => ?_) (fun c => ?_))
  · simp (config := {decide := true}) only [sc_S, ia_S, la_S, rv_S, sc_I, rv_I, la_I, ia_I, sc_L, rv_L, ia_L, la_L, sc_A, rv_A, la_A, ia_A, sc_B, rv_B, ia_B, la_B, sc_R, ia_R, la_R, rv_R, ia_w, la_w, rv_w, sc_w, if_true, if_false]
    refine ⟨iR_of (by omega) (by omega), re_v ⟨?_, ((Fm.refl σ).setS (by decide)).setS (by decide)⟩⟩
    unfold pSign
    rw [if_pos c]
    exact h.next c.1
  · simp (config := {decide := true}) only [sc_S, ia_S, la_S, rv_S, sc_I, rv_I, la_I, ia_I, sc_L, rv_L, ia_L, la_L, sc_A, rv_A, la_A, ia_A, sc_B, rv_B, ia_B, la_B, sc_R, ia_R, la_R, rv_R, ia_w, la_w, rv_w, sc_w, if_true, if_false]
    refine EV.k (e_wrong (d := d - 1) (iR_of (by omega) (by omega)) hS') (by omega) (fun _ => re_v ?_)
    have h9 : sc (setS σ 102 8 p) 102 9 = -1 := by simp (config := {decide := true}) only [sc_S, ia_S, la_S, rv_S, sc_I, rv_I, la_I, ia_I, sc_L, rv_L, ia_L, la_L, sc_A, rv_A, la_A, ia_A, sc_B, rv_B, ia_B, la_B, sc_R, ia_R, la_R, rv_R, ia_w, la_w, rv_w, sc_w, if_true, if_false]; exact h.2.1
    rw [if_pos h9]
    refine ⟨?_, ((Fm.refl σ).setS (by decide)).setS (by decide)⟩
    unfold pSign
    rw [if_neg c]
    exact h.at.bad hb.1
theorem e_mustSign_bad {x1 : Int} (h : ¬ sc σ 102 9 = -1) (hS : SR σ) (h1 : iR x1) : EV g ad d mX11_mustSign [.ref (ad 102), vi x1] σ σ :=
  EbS rfl pl_X11 rfl rfl (bX11_mustSign_0 h1 hS ⟨fun q => absurd q h, fun _ => re_v rfl⟩)
theorem e_isSpelt {x1 x2 x3 : Int} (em : ia σ 103 = m) (h : PB t e σ) (hS : SR σ) (h1 : 0 ≤ x1 ∧ x1 < 40) (h2 : 0 ≤ x2 ∧ x2 + x3 ≤ e) (h3 : 1 ≤ x3 ∧ x3 ≤ 8) : EI g ad d mX11_isSpelt [.ref (ad 102), vi x1, vi x2, vi x3] σ (bi (spl m t x2 x3 x1 = true)) σ := by
  have heb := h.eb
  have i1 : iR x1 := iR_of (by omega) (by omega)
  have i2 : iR x2 := iR_of (by omega) (by omega)
  have i3 : iR x3 := iR_of (by omega) (by omega)
  refine EbS rfl pl_X11 rfl rfl (bX11_isSpelt_0 i1 i2 i3 hS ⟨⟨by omega, by omega⟩, ?_⟩)
  rw [em]
  refine ⟨fun c => ?_, fun c => re_i ⟨(bi_f ?_).symm, rfl⟩⟩
  · intros
    have hsp : spl m t x2 x3 x1 = allN (fun k => decide (m (9 + 9 * x1 + 1 + k) = t (x2 + k) - 97)) x3.toNat 0 := by
      unfold spl
      rw [decide_eq_true c, Bool.true_and]
    rw [hsp]
    have hh := up_loop (P := fun k => allN (fun k => decide (m (9 + 9 * x1 + 1 + k) = t (x2 + k) - 97)) (x3 - k).toNat k = allN (fun k => decide (m (9 + 9 * x1 + 1 + k) = t (x2 + k) - 97)) x3.toNat 0 → aX11_isSpelt_21 g ad d (Ki fun r s => r = bi (allN (fun k => decide (m (9 + 9 * x1 + 1 + k) = t (x2 + k) - 97)) x3.toNat 0 = true) ∧ s = σ) 0 0 σ x1 x2 x3 k) (hi := x3) 0 (by omega) ?_ ?_
    · exact hh (by rw [Int.sub_zero])
    · intro hv
      refine bX11_isSpelt_21 i1 i2 i3 i3 hS ⟨fun _ => re_i ⟨(bi_t ?_).symm, rfl⟩, fun q => absurd (Int.le_refl _) q⟩
      rw [← hv, Int.sub_self]
      rfl
    · intro k hk0 hk1 ih hv
      rw [show (x3 - k).toNat = (x3 - (k + 1)).toNat + 1 by omega, allN] at hv
      have htb := h.tb (x2 + k)
      refine bX11_isSpelt_21 i1 i2 i3 (iR_of (by omega) (by omega)) hS ⟨fun q => absurd q (by omega), fun _ => ⟨⟨by omega, by omega⟩, ⟨by omega, by omega⟩, ?_⟩⟩
      rw [h.tp, em]
      refine ⟨iR_of (by omega) (by omega), fun c2 => ⟨iR_of (by omega) (by omega), fun _ _ _ _ _ => ih ?_⟩, fun c2 => re_i ⟨(bi_f ?_).symm, rfl⟩⟩
      · rw [decide_eq_true c2, Bool.true_and] at hv
        exact hv
      · rw [← hv, decide_eq_false c2]
        simp
  · unfold spl
    rw [decide_eq_false c]
    simp
theorem addW_0 {p n : Int} (h : 0 ≤ m 0) : addW m t p n 0 = m 0 + 1 := up_at
theorem e_word {p new : Int} (h : SP t e σ p m) (hn : new = 0 ∨ new = 1) (hS : SR σ) (hd : 2 ≤ d) : Eb g ad d mX11_word 0 0 [.ref (ad 102), vi new] σ (Ki fun r s => SX t e s (pWord t e (decide (new = 1)) p m) (fun w => r = w) ∧ Fm [103] [8, 9] σ s) := by
  have hb := h.b
  have heb := h.1.eb
  have in_ := iR01 hn
  have hm0 := h.2.2.2.2.1
  refine EbS rfl pl_X11 rfl rfl (bX11_word_0 in_ hS ⟨fun _ => ?_, fun q => absurd h.2.1 q⟩)
  refine EI.k (w_here (d := d - 1) h hS) (by omega) (fun ip hS' => ?_)
  intros
  have hsc := scn_b (b := ltr t) (e - p).toNat p hb.2 (Nat.le_refl _)
  generalize hq : scn (ltr t) e p = q at hsc
  -- the letters are gone through
  refine up_loop (P := fun a => ∀ τ, τ = setS σ 102 8 a → SR τ → aX11_word_15 g ad d (Ki fun r s => SX t e s (pWord t e (decide (new = 1)) p m) (fun w => r = w) ∧ Fm [103] [8, 9] σ s) 0 0 τ new p) (hi := q) p hsc.1 ?_ ?_ _ rfl hS'
  · intro τ hτ hSt
    have e8 : sc τ 102 8 = q := by rw [hτ]; simp (config := {decide := true}) only [sc_S, ia_S, la_S, rv_S, sc_I, rv_I, la_I, ia_I, sc_L, rv_L, ia_L, la_L, sc_A, rv_A, la_A, ia_A, sc_B, rv_B, ia_B, la_B, sc_R, ia_R, la_R, rv_R, ia_w, la_w, rv_w, sc_w, if_true, if_false]
    have e7 : sc τ 102 7 = e := by rw [hτ]; simp (config := {decide := true}) only [sc_S, ia_S, la_S, rv_S, sc_I, rv_I, la_I, ia_I, sc_L, rv_L, ia_L, la_L, sc_A, rv_A, la_A, ia_A, sc_B, rv_B, ia_B, la_B, sc_R, ia_R, la_R, rv_R, ia_w, la_w, rv_w, sc_w, if_true, if_false]; exact h.1.en
    have e9 : sc τ 102 9 = -1 := by rw [hτ]; simp (config := {decide := true}) only [sc_S, ia_S, la_S, rv_S, sc_I, rv_I, la_I, ia_I, sc_L, rv_L, ia_L, la_L, sc_A, rv_A, la_A, ia_A, sc_B, rv_B, ia_B, la_B, sc_R, ia_R, la_R, rv_R, ia_w, la_w, rv_w, sc_w, if_true, if_false]; exact h.2.1
    have e6 : ia τ 106 = t := by rw [hτ]; simp (config := {decide := true}) only [sc_S, ia_S, la_S, rv_S, sc_I, rv_I, la_I, ia_I, sc_L, rv_L, ia_L, la_L, sc_A, rv_A, la_A, ia_A, sc_B, rv_B, ia_B, la_B, sc_R, ia_R, la_R, rv_R, ia_w, la_w, rv_w, sc_w, if_true, if_false]; exact h.1.tp
    have e3 : ia τ 103 = m := by rw [hτ]; simp (config := {decide := true}) only [sc_S, ia_S, la_S, rv_S, sc_I, rv_I, la_I, ia_I, sc_L, rv_L, ia_L, la_L, sc_A, rv_A, la_A, ia_A, sc_B, rv_B, ia_B, la_B, sc_R, ia_R, la_R, rv_R, ia_w, la_w, rv_w, sc_w, if_true, if_false]; exact h.2.2.2.1
    have hF : Fm [103] [8, 9] σ τ := by rw [hτ]; exact (Fm.refl σ).setS (by decide)
    have hSPq : SP t e τ (skp t e q) m := by
      refine ⟨⟨e6, h.1.tb, e7, h.1.eb, by rw [e8]; omega, by rw [e8]; omega, by have hz9 := h.1.zr; rw [h.2.2.2.1] at hz9; rw [e3]; exact hz9⟩, e9, by rw [e8], e3, hm0, trivial⟩
    have bad : SX t e (setS τ 102 9 p) (PR.bad p : PR Int) (fun w => (0 : Int) = w) := hSPq.bad hb.1
    -- the word is looked for
    have look : ¬ q - p = 0 → q - p ≤ 8 → aX11_word_85 g ad d (Ki fun r s => SX t e s (pWord t e (decide (new = 1)) p m) (fun w => r = w) ∧ Fm [103] [8, 9] σ s) 0 0 τ new p (q - p) 0 := by
      intro c1 c2
      have i3 : iR (q - p) := iR_of (by omega) (by omega)
      have hpw : pWord t e (decide (new = 1)) p m = if ¬ findW m t p (q - p) = -1 then .ok (findW m t p (q - p)) (skp t e q) m else if decide (new = 1) = false then .ok (-2) (skp t e q) m else if m 0 = 40 then .bad p else .ok (m 0) (skp t e q) (addW m t p (q - p)) := by
        unfold pWord
        rw [hq, if_neg (by omega)]
      have hh := up_loop (P := fun w => sea (spl m t p (q - p)) (m 0 - w).toNat w = findW m t p (q - p) → aX11_word_85 g ad d (Ki fun r s => SX t e s (pWord t e (decide (new = 1)) p m) (fun w => r = w) ∧ Fm [103] [8, 9] σ s) 0 0 τ new p (q - p) w) (hi := m 0) 0 hm0.1 ?_ ?_
      · exact hh (by rw [Int.sub_zero]; rfl)
      · intro hv
        have hnf : findW m t p (q - p) = -1 := by rw [← hv, Int.sub_self]; rfl
        rw [hpw, if_neg (by rw [hnf]; decide)]
        refine bX11_word_85 in_ ip i3 (iR_of (by omega) (by omega)) hSt ⟨fun _ => ⟨fun c3 => ?_, fun c3 => re_i ⟨?_, hF⟩⟩, fun z => absurd (by rw [e3]; omega) z⟩
        · have hn1 : new = 1 := by omega
          rw [if_neg (by simp [hn1]), e3]
          refine ⟨fun c4 => ⟨⟨by omega, by omega⟩, iR_of (by omega) (by omega), fun _ _ _ i4 _ hS4 => ?_⟩, fun c4 => ?_⟩
          · rw [if_neg c4]
            have hWr : ∀ k, 0 ≤ k → k ≤ 8 → ((ir 0 k).foldl (fun f k => up f (9 + 9 * m 0 + 1 + k) (if k < q - p then t (p + k) - 97 else 0)) (up m (9 + 9 * m 0) (q - p))) 0 = m 0 := by
              intro k hk0 hk1
              refine up_loop (P := fun j => ((ir 0 j).foldl (fun f k => up f (9 + 9 * m 0 + 1 + k) (if k < q - p then t (p + k) - 97 else 0)) (up m (9 + 9 * m 0) (q - p))) 0 = m 0 → ((ir 0 k).foldl (fun f k => up f (9 + 9 * m 0 + 1 + k) (if k < q - p then t (p + k) - 97 else 0)) (up m (9 + 9 * m 0) (q - p))) 0 = m 0) (hi := k) 0 hk0 (fun z => z) (fun j hj0 hj1 ih z => ih ?_) ?_
              · rw [ir_snoc hj0, List.foldl_append]
                show up _ (9 + 9 * m 0 + 1 + j) _ 0 = m 0
                rw [up_ne (by omega)]
                exact z
              · rw [ir_nil (Int.le_refl _)]
                show up m (9 + 9 * m 0) (q - p) 0 = m 0
                rw [up_ne (by omega)]
            refine up_loop (P := fun k => ∀ s, SR s → Fm [103] [8, 9] σ s → PB t e s → sc s 102 9 = -1 → skp t e (sc s 102 8) = skp t e q → ia s 103 = (ir 0 k).foldl (fun f k => up f (9 + 9 * m 0 + 1 + k) (if k < q - p then t (p + k) - 97 else 0)) (up m (9 + 9 * m 0) (q - p)) → aX11_word_166 g ad d (Ki fun r s => SX t e s (PR.ok (m 0) (skp t e q) (addW m t p (q - p))) (fun w => r = w) ∧ Fm [103] [8, 9] σ s) 0 0 s new p (q - p) (9 + 9 * m 0) k) (hi := 8) 0 (by omega) ?_ ?_ _ hS4 (hF.setI (by decide)) (hSPq.1.fm ((Fm.refl τ).setI (A := [103]) (K := []) (by decide)) rfl rfl (by rw [ia_setI]; exact hSPq.1.zr.up ⟨by omega, by omega⟩)) (by simp (config := {decide := true}) only [sc_S, ia_S, la_S, rv_S, sc_I, rv_I, la_I, ia_I, sc_L, rv_L, ia_L, la_L, sc_A, rv_A, la_A, ia_A, sc_B, rv_B, ia_B, la_B, sc_R, ia_R, la_R, rv_R, ia_w, la_w, rv_w, sc_w, if_true, if_false]; exact e9) (by simp (config := {decide := true}) only [sc_S, ia_S, la_S, rv_S, sc_I, rv_I, la_I, ia_I, sc_L, rv_L, ia_L, la_L, sc_A, rv_A, la_A, ia_A, sc_B, rv_B, ia_B, la_B, sc_R, ia_R, la_R, rv_R, ia_w, la_w, rv_w, sc_w, if_true, if_false]; rw [e8]) (by simp (config := {decide := true}) only [sc_S, ia_S, la_S, rv_S, sc_I, rv_I, la_I, ia_I, sc_L, rv_L, ia_L, la_L, sc_A, rv_A, la_A, ia_A, sc_B, rv_B, ia_B, la_B, sc_R, ia_R, la_R, rv_R, ia_w, la_w, rv_w, sc_w, if_true, if_false]; rw [e3]; rfl)
            · intro s hSs hFs hPs h9s h8s h3s
              have h0s := hWr 8 (by omega) (by omega)
              have e0s : ia s 103 0 = m 0 := by rw [h3s]; exact h0s
              refine bX11_word_166 in_ ip i3 i4 (iR_lit rfl) hSs ⟨fun _ => ?_, fun z => absurd (by decide) z⟩
              rw [e0s]
              simp (config := {decide := true}) only [sc_S, ia_S, la_S, rv_S, sc_I, rv_I, la_I, ia_I, sc_L, rv_L, ia_L, la_L, sc_A, rv_A, la_A, ia_A, sc_B, rv_B, ia_B, la_B, sc_R, ia_R, la_R, rv_R, ia_w, la_w, rv_w, sc_w, if_true, if_false]
              rw [up_at]
              refine ⟨iR_of (by omega) (by omega), iR_of (by omega) (by omega), re_i ⟨⟨hPs.fm ((Fm.refl s).setI (A := [103]) (K := []) (by decide)) rfl rfl (by rw [ia_setI]; exact hPs.zr.up ⟨by omega, by omega⟩), by simp (config := {decide := true}) only [sc_S, ia_S, la_S, rv_S, sc_I, rv_I, la_I, ia_I, sc_L, rv_L, ia_L, la_L, sc_A, rv_A, la_A, ia_A, sc_B, rv_B, ia_B, la_B, sc_R, ia_R, la_R, rv_R, ia_w, la_w, rv_w, sc_w, if_true, if_false]; exact h9s, by simp (config := {decide := true}) only [sc_S, ia_S, la_S, rv_S, sc_I, rv_I, la_I, ia_I, sc_L, rv_L, ia_L, la_L, sc_A, rv_A, la_A, ia_A, sc_B, rv_B, ia_B, la_B, sc_R, ia_R, la_R, rv_R, ia_w, la_w, rv_w, sc_w, if_true, if_false]; exact h8s, ?_, ?_, by omega⟩, hFs.setI (by decide)⟩⟩
              · simp (config := {decide := true}) only [sc_S, ia_S, la_S, rv_S, sc_I, rv_I, la_I, ia_I, sc_L, rv_L, ia_L, la_L, sc_A, rv_A, la_A, ia_A, sc_B, rv_B, ia_B, la_B, sc_R, ia_R, la_R, rv_R, ia_w, la_w, rv_w, sc_w, if_true, if_false]
                rw [h3s]
                rfl
              · rw [addW_0 hm0.1]
                omega
            · intro k hk0 hk1 ihk s hSs hFs hPs h9s h8s h3s
              have htb := hPs.tb (p + k)
              have step : ∀ v, v = (if k < q - p then t (p + k) - 97 else 0) → SR (setI s 103 (9 + 9 * m 0 + 1 + k) v) → aX11_word_166 g ad d (Ki fun r s => SX t e s (PR.ok (m 0) (skp t e q) (addW m t p (q - p))) (fun w => r = w) ∧ Fm [103] [8, 9] σ s) 0 0 (setI s 103 (9 + 9 * m 0 + 1 + k) v) new p (q - p) (9 + 9 * m 0) (k + 1) := by
                intro v hv hS5
                refine ihk _ hS5 (hFs.setI (by decide)) (hPs.fm ((Fm.refl s).setI (A := [103]) (K := []) (by decide)) rfl rfl (by rw [ia_setI]; exact hPs.zr.up ⟨by omega, by omega⟩)) (by simp (config := {decide := true}) only [sc_S, ia_S, la_S, rv_S, sc_I, rv_I, la_I, ia_I, sc_L, rv_L, ia_L, la_L, sc_A, rv_A, la_A, ia_A, sc_B, rv_B, ia_B, la_B, sc_R, ia_R, la_R, rv_R, ia_w, la_w, rv_w, sc_w, if_true, if_false]; exact h9s) (by simp (config := {decide := true}) only [sc_S, ia_S, la_S, rv_S, sc_I, rv_I, la_I, ia_I, sc_L, rv_L, ia_L, la_L, sc_A, rv_A, la_A, ia_A, sc_B, rv_B, ia_B, la_B, sc_R, ia_R, la_R, rv_R, ia_w, la_w, rv_w, sc_w, if_true, if_false]; exact h8s) ?_
                simp (config := {decide := true}) only [sc_S, ia_S, la_S, rv_S, sc_I, rv_I, la_I, ia_I, sc_L, rv_L, ia_L, la_L, sc_A, rv_A, la_A, ia_A, sc_B, rv_B, ia_B, la_B, sc_R, ia_R, la_R, rv_R, ia_w, la_w, rv_w, sc_w, if_true, if_false]
                rw [h3s, ir_snoc hk0, List.foldl_append, hv]
                rfl
              refine bX11_word_166 in_ ip i3 i4 (iR_of (by omega) (by omega)) hSs ⟨fun z => absurd z (by omega), fun _ => ⟨fun c5 => ⟨⟨by omega, by omega⟩, iR_of (by omega) (by omega), fun _ _ _ _ _ hS5 => step 0 (by rw [if_neg (by omega)]) hS5⟩, fun c5 => ⟨⟨by omega, by omega⟩, ⟨by omega, by omega⟩, ?_⟩⟩⟩
              rw [hPs.tp]
              exact ⟨iR_of (by omega) (by omega), iR_of (by omega) (by omega), fun _ _ _ _ _ hS5 => step _ (by rw [if_pos (by omega)]) hS5⟩
          · rw [if_pos c4]
            refine EV.k (e_wrong (d := d - 1) ip hSt) (by omega) (fun _ => re_i ?_)
            rw [if_pos e9]
            exact ⟨bad, hF.setS (by decide)⟩
        · rw [if_pos (by simp [c3])]
          exact ⟨hSPq.1, hSPq.2.1, hSPq.2.2.1, hSPq.2.2.2.1, hSPq.2.2.2.2.1, rfl⟩
      · intro w hw0 hw1 ih hv
        rw [show (m 0 - w).toNat = (m 0 - (w + 1)).toNat + 1 by omega, sea] at hv
        refine bX11_word_85 in_ ip i3 (iR_of (by omega) (by omega)) hSt ⟨fun z => absurd z (by rw [e3]; omega), fun _ => ?_⟩
        refine EI.k (e_isSpelt (d := d - 1) e3 hSPq.1 hSt (by omega) (by omega) (by omega)) (by omega) (fun _ _ => bi_zn (fun c3 => re_i ⟨?_, hF⟩) (fun c3 => ⟨iR_of (by omega) (by omega), fun _ _ _ _ _ => ih ?_⟩))
        · rw [if_pos c3] at hv
          rw [hpw, if_pos (by rw [← hv]; omega), ← hv]
          exact ⟨hSPq.1, hSPq.2.1, hSPq.2.2.1, hSPq.2.2.2.1, hSPq.2.2.2.2.1, rfl⟩
        · rw [if_neg c3] at hv
          exact hv
    -- behind the last letter
    have endd : iR (q - p) ∧ ((q - p = 0 → Cl g ad d mX11_wrong 0 0 [.ref (ad 102), vi p] τ (Kv fun s2 => (iR 0 → SR s2 → Ki (fun r s => SX t e s (pWord t e (decide (new = 1)) p m) (fun w => r = w) ∧ Fm [103] [8, 9] σ s) (.inl (some (vi 0))) s2))) ∧ (¬ q - p = 0 → ((q - p ≤ 8 → (iR new → iR p → iR (q - p) → iR 0 → SR τ → aX11_word_85 g ad d (Ki fun r s => SX t e s (pWord t e (decide (new = 1)) p m) (fun w => r = w) ∧ Fm [103] [8, 9] σ s) 0 0 τ new p (q - p) 0)) ∧ (¬ q - p ≤ 8 → Cl g ad d mX11_wrong 0 0 [.ref (ad 102), vi p] τ (Kv fun s3 => (iR 0 → SR s3 → Ki (fun r s => SX t e s (pWord t e (decide (new = 1)) p m) (fun w => r = w) ∧ Fm [103] [8, 9] σ s) (.inl (some (vi 0))) s3)))))) := by
      have hbad : (q - p = 0 ∨ 8 < q - p) → pWord t e (decide (new = 1)) p m = .bad p := by
        intro c
        unfold pWord
        rw [hq, if_pos c]
      refine ⟨iR_of (by omega) (by omega), fun c => ?_, fun c => ⟨fun c2 _ _ _ _ _ => look c c2, fun c2 => ?_⟩⟩
      · rw [hbad (Or.inl c)]
        refine EV.k (e_wrong (d := d - 1) ip hSt) (by omega) (fun _ => re_i ?_)
        rw [if_pos e9]
        exact ⟨bad, hF.setS (by decide)⟩
      · rw [hbad (Or.inr (by omega))]
        refine EV.k (e_wrong (d := d - 1) ip hSt) (by omega) (fun _ => re_i ?_)
        rw [if_pos e9]
        exact ⟨bad, hF.setS (by decide)⟩
    refine bX11_word_15 in_ ip hSt ?_
    rw [e7, e8, e6]
    refine ⟨fun c => endd, fun c => ⟨⟨by omega, by omega⟩, ?_⟩⟩
    have htb := h.1.tb q
    refine EI.k (by apply e_isIn <;> (first | with_reducible assumption | with_reducible exact iR_of (by omega) (by omega) | omega | with_reducible (exact bi_01) | assumption)) (by omega) (fun _ _ => ?_)
    refine bi_zn (fun c2 => ?_) (fun c2 => ?_)
    · exact absurd (decide_eq_true c2 : ltr t q = true) (hsc.2.2.1 (by omega))
    · rw [e8]
      exact endd
  · intro a ha0 ha1 ih τ hτ hSt
    have e8 : sc τ 102 8 = a := by rw [hτ]; simp (config := {decide := true}) only [sc_S, ia_S, la_S, rv_S, sc_I, rv_I, la_I, ia_I, sc_L, rv_L, ia_L, la_L, sc_A, rv_A, la_A, ia_A, sc_B, rv_B, ia_B, la_B, sc_R, ia_R, la_R, rv_R, ia_w, la_w, rv_w, sc_w, if_true, if_false]
    have e7 : sc τ 102 7 = e := by rw [hτ]; simp (config := {decide := true}) only [sc_S, ia_S, la_S, rv_S, sc_I, rv_I, la_I, ia_I, sc_L, rv_L, ia_L, la_L, sc_A, rv_A, la_A, ia_A, sc_B, rv_B, ia_B, la_B, sc_R, ia_R, la_R, rv_R, ia_w, la_w, rv_w, sc_w, if_true, if_false]; exact h.1.en
    have e6 : ia τ 106 = t := by rw [hτ]; simp (config := {decide := true}) only [sc_S, ia_S, la_S, rv_S, sc_I, rv_I, la_I, ia_I, sc_L, rv_L, ia_L, la_L, sc_A, rv_A, la_A, ia_A, sc_B, rv_B, ia_B, la_B, sc_R, ia_R, la_R, rv_R, ia_w, la_w, rv_w, sc_w, if_true, if_false]; exact h.1.tp
    have hl : 97 ≤ t a ∧ t a ≤ 122 := of_decide_eq_true (hsc.2.2.2 a ha0 ha1)
    refine bX11_word_15 in_ ip hSt ?_
    rw [e7, e8, e6]
    refine ⟨fun c => absurd c (by omega), fun _ => ⟨⟨by omega, by omega⟩, ?_⟩⟩
    refine EI.k (by apply e_isIn <;> (first | with_reducible assumption | with_reducible exact iR_of (by omega) (by omega) | omega | with_reducible (exact bi_01) | assumption)) (by omega) (fun _ _ => ?_)
    refine bi_zn (fun c2 => ?_) (fun c2 => absurd hl c2)
    rw [e8]
    refine ⟨iR_of (by omega) (by omega), fun _ _ hS5 => ?_⟩
    exact ih _ (by rw [hτ, setS_S]) hS5
theorem e_word_bad {new : Int} (h : ¬ sc σ 102 9 = -1) (hn : new = 0 ∨ new = 1) (hS : SR σ) : EI g ad d mX11_word [.ref (ad 102), vi new] σ 0 σ :=
  EbS rfl pl_X11 rfl rfl (bX11_word_0 (iR01 hn) hS ⟨fun q => absurd q h, fun _ => re_i ⟨rfl, rfl⟩⟩)
end PAR
