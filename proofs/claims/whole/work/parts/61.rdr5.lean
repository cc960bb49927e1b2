section RDR5
variable {g : AG} {ad : Nat → Nat} {d : Nat} {σ : SG} {m t : Int → Int} {k : Nat} {e f : Int} {new : Bool} {D : Nat → Prop}
/-- a row of words alone -/
def rowP (t : Int → Int) (e : Int) (new : Bool) (most : Int) (m : Int → Int) : PR (List Int) := (pWs t e new most (skp t e 0) m).bind fun l p m1 => if p < e then .bad p else .ok l p m1
theorem c_readRow {most : Int} (hk : isK k) (hR : RK σ k m) (hG : GM m) (et : ia σ 38 = t) (htb : ∀ j, 0 ≤ t j ∧ t j ≤ 255) (ee : sc σ 37 1 = e) (heb : 0 ≤ e ∧ e ≤ 400) (hm : 0 ≤ most ∧ most ≤ 18) (hS : SR σ) (hd : 5 ≤ d) : Eb g ad d mX6_readRow 0 0 [.ref (ad 37), .ref (ad k), vi (if new = true then 1 else 0), vi most] σ (Kv fun s => CX t e k new s (rowP t e new most m) (fun l => sc s 37 11 = (l.length : Int) ∧ (l.length : Int) ≤ most ∧ hl (ia s 45) 0 (l.map cw)) ∧ Fz (Dk new k) σ s) := by
  have im : iR most := iR_of (by omega) (by omega)
  have in_ : iR (if new = true then (1 : Int) else 0) := by split <;> exact iR_lit rfl
  refine EbS rfl pl_X6 rfl rfl (bX6_readRow_0 hk in_ im hS ?_)
  refine Cl.vo (c_start (d := d - 1) (new := new) hk hR hG et htb ee heb hS (by omega)) (by omega) (fun s1 hS1 h1 => ?_)
  obtain ⟨hCP, h9, -, -, hia, hFz⟩ := h1
  refine Cl.i (c_readWords (d := d - 1) (x2 := 0) aI_45 ⟨by decide, by decide⟩ hCP (by omega) (by decide) hm hS1 (by omega)) (by omega) (fun r2 s2 hr2 hS2 h2 => ?_)
  obtain ⟨hX2, hF2, -, hrb⟩ := h2
  have hF2' : Fy [45] [2, 11, 15] (Dk new k) s1 (setS s2 37 11 r2) := (hF2.mono (by decide) (by decide)).setS (by decide)
  have hFz2 : Fz (Dk new k) σ (setS s2 37 11 r2) := hFz.y hF2' hk rfl rfl
  have hS2' : SR (setS s2 37 11 r2) := SR_setS hS2 hr2
  cases hp : pWs t e new most (skp t e 0) m with
  | error f1 =>
    rw [hp] at hX2
    obtain ⟨⟨m', hC2⟩, hf1⟩ := hX2
    have hC2' : CB t e k new (setS s2 37 11 r2) f1 m' := hC2.S rfl
    have hv : rowP t e new most m = .bad f1 := by unfold rowP; rw [hp]; rfl
    refine ⟨fun _ => re_v ⟨?_, hFz2⟩, fun _ => ?_⟩
    · rw [hv]; exact ⟨⟨m', hC2'⟩, hf1⟩
    · refine EV.k (c_fail (d := d - 1) (SR_sc hS2' 37 15) hS2') (by omega) (fun _ => re_v ?_)
      rw [if_neg (by rw [hC2'.fa]; omega), hv]
      exact ⟨⟨⟨m', hC2'⟩, hf1⟩, hFz2⟩
  | ok rr_ =>
    obtain ⟨l, p, m1⟩ := rr_
    rw [hp] at hX2
    obtain ⟨⟨hC2, e152⟩, hl1, hl2, hl3⟩ := hX2
    have hC2' : CB t e k new (setS s2 37 11 r2) (-1) m1 := hC2.S rfl
    have e15 : sc (setS s2 37 11 r2) 37 15 = p := by simp (config := {decide := true}) only [sc_S, ia_S, la_S, rv_S, sc_I, rv_I, la_I, ia_I, sc_L, rv_L, ia_L, la_L, sc_A, rv_A, la_A, ia_A, sc_B, rv_B, ia_B, la_B, sc_R, ia_R, la_R, rv_R, ia_w, la_w, rv_w, sc_w, if_true, if_false]; exact e152
    have hp0 : 0 ≤ p := by rw [← e152]; exact hC2.a0
    rw [hC2'.en, e15]
    refine ⟨fun c => re_v ⟨?_, hFz2⟩, fun c => ?_⟩
    · have hv : rowP t e new most m = .ok l p m1 := by unfold rowP; rw [hp]; exact if_neg (by omega)
      rw [hv]
      exact ⟨⟨hC2', e15⟩, by simp (config := {decide := true}) only [sc_S, ia_S, la_S, rv_S, sc_I, rv_I, la_I, ia_I, sc_L, rv_L, ia_L, la_L, sc_A, rv_A, la_A, ia_A, sc_B, rv_B, ia_B, la_B, sc_R, ia_R, la_R, rv_R, ia_w, la_w, rv_w, sc_w, if_true, if_false]; exact hl1, hl3, hl2⟩
    · have hv : rowP t e new most m = .bad p := by unfold rowP; rw [hp]; exact if_pos (by omega)
      refine EV.k (c_fail (d := d - 1) (by rw [← e15]; exact SR_sc hS2' 37 15) hS2') (by omega) (fun _ => re_v ?_)
      rw [if_pos hC2'.fa, hv]
      refine ⟨⟨⟨m1, hC2'.bad hp0⟩, hp0⟩, ?_⟩
      have hF3 : Fy [45] [2, 11, 15] (Dk new k) s1 (setS (setS s2 37 11 r2) 37 2 p) := hF2'.setS (by decide)
      exact hFz.y hF3 hk rfl rfl
/-- of each place ahead of = the places that it is linked with, as bits -/
def LkC (f : Int → Int) (ls : List Lk) : Prop := ∀ i, 0 ≤ i → i < 6 → (0 ≤ f i ∧ f i ≤ 63) ∧ ∀ j, 0 ≤ j → j < 6 → (bitB (f i) j = true ↔ (i, j) ∈ ls)
theorem bit_or : ∀ (a : Fin 64) (j i : Fin 6), (0 ≤ bOr (a.val : Int) (bShl 1 (j.val : Int)) ∧ bOr (a.val : Int) (bShl 1 (j.val : Int)) ≤ 63) ∧ (bitB (bOr (a.val : Int) (bShl 1 (j.val : Int))) (i.val : Int) = true ↔ bitB (a.val : Int) (i.val : Int) = true ∨ i = j) := by decide +kernel
theorem bit_or' {a i j : Int} (ha : 0 ≤ a ∧ a ≤ 63) (hj : 0 ≤ j ∧ j < 6) (hi : 0 ≤ i ∧ i < 6) : (0 ≤ bOr a (bShl 1 j) ∧ bOr a (bShl 1 j) ≤ 63) ∧ (bitB (bOr a (bShl 1 j)) i = true ↔ bitB a i = true ∨ i = j) := by
  have h1 : a.toNat < 64 := by omega
  have h2 : j.toNat < 6 := by omega
  have h3 : i.toNat < 6 := by omega
  have := bit_or ⟨a.toNat, h1⟩ ⟨j.toNat, h2⟩ ⟨i.toNat, h3⟩
  rw [show (((⟨a.toNat, h1⟩ : Fin 64).val : Nat) : Int) = a from by show ((a.toNat : Nat) : Int) = a; omega, show (((⟨j.toNat, h2⟩ : Fin 6).val : Nat) : Int) = j from by show ((j.toNat : Nat) : Int) = j; omega, show (((⟨i.toNat, h3⟩ : Fin 6).val : Nat) : Int) = i from by show ((i.toNat : Nat) : Int) = i; omega] at this
  refine ⟨this.1, this.2.trans ?_⟩
  constructor
  · rintro (z | z)
    · exact Or.inl z
    · have := congrArg Fin.val z
      exact Or.inr (by have h4 : i.toNat = j.toNat := this; omega)
  · rintro (z | z)
    · exact Or.inl z
    · exact Or.inr (Fin.ext (by show i.toNat = j.toNat; rw [z]))
theorem bit01' {a j : Int} (ha : 0 ≤ a ∧ a ≤ 63) (hj : 0 ≤ j ∧ j < 6) : bAnd (bShr a j) 1 = 0 ↔ ¬ bitB a j = true := by
  have h1 : a.toNat < 64 := by omega
  have h2 : j.toNat < 7 := by omega
  have := bit01 ⟨a.toNat, h1⟩ ⟨j.toNat, h2⟩
  rw [show (((⟨a.toNat, h1⟩ : Fin 64).val : Nat) : Int) = a from by show ((a.toNat : Nat) : Int) = a; omega, show (((⟨j.toNat, h2⟩ : Fin 7).val : Nat) : Int) = j from by show ((j.toNat : Nat) : Int) = j; omega] at this
  unfold bitB
  rw [decide_eq_true_eq]
  omega
theorem LkC.snoc {f : Int → Int} {ls : List Lk} {a b : Int} (h : LkC f ls) (ha : 0 ≤ a ∧ a < 6) (hb : 0 ≤ b ∧ b < 6) : LkC (up f a (bOr (f a) (bShl 1 b))) (ls ++ [(a, b)]) := by
  intro i hi0 hi1
  by_cases c : i = a
  · subst c
    have hq := h i hi0 hi1
    rw [up_at]
    refine ⟨(bit_or' hq.1 hb (i := 0) (by omega)).1, fun j hj0 hj1 => ?_⟩
    rw [(bit_or' hq.1 hb ⟨hj0, hj1⟩).2, hq.2 j hj0 hj1, List.mem_append, List.mem_singleton]
    constructor
    · rintro (z | z)
      · exact Or.inl z
      · exact Or.inr (by rw [z])
    · rintro (z | z)
      · exact Or.inl z
      · exact Or.inr (congrArg Prod.snd z)
  · rw [up_ne c]
    have hq := h i hi0 hi1
    refine ⟨hq.1, fun j hj0 hj1 => ?_⟩
    rw [hq.2 j hj0 hj1, List.mem_append, List.mem_singleton]
    constructor
    · exact Or.inl
    · rintro (z | z)
      · exact z
      · exact absurd (congrArg Prod.fst z) c
theorem c_readLink {p na nb : Int} {ls : List Lk} (h : CP t e k new σ p m) (hL : LkC (ia σ 47) ls) (h12 : ls.length < 12) (h11 : sc σ 37 11 = na) (h13 : sc σ 37 13 = nb) (hna : 0 ≤ na ∧ na ≤ 6) (hnb : 0 ≤ nb ∧ nb ≤ 6) (hS : SR σ) (hd : 2 ≤ d) : Eb g ad d mX6_readLink 0 0 [.ref (ad 37)] σ (Kv fun s => CX t e k new s (pLink t e na nb ls p m) (fun l => LkC (ia s 47) l) ∧ Fy [47] [2, 15] (Dk new k) σ s) := by
  obtain ⟨hC, e15⟩ := h
  have hik := hC.ik
  have hp0 : 0 ≤ p := by rw [← e15]; exact hC.a0
  refine EbS rfl pl_X6 rfl rfl (bX6_readLink_0 hS ?_)
  rw [h11]
  refine Cl.i (c_readNumber (d := d - 1) (D := Dk new k) hC hS (iR_of (by omega) (by omega)) (by omega)) (by omega) (fun r1 s1 hr1 hS1 h1 => ?_)
  obtain ⟨hX1, hF1⟩ := h1
  rw [e15] at hX1
  have e131 : sc s1 37 13 = nb := by rw [hF1.s hik 13 (by decide)]; exact h13
  rw [e131]
  cases hp1 : pNum t e (na - 1) p m with
  | error f1 =>
    rw [hp1] at hX1
    obtain ⟨hr1', hC1⟩ := hX1
    have hf1 := pNum_bad hp0 hp1
    rw [show fst1 (-1) f1 = f1 from if_pos rfl] at hC1
    have hv : pLink t e na nb ls p m = .bad f1 := by unfold pLink; rw [if_neg (by omega), hp1]; rfl
    refine Cl.i (c_readNumber_bad (d := d - 1) (D := Dk new k) hC1 hf1 hS1 (iR_of (by omega) (by omega)) (by omega)) (by omega) (fun r2 s2 hr2 hS2 h2 => ⟨fun _ => re_v ⟨?_, (hF1.trans h2.2).mono (by decide) (by decide)⟩, fun z => absurd hr1' z⟩)
    rw [hv]
    exact ⟨⟨m, h2.1⟩, hf1⟩
  | ok rr_ =>
    obtain ⟨a, p1, m1⟩ := rr_
    rw [hp1] at hX1
    obtain ⟨hr1', hab, hC1, em1, e151⟩ := hX1
    have hp10 : 0 ≤ p1 := by rw [← e151]; exact hC1.a0
    refine Cl.i (c_readNumber (d := d - 1) (D := Dk new k) hC1 hS1 (iR_of (by omega) (by omega)) (by omega)) (by omega) (fun r2 s2 hr2 hS2 h2 => ?_)
    obtain ⟨hX2, hF2⟩ := h2
    rw [e151] at hX2
    have hF12 : Fy [47] [2, 15] (Dk new k) σ s2 := (hF1.trans hF2).mono (by decide) (by decide)
    have e47 : ia s2 47 = ia σ 47 := by rw [hF2.a hik 47 (by decide) (by decide), hF1.a hik 47 (by decide) (by decide)]
    cases hp2 : pNum t e (nb - 1) p1 m1 with
    | error f1 =>
      rw [hp2] at hX2
      obtain ⟨hr2', hC2⟩ := hX2
      have hf1 := pNum_bad hp10 hp2
      rw [show fst1 (-1) f1 = f1 from if_pos rfl] at hC2
      have hv : pLink t e na nb ls p m = .bad f1 := by
        unfold pLink; rw [if_neg (by omega), hp1]
        show (pNum t e (nb - 1) p1 m1).bind _ = _
        rw [hp2]; rfl
      refine ⟨fun z => absurd z (by omega), fun _ => ⟨fun z => absurd hr2' z, fun _ => re_v ⟨?_, hF12⟩⟩⟩
      rw [hv]
      exact ⟨⟨m1, hC2⟩, hf1⟩
    | ok rr_ =>
      obtain ⟨b, p2, m2⟩ := rr_
      rw [hp2] at hX2
      obtain ⟨hr2', hbb, hC2, em2, e152⟩ := hX2
      have hv : pLink t e na nb ls p m = if (a, b) ∈ ls then .bad p else .ok (ls ++ [(a, b)]) p2 m2 := by
        unfold pLink; rw [if_neg (by omega), hp1]
        show (pNum t e (nb - 1) p1 m1).bind _ = _
        rw [hp2]; rfl
      subst hr1'
      subst hr2'
      have hq := hL r1 (by omega) (by omega)
      have hbit := hq.2 r2 (by omega) (by omega)
      rw [e47]
      refine ⟨fun z => absurd z (by omega), fun _ => ⟨fun _ => ⟨⟨by omega, by omega⟩, fun c => ?_, fun c => ?_⟩, fun z => absurd z (by omega)⟩⟩
      · rw [bit01' hq.1 (by omega)] at c
        have hno : ¬ (r1, r2) ∈ ls := fun z => c (hbit.mpr z)
        rw [if_neg hno] at hv
        refine re_v ⟨?_, hF12.setI (by decide)⟩
        rw [hv]
        refine ⟨⟨hC2.I (by decide), e152⟩, ?_⟩
        rw [ia_I, if_pos rfl, e47]
        exact hL.snoc (by omega) (by omega)
      · rw [bit01' hq.1 (by omega)] at c
        have hyes : (r1, r2) ∈ ls := hbit.mp (Classical.not_not.mp c)
        rw [if_pos hyes] at hv
        rw [e15]
        refine EV.k (c_fail (d := d - 1) (iR_of (by omega) (by have := hC.eb; have := hC.a1; omega)) hS2) (by omega) (fun hS4 => ?_)
        rw [if_pos hC2.fa]
        refine re_v ⟨?_, (hF12.setS (by decide)).setI (by decide)⟩
        rw [hv]
        exact ⟨⟨m2, (hC2.bad hp0).I (by decide)⟩, hp0⟩
/-- what a lesson leaves in the class -/
def LsC (s : SG) (x : Les) : Prop := sc s 37 11 = (x.1.length : Int) ∧ sc s 37 13 = (x.2.1.length : Int) ∧ hl (ia s 45) 0 x.1 ∧ hl (ia s 46) 0 x.2.1 ∧ LkC (ia s 47) x.2.2 ∧ (1 ≤ x.1.length ∧ x.1.length ≤ 6) ∧ (1 ≤ x.2.1.length ∧ x.2.1.length ≤ 6)
theorem needS {v : Int} (h : CB t e k new σ f m) (hf : 0 ≤ f) : (if v = 0 then (if sc σ 37 2 = -1 then setS σ 37 2 (sc σ 37 15) else σ) else σ) = σ := by
  by_cases c : v = 0
  · rw [if_pos c, if_neg (by rw [h.fa]; omega)]
  · rw [if_neg c]
theorem c_readLesson (hk : isK k) (hR : RK σ k m) (hG : GM m) (et : ia σ 38 = t) (htb : ∀ j, 0 ≤ t j ∧ t j ≤ 255) (ee : sc σ 37 1 = e) (heb : 0 ≤ e ∧ e ≤ 400) (hS : SR σ) (hd : 6 ≤ d) : Eb g ad d mX6_readLesson 0 0 [.ref (ad 37), .ref (ad k)] σ (Kv fun s => CX t e k true s (lessP t e (skp t e 0) m) (fun x => LsC s x) ∧ Fz (Dk true k) σ s) := by
  refine EbS rfl pl_X6 rfl rfl (bX6_readLesson_0 hk hS ?_)
  refine Cl.vo (c_start (d := d - 1) (new := true) hk hR hG et htb ee heb hS (by omega)) (by omega) (fun s1 hS1 h1 => ?_)
  obtain ⟨hCP, h9, -, -, hia, hFz⟩ := h1
  have hpe : skp t e 0 ≤ e := (scn_le heb.1).2
  -- it ends
  have stop : ∀ (s : SG) (x2 x3 : Int), SR s → iR x2 → iR x3 → x2 = 0 → CX t e k true s (lessP t e (skp t e 0) m) (fun x => LsC s x) → Fz (Dk true k) σ s → aX6_readLesson_79 g ad d (Kv fun s => CX t e k true s (lessP t e (skp t e 0) m) (fun x => LsC s x) ∧ Fz (Dk true k) σ s) 0 0 s x2 x3 k := by
    intro s x2 x3 hs i2 i3 hx2 hX hF
    exact bX6_readLesson_79 hk i2 i3 hs ⟨fun _ => re_v ⟨hX, hF⟩, fun _ => ⟨fun _ => re_v ⟨hX, hF⟩, fun z => absurd hx2 z⟩⟩
  have bad7 : ∀ (s : SG) (f : Int) (m' : Int → Int), SR s → CB t e k true s f m' → 0 ≤ f → lessP t e (skp t e 0) m = .bad f → Fz (Dk true k) σ s → Cl g ad d mJ7_fill_53178 0 0 [.ref (ad 47), vi 0] s (Kv fun s8 => Cl g ad d mX6_isRight 0 0 [.ref (ad 37)] s8 (Ki fun r9 s9 => (iR r9 → iR 0 → SR s9 → aX6_readLesson_79 g ad d (Kv fun s => CX t e k true s (lessP t e (skp t e 0) m) (fun x => LsC s x) ∧ Fz (Dk true k) σ s) 0 0 s9 r9 0 k))) := by
    intro s f m' hs hC hf hv hF
    refine EV.k (j_fill (d := d - 1) aI_47 (iR_lit rfl) (by decide) hs) (by omega) (fun hS8 => ?_)
    have hC8 : CB t e k true (setA s 47 (fil (ia s 47) 6 0)) f m' := ⟨hC.tp, hC.tb, hC.en, hC.eb, hC.a0, hC.a1, hC.dk, hC.gr, hC.fa, hC.fb, hC.rk.rd hk (fun c hc => by rw [ia_A, if_neg (by omega)]) (fun _ _ _ => rfl), hC.gm, hC.ik⟩
    have hF8 : Fz (Dk true k) σ (setA s 47 (fil (ia s 47) 6 0)) := ⟨hF.1, fun c hc hD => ⟨by rw [ia_A, if_neg (by omega)]; exact (hF.2.1 c hc hD).1, (hF.2.1 c hc hD).2⟩, by rw [ia_A, if_neg (by decide)]; exact hF.2.2.1, hF.2.2.2⟩
    refine EI.k (c_isRight (d := d - 1) hS8) (by omega) (fun _ _ _ _ _ => ?_)
    rw [show bi (sc (setA s 47 (fil (ia s 47) 6 0)) 37 2 = -1) = 0 from bi_f (by rw [hC8.fa]; omega)]
    refine stop _ 0 0 hS8 (iR_lit rfl) (iR_lit rfl) rfl ?_ hF8
    rw [hv]
    exact ⟨⟨m', hC8⟩, hf⟩
  have bad5 : ∀ (s : SG) (f : Int) (m' : Int → Int), SR s → CB t e k true s f m' → 0 ≤ f → lessP t e (skp t e 0) m = .bad f → Fz (Dk true k) σ s → ∀ v, iR v → Cl g ad d mX6_needSome 0 0 [.ref (ad 37), vi v] s (Kv fun s6 => Cl g ad d mX6_expect 0 0 [.ref (ad 37), vi 47] s6 (Kv fun s7 => Cl g ad d mJ7_fill_53178 0 0 [.ref (ad 47), vi 0] s7 (Kv fun s8 => Cl g ad d mX6_isRight 0 0 [.ref (ad 37)] s8 (Ki fun r9 s9 => (iR r9 → iR 0 → SR s9 → aX6_readLesson_79 g ad d (Kv fun s => CX t e k true s (lessP t e (skp t e 0) m) (fun x => LsC s x) ∧ Fz (Dk true k) σ s) 0 0 s9 r9 0 k))))) := by
    intro s f m' hs hC hf hv hF v iv
    refine EV.k (c_needSome (d := d - 1) hC hs iv (by omega)) (by omega) (fun hS6 => ?_)
    rw [needS hC hf] at hS6 ⊢
    refine Cl.vo (c_expect_bad (d := d - 1) (D := Dk true k) hC hf hS6 (iR_lit rfl) (by omega)) (by omega) (fun s7 hS7 h7 => ?_)
    exact bad7 s7 f m' hS7 h7.1 hf hv (hF.y h7.2 hk rfl rfl)
  have bad3 : ∀ (s : SG) (f : Int) (m' : Int → Int), SR s → CB t e k true s f m' → 0 ≤ f → lessP t e (skp t e 0) m = .bad f → Fz (Dk true k) σ s → Cl g ad d mX6_expect 0 0 [.ref (ad 37), vi 61] s (Kv fun s4 => Cl g ad d mX6_readWords 0 0 [.ref (ad 37), .ref (ad 46), vi 0, vi 6] s4 (Ki fun r5 s5 => Cl g ad d mX6_needSome 0 0 [.ref (ad 37), vi (sc (setS s5 37 13 r5) 37 13)] (setS s5 37 13 r5) (Kv fun s6 => Cl g ad d mX6_expect 0 0 [.ref (ad 37), vi 47] s6 (Kv fun s7 => Cl g ad d mJ7_fill_53178 0 0 [.ref (ad 47), vi 0] s7 (Kv fun s8 => Cl g ad d mX6_isRight 0 0 [.ref (ad 37)] s8 (Ki fun r9 s9 => (iR r9 → iR 0 → SR s9 → aX6_readLesson_79 g ad d (Kv fun s => CX t e k true s (lessP t e (skp t e 0) m) (fun x => LsC s x) ∧ Fz (Dk true k) σ s) 0 0 s9 r9 0 k))))))) := by
    intro s f m' hs hC hf hv hF
    refine Cl.vo (c_expect_bad (d := d - 1) (D := Dk true k) hC hf hs (iR_lit rfl) (by omega)) (by omega) (fun s4 hS4 h4 => ?_)
    have hF4 := hF.y h4.2 hk rfl rfl
    refine EI.k (c_readWords_bad (d := d - 1) aI_46 h4.1 hf (iR_lit rfl) (iR_lit rfl) hS4 (by omega)) (by omega) (fun _ _ => ?_)
    have hF5 : Fz (Dk true k) σ (setS s4 37 13 0) := hF4.y (A := []) (K := [13]) ((Fy.refl s4).setS (by decide)) hk rfl rfl
    exact bad5 _ f m' (SR_setS hS4 (iR_lit rfl)) (h4.1.S rfl) hf hv hF5 _ (by simp (config := {decide := true}) only [sc_S, ia_S, la_S, rv_S, sc_I, rv_I, la_I, ia_I, sc_L, rv_L, ia_L, la_L, sc_A, rv_A, la_A, ia_A, sc_B, rv_B, ia_B, la_B, sc_R, ia_R, la_R, rv_R, ia_w, la_w, rv_w, sc_w, if_true, if_false]; exact iR_lit rfl)
  refine Cl.i (c_readWords (d := d - 1) (x2 := 0) (most := 6) aI_45 ⟨by decide, by decide⟩ hCP (by omega) (by decide) (by omega) hS1 (by omega)) (by omega) (fun r2 s2 hr2 hS2 h2 => ?_)
  obtain ⟨hX2, hF2, -, hrb2⟩ := h2
  have hF2' : Fy [45] [2, 11, 15] (Dk true k) s1 (setS s2 37 11 r2) := (hF2.mono (by decide) (by decide)).setS (by decide)
  have hFz2 : Fz (Dk true k) σ (setS s2 37 11 r2) := hFz.y hF2' hk rfl rfl
  have hS2' : SR (setS s2 37 11 r2) := SR_setS hS2 hr2
  rw [show sc (setS s2 37 11 r2) 37 11 = r2 from by simp (config := {decide := true}) only [sc_S, ia_S, la_S, rv_S, sc_I, rv_I, la_I, ia_I, sc_L, rv_L, ia_L, la_L, sc_A, rv_A, la_A, ia_A, sc_B, rv_B, ia_B, la_B, sc_R, ia_R, la_R, rv_R, ia_w, la_w, rv_w, sc_w, if_true, if_false]]
  cases hp1 : pWs t e true 6 (skp t e 0) m with
  | error f1 =>
    rw [hp1] at hX2
    obtain ⟨⟨m', hC2⟩, hf1⟩ := hX2
    have hC2' : CB t e k true (setS s2 37 11 r2) f1 m' := hC2.S rfl
    have hv : lessP t e (skp t e 0) m = .bad f1 := by unfold lessP; rw [hp1]; rfl
    refine EV.k (c_needSome (d := d - 1) hC2' hS2' hr2 (by omega)) (by omega) (fun hS3 => ?_)
    rw [needS hC2' hf1] at hS3 ⊢
    exact bad3 _ f1 m' hS3 hC2' hf1 hv hFz2
  | ok rr_ =>
    obtain ⟨a, p1, m1⟩ := rr_
    rw [hp1] at hX2
    obtain ⟨⟨hC2, e152⟩, hl1, hl2, hl3⟩ := hX2
    have hok1 := pWs_ok hG hpe (by omega) hp1
    rw [map_cw (fun w hw => by
      rcases hok1.2.2.1 w hw with z | z
      · omega
      · exact absurd z.1 (by decide))] at hl2
    have hl1' : r2 = (a.length : Int) := hl1
    have hp10 : 0 ≤ p1 := by rw [← e152]; exact hC2.a0
    have hC2' : CB t e k true (setS s2 37 11 r2) (-1) m1 := hC2.S rfl
    have e152' : sc (setS s2 37 11 r2) 37 15 = p1 := by simp (config := {decide := true}) only [sc_S, ia_S, la_S, rv_S, sc_I, rv_I, la_I, ia_I, sc_L, rv_L, ia_L, la_L, sc_A, rv_A, la_A, ia_A, sc_B, rv_B, ia_B, la_B, sc_R, ia_R, la_R, rv_R, ia_w, la_w, rv_w, sc_w, if_true, if_false]; exact e152
    refine EV.k (c_needSome (d := d - 1) hC2' hS2' hr2 (by omega)) (by omega) (fun hS3 => ?_)
    by_cases c0 : r2 = 0
    · have hse : a = [] := List.length_eq_zero_iff.mp (by omega)
      have hv : lessP t e (skp t e 0) m = .bad p1 := by unfold lessP; rw [hp1]; exact if_pos hse
      rw [if_pos c0, if_pos hC2'.fa, e152'] at hS3 ⊢
      have hF3 : Fy [45] [2, 11, 15] (Dk true k) s1 (setS (setS s2 37 11 r2) 37 2 p1) := hF2'.setS (by decide)
      exact bad3 _ p1 m1 hS3 (hC2'.bad hp10) hp10 hv (hFz.y hF3 hk rfl rfl)
    rw [if_neg c0] at hS3 ⊢
    have hse : ¬ a = [] := fun z => c0 (by rw [hl1', z]; rfl)
    have hsl : 1 ≤ a.length := by
      rcases Nat.eq_zero_or_pos a.length with z | z
      · exact absurd (List.length_eq_zero_iff.mp z) hse
      · exact z
    have hv1 : lessP t e (skp t e 0) m = (pSign t e 61 p1 m1).bind fun _ p2 m2 => (pWs t e true 6 p2 m2).bind fun b p3 m3 => if b = [] then .bad p3 else (pSign t e 47 p3 m3).bind fun _ p4 m4 => (pLinks t e a.length b.length 13 [] p4 m4).bind fun ls p5 m5 => .ok (a, b, ls) p5 m5 := by
      unfold lessP; rw [hp1]; exact if_neg hse
    refine Cl.vo (c_expect (d := d - 1) (D := Dk true k) hC2' hS2' (iR_lit rfl) (by omega)) (by omega) (fun s4 hS4 h4 => ?_)
    obtain ⟨hX4, hF4⟩ := h4
    rw [e152'] at hX4
    have hFz4 : Fz (Dk true k) σ s4 := hFz2.y hF4 hk rfl rfl
    have e114 : sc s4 37 11 = (a.length : Int) := by rw [hF4.s hk 11 (by decide)]; simp (config := {decide := true}) only [sc_S, ia_S, la_S, rv_S, sc_I, rv_I, la_I, ia_I, sc_L, rv_L, ia_L, la_L, sc_A, rv_A, la_A, ia_A, sc_B, rv_B, ia_B, la_B, sc_R, ia_R, la_R, rv_R, ia_w, la_w, rv_w, sc_w, if_true, if_false]; exact hl1'
    have a45 : hl (ia s4 45) 0 a := by rw [hF4.a hk 45 (by decide) (by decide)]; exact hl2
    cases hp2 : pSign t e 61 p1 m1 with
    | error f1 =>
      rw [hp2] at hX4 hv1
      have hf1 := pSign_bad hp10 hp2
      have hv' : lessP t e (skp t e 0) m = .bad f1 := hv1
      have hC4 : CB t e k true s4 (fst1 (-1) f1) m1 := hX4
      rw [show fst1 (-1) f1 = f1 from if_pos rfl] at hC4
      refine EI.k (c_readWords_bad (d := d - 1) aI_46 hC4 hf1 (iR_lit rfl) (iR_lit rfl) hS4 (by omega)) (by omega) (fun _ _ => ?_)
      have hF5 : Fz (Dk true k) σ (setS s4 37 13 0) := hFz4.y (A := []) (K := [13]) ((Fy.refl s4).setS (by decide)) hk rfl rfl
      exact bad5 _ f1 m1 (SR_setS hS4 (iR_lit rfl)) (hC4.S rfl) hf1 hv' hF5 _ (by simp (config := {decide := true}) only [sc_S, ia_S, la_S, rv_S, sc_I, rv_I, la_I, ia_I, sc_L, rv_L, ia_L, la_L, sc_A, rv_A, la_A, ia_A, sc_B, rv_B, ia_B, la_B, sc_R, ia_R, la_R, rv_R, ia_w, la_w, rv_w, sc_w, if_true, if_false]; exact iR_lit rfl)
    | ok rr_ =>
      obtain ⟨u, p2, m2⟩ := rr_
      rw [hp2] at hX4 hv1
      obtain ⟨hC4, em2, e154⟩ := hX4
      have hv2 : lessP t e (skp t e 0) m = (pWs t e true 6 p2 m2).bind fun b p3 m3 => if b = [] then .bad p3 else (pSign t e 47 p3 m3).bind fun _ p4 m4 => (pLinks t e a.length b.length 13 [] p4 m4).bind fun ls p5 m5 => .ok (a, b, ls) p5 m5 := hv1
      refine Cl.i (c_readWords (d := d - 1) (x2 := 0) (most := 6) aI_46 ⟨by decide, by decide⟩ ⟨hC4, e154⟩ (by omega) (by decide) (by omega) hS4 (by omega)) (by omega) (fun r5 s5 hr5 hS5 h5 => ?_)
      obtain ⟨hX5, hF5, -, hrb5⟩ := h5
      have hF5' : Fy [46] [2, 13, 15] (Dk true k) s4 (setS s5 37 13 r5) := (hF5.mono (by decide) (by decide)).setS (by decide)
      have hFz5 : Fz (Dk true k) σ (setS s5 37 13 r5) := hFz4.y hF5' hk rfl rfl
      have hS5' : SR (setS s5 37 13 r5) := SR_setS hS5 hr5
      have e115 : sc (setS s5 37 13 r5) 37 11 = (a.length : Int) := by rw [hF5'.s hk 11 (by decide)]; exact e114
      have a455 : hl (ia (setS s5 37 13 r5) 45) 0 a := by rw [hF5'.a hk 45 (by decide) (by decide)]; exact a45
      cases hp3 : pWs t e true 6 p2 m2 with
      | error f1 =>
        rw [hp3] at hX5 hv2
        obtain ⟨⟨m', hC5⟩, hf1⟩ := hX5
        exact bad5 _ f1 m' hS5' (hC5.S rfl) hf1 hv2 hFz5 _ (by simp (config := {decide := true}) only [sc_S, ia_S, la_S, rv_S, sc_I, rv_I, la_I, ia_I, sc_L, rv_L, ia_L, la_L, sc_A, rv_A, la_A, ia_A, sc_B, rv_B, ia_B, la_B, sc_R, ia_R, la_R, rv_R, ia_w, la_w, rv_w, sc_w, if_true, if_false]; exact hr5)
      | ok rr_ =>
        obtain ⟨b, p3, m3⟩ := rr_
        rw [hp3] at hX5 hv2
        obtain ⟨⟨hC5, e155⟩, hb1, hb2, hb3⟩ := hX5
        have hok3 := pWs_ok hC4.gm (by rw [← e154]; exact hC4.a1) (by omega) hp3
        rw [map_cw (fun w hw => by
          rcases hok3.2.2.1 w hw with z | z
          · omega
          · exact absurd z.1 (by decide))] at hb2
        have hb1' : r5 = (b.length : Int) := hb1
        have hp30 : 0 ≤ p3 := by rw [← e155]; exact hC5.a0
        have hC5' : CB t e k true (setS s5 37 13 r5) (-1) m3 := hC5.S rfl
        have e155' : sc (setS s5 37 13 r5) 37 15 = p3 := by simp (config := {decide := true}) only [sc_S, ia_S, la_S, rv_S, sc_I, rv_I, la_I, ia_I, sc_L, rv_L, ia_L, la_L, sc_A, rv_A, la_A, ia_A, sc_B, rv_B, ia_B, la_B, sc_R, ia_R, la_R, rv_R, ia_w, la_w, rv_w, sc_w, if_true, if_false]; exact e155
        have hv3 : lessP t e (skp t e 0) m = if b = [] then .bad p3 else (pSign t e 47 p3 m3).bind fun _ p4 m4 => (pLinks t e a.length b.length 13 [] p4 m4).bind fun ls p5 m5 => .ok (a, b, ls) p5 m5 := hv2
        rw [show sc (setS s5 37 13 r5) 37 13 = r5 from by simp (config := {decide := true}) only [sc_S, ia_S, la_S, rv_S, sc_I, rv_I, la_I, ia_I, sc_L, rv_L, ia_L, la_L, sc_A, rv_A, la_A, ia_A, sc_B, rv_B, ia_B, la_B, sc_R, ia_R, la_R, rv_R, ia_w, la_w, rv_w, sc_w, if_true, if_false]]
        refine EV.k (c_needSome (d := d - 1) hC5' hS5' hr5 (by omega)) (by omega) (fun hS6 => ?_)
        by_cases c5 : r5 = 0
        · have hbe : b = [] := List.length_eq_zero_iff.mp (by omega)
          rw [if_pos hbe] at hv3
          rw [if_pos c5, if_pos hC5'.fa, e155'] at hS6 ⊢
          have hF6 : Fy [46] [2, 13, 15] (Dk true k) s4 (setS (setS s5 37 13 r5) 37 2 p3) := hF5'.setS (by decide)
          have hFz6 : Fz (Dk true k) σ (setS (setS s5 37 13 r5) 37 2 p3) := hFz4.y hF6 hk rfl rfl
          refine Cl.vo (c_expect_bad (d := d - 1) (D := Dk true k) (hC5'.bad hp30) hp30 hS6 (iR_lit rfl) (by omega)) (by omega) (fun s7 hS7 h7 => ?_)
          exact bad7 s7 p3 m3 hS7 h7.1 hp30 hv3 (hFz6.y h7.2 hk rfl rfl)
        rw [if_neg c5] at hS6 ⊢
        have hbe : ¬ b = [] := fun z => c5 (by rw [hb1', z]; rfl)
        have hbl : 1 ≤ b.length := by
          rcases Nat.eq_zero_or_pos b.length with z | z
          · exact absurd (List.length_eq_zero_iff.mp z) hbe
          · exact z
        rw [if_neg hbe] at hv3
        refine Cl.vo (c_expect (d := d - 1) (D := Dk true k) hC5' hS5' (iR_lit rfl) (by omega)) (by omega) (fun s7 hS7 h7 => ?_)
        obtain ⟨hX7, hF7⟩ := h7
        rw [e155'] at hX7
        have hFz7 : Fz (Dk true k) σ s7 := hFz5.y hF7 hk rfl rfl
        cases hp4 : pSign t e 47 p3 m3 with
        | error f1 =>
          rw [hp4] at hX7 hv3
          have hf1 := pSign_bad hp30 hp4
          have hC7 : CB t e k true s7 (fst1 (-1) f1) m3 := hX7
          rw [show fst1 (-1) f1 = f1 from if_pos rfl] at hC7
          exact bad7 s7 f1 m3 hS7 hC7 hf1 hv3 hFz7
        | ok rr_ =>
          obtain ⟨u', p4, m4⟩ := rr_
          rw [hp4] at hX7 hv3
          obtain ⟨hC7, em4, e157⟩ := hX7
          have hv4 : lessP t e (skp t e 0) m = (pLinks t e a.length b.length 13 [] p4 m4).bind fun ls p5 m5 => .ok (a, b, ls) p5 m5 := hv3
          refine EV.k (j_fill (d := d - 1) aI_47 (iR_lit rfl) (by decide) hS7) (by omega) (fun hS8 => ?_)
          have hC8 : CB t e k true (setA s7 47 (fil (ia s7 47) 6 0)) (-1) m4 := ⟨hC7.tp, hC7.tb, hC7.en, hC7.eb, hC7.a0, hC7.a1, hC7.dk, hC7.gr, hC7.fa, hC7.fb, hC7.rk.rd hk (fun c hc => by rw [ia_A, if_neg (by omega)]) (fun _ _ _ => rfl), hC7.gm, hC7.ik⟩
          have hFz8 : Fz (Dk true k) σ (setA s7 47 (fil (ia s7 47) 6 0)) := ⟨hFz7.1, fun c hc hD => ⟨by rw [ia_A, if_neg (by omega)]; exact (hFz7.2.1 c hc hD).1, (hFz7.2.1 c hc hD).2⟩, by rw [ia_A, if_neg (by decide)]; exact hFz7.2.2.1, hFz7.2.2.2⟩
          have hL8 : LkC (ia (setA s7 47 (fil (ia s7 47) 6 0)) 47) [] := by
            intro i hi0 hi1
            have e0 : ia (setA s7 47 (fil (ia s7 47) 6 0)) 47 i = 0 := by
              rw [ia_A, if_pos rfl]
              exact if_pos ⟨hi0, hi1⟩
            rw [e0]
            refine ⟨by omega, fun j hj0 hj1 => ⟨fun z => ?_, fun z => by cases z⟩⟩
            have : bAnd (bShr 0 j) 1 = 0 := by
              have hj : j.toNat < 6 := by omega
              have hall : ∀ q : Fin 6, bAnd (bShr 0 (q.val : Int)) 1 = 0 := by decide
              have := hall ⟨j.toNat, hj⟩
              rw [show (((⟨j.toNat, hj⟩ : Fin 6).val : Nat) : Int) = j from by show ((j.toNat : Nat) : Int) = j; omega] at this
              exact this
            exact absurd z ((bit01' (a := 0) (by omega) ⟨hj0, hj1⟩).mp this)
          refine EI.k (c_isRight (d := d - 1) hS8) (by omega) (fun _ _ _ _ _ => ?_)
          rw [show bi (sc (setA s7 47 (fil (ia s7 47) 6 0)) 37 2 = -1) = 1 from bi_t hC8.fa]
          have e118 : sc (setA s7 47 (fil (ia s7 47) 6 0)) 37 11 = (a.length : Int) := by
            show sc s7 37 11 = _
            rw [hF7.s hk 11 (by decide)]; exact e115
          have e138 : sc (setA s7 47 (fil (ia s7 47) 6 0)) 37 13 = (b.length : Int) := by
            show sc s7 37 13 = _
            rw [hF7.s hk 13 (by decide)]; simp (config := {decide := true}) only [sc_S, ia_S, la_S, rv_S, sc_I, rv_I, la_I, ia_I, sc_L, rv_L, ia_L, la_L, sc_A, rv_A, la_A, ia_A, sc_B, rv_B, ia_B, la_B, sc_R, ia_R, la_R, rv_R, ia_w, la_w, rv_w, sc_w, if_true, if_false]; exact hb1'
          have a458 : hl (ia (setA s7 47 (fil (ia s7 47) 6 0)) 45) 0 a := by
            rw [ia_A, if_neg (by decide), hF7.a hk 45 (by decide) (by decide)]; exact a455
          have a468 : hl (ia (setA s7 47 (fil (ia s7 47) 6 0)) 46) 0 b := by
            rw [ia_A, if_neg (by decide), hF7.a hk 46 (by decide) (by decide)]; exact hb2
          have key : ∀ (n : Nat) (τ : SG) (ls : List Lk) (p' : Int) (m' : Int → Int), ls.length + n = 13 → ls.length ≤ 11 → SR τ → CP t e k true τ p' m' → LkC (ia τ 47) ls → sc τ 37 11 = (a.length : Int) → sc τ 37 13 = (b.length : Int) → hl (ia τ 45) 0 a → hl (ia τ 46) 0 b → Fz (Dk true k) σ τ → ((pLinks t e a.length b.length n ls p' m').bind fun ls p5 m5 => .ok (a, b, ls) p5 m5) = lessP t e (skp t e 0) m → aX6_readLesson_79 g ad d (Kv fun s => CX t e k true s (lessP t e (skp t e 0) m) (fun x => LsC s x) ∧ Fz (Dk true k) σ s) 0 0 τ 1 ls.length k := by
            intro n
            induction n with
            | zero => intro τ ls p' m' h1 h2; omega
            | succ n ih =>
              intro τ ls p' m' hln hl11 hSt hCPt hLk t11 t13 ha hb hFt hv
              have il : iR (ls.length : Int) := iR_of (by omega) (by omega)
              have il1 : iR ((ls.length : Int) + 1) := iR_of (by omega) (by omega)
              rw [pLinks] at hv
              refine bX6_readLesson_79 hk (iR_lit rfl) il hSt ⟨fun z => absurd z (by omega), fun _ => ⟨fun z => absurd z (by decide), fun _ => ?_⟩⟩
              refine Cl.vo (c_readLink (d := d - 1) hCPt hLk (by omega) t11 t13 (by omega) (by omega) hSt (by omega)) (by omega) (fun u2 hu2 h2' => ?_)
              obtain ⟨hX, hF⟩ := h2'
              have hFzu : Fz (Dk true k) σ u2 := hFt.y hF hk rfl rfl
              have u11 : sc u2 37 11 = (a.length : Int) := by rw [hF.s hk 11 (by decide)]; exact t11
              have u13 : sc u2 37 13 = (b.length : Int) := by rw [hF.s hk 13 (by decide)]; exact t13
              have ua : hl (ia u2 45) 0 a := by rw [hF.a hk 45 (by decide) (by decide)]; exact ha
              have ub : hl (ia u2 46) 0 b := by rw [hF.a hk 46 (by decide) (by decide)]; exact hb
              cases hpl : pLink t e a.length b.length ls p' m' with
              | error f1 =>
                rw [hpl] at hX hv
                obtain ⟨⟨m2', hC2⟩, hf1⟩ := hX
                refine EI.k (c_goesOn_bad (d := d - 1) hC2 hf1 il hu2 (by omega)) (by omega) (fun _ _ => ⟨il1, fun _ _ _ => ?_⟩)
                refine stop u2 0 _ hu2 (iR_lit rfl) il1 rfl ?_ hFzu
                have hv' : lessP t e (skp t e 0) m = .bad f1 := hv.symm
                rw [hv']
                exact ⟨⟨m2', hC2⟩, hf1⟩
              | ok rr_ =>
                obtain ⟨ls', q1, n1⟩ := rr_
                rw [hpl] at hX hv
                obtain ⟨hCP2, hLk2⟩ := hX
                have elen : ls'.length = ls.length + 1 := by
                  unfold pLink at hpl
                  rw [if_neg (by omega)] at hpl
                  cases hq1 : pNum t e ((a.length : Int) - 1) p' m' with
                  | error f => rw [hq1] at hpl; cases hpl
                  | ok rr_ =>
                    obtain ⟨w1, p6, m6⟩ := rr_
                    rw [hq1] at hpl
                    have hp6 : ((pNum t e ((b.length : Int) - 1) p6 m6).bind fun b p2 m2 => if (w1, b) ∈ ls then PR.bad p' else .ok (ls ++ [(w1, b)]) p2 m2) = PR.ok ls' q1 n1 := hpl
                    cases hq2 : pNum t e ((b.length : Int) - 1) p6 m6 with
                    | error f => rw [hq2] at hp6; cases hp6
                    | ok rr_ =>
                      obtain ⟨w2, p7, m7⟩ := rr_
                      rw [hq2] at hp6
                      have hp7 : (if (w1, w2) ∈ ls then PR.bad p' else PR.ok (ls ++ [(w1, w2)]) p7 m7) = PR.ok ls' q1 n1 := hp6
                      split at hp7
                      · cases hp7
                      · obtain ⟨z1, -, -⟩ := PR.inj hp7
                        rw [← z1, List.length_append, List.length_singleton]
                have hv' : ((if e ≤ q1 then PR.ok ls' q1 n1 else (pSign t e 59 q1 n1).bind fun _ p2 m2 => pLinks t e a.length b.length n ls' p2 m2).bind fun ls p5 m5 => .ok (a, b, ls) p5 m5) = lessP t e (skp t e 0) m := hv
                refine Cl.i (c_goesOn (d := d - 1) (D := Dk true k) hCP2 (i := (ls.length : Int)) (by omega) hu2 (by omega)) (by omega) (fun r3 s3 hr3 hS3 h3 => ⟨il1, fun ir3 _ _ => ?_⟩)
                obtain ⟨hA, hB, hF3⟩ := h3
                have hFz3 : Fz (Dk true k) σ s3 := hFzu.y hF3 hk rfl rfl
                by_cases c1 : e ≤ q1
                · rw [if_pos c1] at hv'
                  obtain ⟨rfl, rfl⟩ := hA c1
                  refine stop _ 0 _ hS3 (iR_lit rfl) il1 rfl ?_ hFz3
                  have hv'' : lessP t e (skp t e 0) m = .ok (a, b, ls') q1 n1 := hv'.symm
                  rw [hv'']
                  exact ⟨hCP2, u11, u13, ua, ub, hLk2, ⟨hsl, by show a.length ≤ 6; omega⟩, ⟨hbl, by show b.length ≤ 6; omega⟩⟩
                · rw [if_neg c1] at hv'
                  have hB' := hB c1
                  cases hps : pSign t e 59 q1 n1 with
                  | error f1 =>
                    rw [hps] at hB' hv'
                    obtain ⟨r0, hf1, hC3⟩ := hB'
                    refine stop s3 r3 _ hS3 ir3 il1 r0 ?_ hFz3
                    have hv'' : lessP t e (skp t e 0) m = .bad f1 := hv'.symm
                    rw [hv'']
                    exact ⟨⟨n1, hC3⟩, hf1⟩
                  | ok rr_ =>
                    obtain ⟨u9, q2, n2⟩ := rr_
                    rw [hps] at hB' hv'
                    obtain ⟨en2, hB1, hB2⟩ := hB'
                    have hv'' : ((pLinks t e a.length b.length n ls' q2 n1).bind fun ls p5 m5 => .ok (a, b, ls) p5 m5) = lessP t e (skp t e 0) m := by rw [← hv', en2]; rfl
                    by_cases c2 : (ls.length : Int) + 1 < 12
                    · obtain ⟨r1, hCP3⟩ := hB1 c2
                      rw [r1]
                      have := ih s3 ls' q2 n1 (by omega) (by omega) hS3 hCP3 (by rw [hF3.a hk 47 (by decide) (by decide)]; exact hLk2) (by rw [hF3.s hk 11 (by decide)]; exact u11) (by rw [hF3.s hk 13 (by decide)]; exact u13) (by rw [hF3.a hk 45 (by decide) (by decide)]; exact ua) (by rw [hF3.a hk 46 (by decide) (by decide)]; exact ub) hFz3 hv''
                      rw [elen] at this
                      exact this
                    · obtain ⟨r0, hq2, hC3⟩ := hB2 c2
                      refine stop s3 r3 _ hS3 ir3 il1 r0 ?_ hFz3
                      have en : n = 1 := by omega
                      subst en
                      have hpl2 : pLinks t e a.length b.length 1 ls' q2 n1 = .bad q2 := by
                        rw [pLinks]
                        unfold pLink
                        rw [if_pos (by omega)]
                        rfl
                      rw [hpl2] at hv''
                      have hv3' : lessP t e (skp t e 0) m = .bad q2 := hv''.symm
                      rw [hv3']
                      exact ⟨⟨n1, hC3⟩, hq2⟩
          exact key 13 _ [] p4 m4 rfl (Nat.zero_le _) hS8 ⟨hC8, e157⟩ hL8 e118 e138 a458 a468 hFz8 hv4.symm
end RDR5
