section KN2
variable {g : AG} {ad : Nat → Nat} {d : Nat} {σ : SG} {m t : Int → Int} {k : Nat} {n x F : Int}
theorem KI.shift {x' : Int} (h : KI σ m n x F) (hx : ∀ c, vC m c → (pc (c / 287) : Int) = n → x ≤ c → ia σ 59 c = -1 → x' ≤ c) : KI σ m n x' F := ⟨h.nb, h.vd, fun c a b => by
  rcases h.se c a b with z | ⟨z1, z2, z3 | z3⟩ | z
  · exact Or.inl z
  · exact Or.inr (Or.inl ⟨z1, z2, Or.inl z3⟩)
  · exact Or.inr (Or.inl ⟨z1, z2, Or.inr ⟨z3.1, hx c z2 z3.1 z3.2 z1⟩⟩)
  · exact Or.inr (Or.inr z), h.cl, h.po, h.mo, h.fi, h.c0, h.c1⟩
theorem KI.fr {s : SG} (h : KI σ m n x F) (hF : Fr (fun c => ¬ Kno c) σ s) : KI s m n x F := by
  have e59 : ia s 59 = ia σ 59 := hF.ia 59 (fun z => z ⟨by omega, by omega⟩)
  have e60 : ia s 60 = ia σ 60 := hF.ia 60 (fun z => z ⟨by omega, by omega⟩)
  have e62 : ia s 62 = ia σ 62 := hF.ia 62 (fun z => z ⟨by omega, by omega⟩)
  have e5 : sc s 58 5 = sc σ 58 5 := hF.sc 58 5 (fun z => z ⟨by omega, by omega⟩)
  refine ⟨?_, ?_, ?_, ?_, ?_, ?_, ?_, ?_, ?_⟩ <;> simp only [kN, kM, e59, e60, e62, e5]
  · exact h.nb
  · exact h.vd
  · exact h.se
  · exact h.cl
  · exact h.po
  · exact h.mo
  · exact h.fi
  · exact h.c0
  · exact h.c1
/-- a knot is numbered, and what can be come to from it is met -/
theorem KI.num {s : SG} {c : Int} (h : KI σ m n c F) (hW : WF m) (hF' : F ≤ n + 1) (hc : 0 ≤ c ∧ c < 18368) (hm : ia σ 59 c = -1) (hn : (pc (c / 287) : Int) = n) (hN : kN σ < 7913) (e5 : kN s = kN σ + 1) (e60 : ia s 60 = up (ia σ 60) (kN σ) c) (e62 : ia s 62 = ia σ 62) (e59 : ∀ c', (MetP m (ops m) (c / 287) (c % 41) c' → ia s 59 c' = -1) ∧ (¬ MetP m (ops m) (c / 287) (c % 41) c' → ia s 59 c' = up (ia σ 59) c (kN σ + 1) c')) : KI s m n (c + 1) F := by
  have hnb := h.nb
  have hvc : vC m c := by
    rcases h.se c hc.1 hc.2 with z | ⟨-, z, -⟩ | z
    · omega
    · exact z
    · omega
  have hb := vC_b hW.1 hvc
  -- those that are met now cover more
  have hmet : ∀ c', MetP m (ops m) (c / 287) (c % 41) c' → vC m c' ∧ n < pc (c' / 287) := by
    rintro c' ⟨q, hq, hz, rfl⟩
    have := cdB_s hW hb.1 hb.2.2.2 (ops_mem hq)
    have h2 := this.2.2.2.2 hz
    exact ⟨this.2.2.2.1, by omega⟩
  have hself : ¬ MetP m (ops m) (c / 287) (c % 41) c := fun z => by
    have := (hmet c z).2
    omega
  have es : ia s 59 c = kN σ + 1 := by rw [(e59 c).2 hself, up_at]
  have eo : ∀ i, 0 ≤ i → i < kN σ → ia s 60 i = ia σ 60 i := fun i a b => by rw [e60, up_ne (by omega)]
  have eN : ia s 60 (kN σ) = c := by rw [e60, up_at]
  have hold : ∀ i, 0 ≤ i → i < kN σ → ¬ MetP m (ops m) (c / 287) (c % 41) (ia σ 60 i) ∧ ¬ ia σ 60 i = c := fun i a b => ⟨fun z => by
    have h1 := (hmet _ z).2
    have h2 := h.po i a b
    unfold kM at h2
    omega, fun z => by
    have := (h.vd i a b).2
    rw [z] at this
    omega⟩
  refine ⟨by rw [e5]; omega, fun i a b => ?_, fun c' a b => ?_, fun i a b q hq hz => ?_, fun i a b => ?_, fun i j a b c' => ?_, fun n' a b => ?_, fun _ => ?_, fun z => by rw [e5] at z; omega⟩
  · rw [e5] at b
    by_cases ci : i < kN σ
    · rw [eo i a ci]
      have ho := hold i a ci
      refine ⟨(h.vd i a ci).1, ?_⟩
      rw [(e59 _).2 ho.1, up_ne ho.2]
      exact (h.vd i a ci).2
    · have : i = kN σ := by omega
      subst this
      rw [eN]
      exact ⟨hvc, es⟩
  · rw [e5]
    rcases Classical.em (MetP m (ops m) (c / 287) (c % 41) c') with z | z
    · have := hmet c' z
      exact Or.inr (Or.inl ⟨(e59 c').1 z, this.1, Or.inl this.2⟩)
    · rw [(e59 c').2 z]
      by_cases cc : c' = c
      · rw [cc, up_at]
        refine Or.inr (Or.inr ⟨by omega, by omega, ?_⟩)
        rw [show kN σ + 1 - 1 = kN σ by omega]
        exact eN
      · rw [up_ne cc]
        rcases h.se c' a b with y | ⟨y1, y2, y3⟩ | ⟨y1, y2, y3⟩
        · exact Or.inl y
        · refine Or.inr (Or.inl ⟨y1, y2, ?_⟩)
          rcases y3 with y3 | y3
          · exact Or.inl y3
          · exact Or.inr ⟨y3.1, by omega⟩
        · exact Or.inr (Or.inr ⟨y1, by omega, by rw [eo _ (by omega) (by omega)]; exact y3⟩)
  · rw [e5] at b
    unfold kM at hz ⊢
    by_cases ci : i < kN σ
    · rw [eo i a ci] at hz ⊢
      have h1 := h.cl i a ci q hq hz
      intro z
      rcases Classical.em (MetP m (ops m) (c / 287) (c % 41) (cdB m (ia σ 60 i / 287) (ia σ 60 i % 41) q)) with y | y
      · rw [(e59 _).1 y] at z
        omega
      · rw [(e59 _).2 y] at z
        by_cases cc : cdB m (ia σ 60 i / 287) (ia σ 60 i % 41) q = c
        · rw [cc, up_at] at z
          omega
        · rw [up_ne cc] at z
          exact h1 z
    · have : i = kN σ := by omega
      subst this
      rw [eN] at hz ⊢
      rw [(e59 _).1 ⟨q, hq, hz, rfl⟩]
      decide
  · rw [e5] at b
    unfold kM
    by_cases ci : i < kN σ
    · rw [eo i a ci]
      exact h.po i a ci
    · have : i = kN σ := by omega
      subst this
      rw [eN]
      omega
  · rw [e5] at c'
    unfold kM
    by_cases cj : j < kN σ
    · rw [eo i a (by omega), eo j (by omega) cj]
      exact h.mo i j a b cj
    · have : j = kN σ := by omega
      subst this
      rw [eN]
      by_cases ci : i < kN σ
      · rw [eo i a ci]
        have := h.po i a ci
        unfold kM at this
        omega
      · have : i = kN σ := by omega
        subst this
        rw [eN]
        exact Nat.le_refl _
  · rw [e62, e5]
    have hf := h.fi n' a b
    refine ⟨by omega, fun i a' b' => ?_⟩
    unfold kM
    by_cases ci : i < kN σ
    · rw [eo i a' ci]
      exact hf.2 i a' ci
    · have : i = kN σ := by omega
      subst this
      rw [eN]
      omega
  · by_cases cn : kN σ = 0
    · have := (h.c1 cn).2 c hc.1 hc.2 hm
      rw [e60, cn, up_at]
      exact this
    · rw [eo 0 (by omega) (by omega)]
      exact h.c0 (by omega)
def bcP (p a b : Int) : Int := ((ir b (p + 1)).filter (mE a)).length
def mcP (p n a : Int) : Int := ((ir a (2 ^ p.toNat)).map (fun a => if (pc a : Int) = n then bcP p a 0 else 0)).sum
def ncP (p n : Int) : Int := ((ir n (p + 1)).map (fun n => mcP p n 0)).sum
theorem ncP_all : ∀ p : Fin 7, ncP (p.val : Int) 0 ≤ 193 := by decide +kernel
theorem n_exploreMask {a R : Int} (hk : isK k) (hO : OPT σ m k) (hW : WF m) (hI : KI σ m n (a * 287) F) (hF' : F ≤ n + 1) (ha : 0 ≤ a ∧ a ≤ fullM m) (hn : (pc a : Int) = n) (hR : 0 ≤ R ∧ kN σ + 41 * (bcP (m 3) a 0 + R) ≤ 7913) (hS : SR σ) (hd : 2 ≤ d) : Eb g ad d mX1_exploreMask 0 0 [.ref (ad 58), vi a] σ (Kv fun s => KI s m n ((a + 1) * 287) F ∧ Fr Kno σ s ∧ kN s + 41 * R ≤ 7913) := by
  have hf := fullM_b hW.1
  have h3 := hW.1.2.2.2.1
  have ia_ : iR a := iR_of (by omega) (by omega)
  refine EbS rfl pl_X1 rfl rfl (bX1_exploreMask_0 ia_ hS ?_)
  intro _ _ _
  refine up_loop (P := fun b => ∀ τ : SG, SR τ → Fr Kno σ τ → KI τ m n ((a * 7 + b) * 41) F → kN τ + 41 * (bcP (m 3) a b + R) ≤ 7913 → aX1_exploreMask_2 g ad d (Kv fun s => KI s m n ((a + 1) * 287) F ∧ Fr Kno σ s ∧ kN s + 41 * R ≤ 7913) 0 0 τ a b) (hi := m 3 + 1) 0 (by omega) ?_ ?_ σ hS (Fr.refl σ) (hI.shift (fun c _ _ z _ => by omega)) hR.2
  · intro τ hSt hF hIt hN
    have h10 : sc τ 48 10 = m 3 := (hO.fr hF (fun c hc => Kno_O c hc)).pl
    refine bX1_exploreMask_2 ia_ (iR_of (by omega) (by omega)) hSt ⟨fun _ => re_v ⟨?_, hF, ?_⟩, fun z => absurd (by rw [h10]; omega) z⟩
    · refine hIt.shift (fun c hv _ hx _ => ?_)
      have h1 := hv.1
      have h2 := hv.2.2.1
      omega
    · have : bcP (m 3) a (m 3 + 1) = 0 := by
        unfold bcP
        rw [ir_nil (Int.le_refl _)]
        rfl
      omega
  · intro b hb0 hb1 ihb τ hSt hF hIt hN
    have h10 : sc τ 48 10 = m 3 := (hO.fr hF (fun c hc => Kno_O c hc)).pl
    have ib : iR b := iR_of (by omega) (by omega)
    refine bX1_exploreMask_2 ia_ ib hSt ⟨fun z => absurd z (by rw [h10]; omega), fun _ => ?_⟩
    refine EI.k (mE_b01 (d := d - 1) (by omega) (by omega) hSt) (by omega) (fun _ _ => ?_)
    have hbc : bcP (m 3) a b = (if mE a b = true then 1 else 0) + bcP (m 3) a (b + 1) := by
      unfold bcP
      rw [ir_cons hb1]
      by_cases c : mE a b = true
      · rw [List.filter_cons_of_pos c, List.length_cons, if_pos c]; omega
      · rw [List.filter_cons_of_neg c, if_neg c]; omega
    refine bi_zn (fun cE => ?_) (fun cE => ?_)
    · rw [if_pos cE] at hbc
      intro _ _ _ _ _
      refine up_loop (P := fun l => ∀ τ : SG, SR τ → Fr Kno σ τ → KI τ m n ((a * 7 + b) * 41 + l) F → kN τ + 41 * (bcP (m 3) a (b + 1) + R) + (41 - l) ≤ 7913 → aX1_exploreMask_31 g ad d (Kv fun s => KI s m n ((a + 1) * 287) F ∧ Fr Kno σ s ∧ kN s + 41 * R ≤ 7913) 0 0 τ a b 41 l) (hi := 41) 0 (by omega) ?_ ?_ τ hSt hF (by rw [Int.add_zero]; exact hIt) (by omega)
      · intro τ hSt hF hIt hN
        refine bX1_exploreMask_31 ia_ ib (iR_lit rfl) (iR_lit rfl) hSt ⟨fun _ => ⟨iR_of (by omega) (by omega), fun _ _ _ => ihb τ hSt hF ?_ (by omega)⟩, fun z => absurd (by decide) z⟩
        rw [show (a * 7 + (b + 1)) * 41 = (a * 7 + b) * 41 + 41 by omega]
        exact hIt
      · intro l hl0 hl1 ihl τ hSt hF hIt hN
        have il : iR l := iR_of (by omega) (by omega)
        have il1 : iR (l + 1) := iR_of (by omega) (by omega)
        have hnn := hIt.nb
        have hnn' : 0 ≤ sc τ 58 5 ∧ sc τ 58 5 ≤ 7913 := hIt.nb
        have hbc0 : 0 ≤ bcP (m 3) a (b + 1) := by unfold bcP; omega
        have hcr : 0 ≤ (a * 7 + b) * 41 + l ∧ (a * 7 + b) * 41 + l < 18368 := ⟨by omega, by omega⟩
        have hcd : ((a * 7 + b) * 41 + l) / 287 = a ∧ ((a * 7 + b) * 41 + l) % 41 = l := by omega
        have hlv : ia τ 59 ((a * 7 + b) * 41 + l) = -1 → l = 40 ∨ l < m 0 := fun c1 => by
          rcases hIt.se _ hcr.1 hcr.2 with z | ⟨-, z, -⟩ | z
          · omega
          · have := z.2.2.2.2
            rw [hcd.2] at this
            exact this
          · omega
        have skip : ¬ ia τ 59 ((a * 7 + b) * 41 + l) = -1 → aX1_exploreMask_31 g ad d (Kv fun s => KI s m n ((a + 1) * 287) F ∧ Fr Kno σ s ∧ kN s + 41 * R ≤ 7913) 0 0 τ a b 41 (l + 1) := fun c1 => by
          refine ihl τ hSt hF (hIt.shift (fun c _ _ hx hm => ?_)) (by omega)
          have : ¬ c = (a * 7 + b) * 41 + l := fun z => c1 (by rw [← z]; exact hm)
          omega
        refine bX1_exploreMask_31 ia_ ib (iR_lit rfl) il hSt ⟨fun z => absurd z (by omega), fun _ => ⟨hcr, fun c1 => ⟨il1, fun _ _ _ _ _ => skip c1⟩, fun c1 => ⟨fun c2 => absurd c2 (by show ¬ 7913 ≤ kN τ; omega), fun c2 => ?_⟩⟩⟩
        simp (config := {decide := true}) only [sc_S, ia_S, la_S, rv_S, sc_I, rv_I, la_I, ia_I, sc_L, rv_L, ia_L, la_L, sc_A, rv_A, la_A, ia_A, sc_B, rv_B, ia_B, la_B, sc_R, ia_R, la_R, rv_R, ia_w, la_w, rv_w, sc_w, if_true, if_false]
        refine ⟨⟨hnn.1, by omega⟩, iR_of (by omega) (by omega), iR_of (by omega) (by omega), ?_⟩
        generalize hs0 : setI (setS (setI τ 60 (sc τ 58 5) ((a * 7 + b) * 41 + l)) 58 5 (sc τ 58 5 + 1)) 59 ((a * 7 + b) * 41 + l) (sc τ 58 5 + 1) = s0
        have hF0 : Fr Kno τ s0 := by
          rw [← hs0]
          exact (((Fr.refl τ).I ⟨by omega, by omega⟩).S ⟨by omega, by omega⟩).I ⟨by omega, by omega⟩
        have hSs0 : SR s0 := by
          rw [← hs0]
          exact SR_setI (SR_setS (SR_setI hSt (iR_of (by omega) (by omega))) (iR_of (by omega) (by omega))) (iR_of (by omega) (by omega))
        have e5 : kN s0 = kN τ + 1 := by rw [← hs0]; unfold kN; simp (config := {decide := true}) only [sc_S, ia_S, la_S, rv_S, sc_I, rv_I, la_I, ia_I, sc_L, rv_L, ia_L, la_L, sc_A, rv_A, la_A, ia_A, sc_B, rv_B, ia_B, la_B, sc_R, ia_R, la_R, rv_R, ia_w, la_w, rv_w, sc_w, if_true, if_false]
        have e60 : ia s0 60 = up (ia τ 60) (kN τ) ((a * 7 + b) * 41 + l) := by rw [← hs0]; simp (config := {decide := true}) only [sc_S, ia_S, la_S, rv_S, sc_I, rv_I, la_I, ia_I, sc_L, rv_L, ia_L, la_L, sc_A, rv_A, la_A, ia_A, sc_B, rv_B, ia_B, la_B, sc_R, ia_R, la_R, rv_R, ia_w, la_w, rv_w, sc_w, if_true, if_false]
        have e62 : ia s0 62 = ia τ 62 := by rw [← hs0]; simp (config := {decide := true}) only [sc_S, ia_S, la_S, rv_S, sc_I, rv_I, la_I, ia_I, sc_L, rv_L, ia_L, la_L, sc_A, rv_A, la_A, ia_A, sc_B, rv_B, ia_B, la_B, sc_R, ia_R, la_R, rv_R, ia_w, la_w, rv_w, sc_w, if_true, if_false]
        have e59 : ia s0 59 = up (ia τ 59) ((a * 7 + b) * 41 + l) (kN τ + 1) := by rw [← hs0]; simp (config := {decide := true}) only [sc_S, ia_S, la_S, rv_S, sc_I, rv_I, la_I, ia_I, sc_L, rv_L, ia_L, la_L, sc_A, rv_A, la_A, ia_A, sc_B, rv_B, ia_B, la_B, sc_R, ia_R, la_R, rv_R, ia_w, la_w, rv_w, sc_w, if_true, if_false]
        have hOt := hO.fr (hF.trans hF0) (fun c hc => Kno_O c hc)
        refine Cl.vo (n_meetFrom (d := d - 1) hOt hW ha ⟨hl0, hlv c1⟩ hSs0 (by omega)) (by omega) (fun s8 hS8 h8 => ⟨il1, fun _ _ _ _ _ => ?_⟩)
        obtain ⟨hF8, hsc8, h59⟩ := h8
        have hF8' : Fr Kno s0 s8 := hF8.mono (fun c hc => by rw [hc]; exact ⟨by omega, by omega⟩)
        refine ihl s8 hS8 (hF.trans (hF0.trans hF8')) ?_ ?_
        · rw [← Int.add_assoc]
          refine hIt.num hW hF' hcr c1 (by rw [hcd.1]; exact hn) (by omega) ?_ ?_ ?_ (fun c' => ?_)
          · show sc s8 58 5 = _
            rw [hsc8]
            exact e5
          · rw [hF8.ia 60 (by omega)]; exact e60
          · rw [hF8.ia 62 (by omega)]; exact e62
          · rw [hcd.1, hcd.2, ← e59]
            exact h59 c'
        · have : kN s8 = kN τ + 1 := by
            show sc s8 58 5 = _
            rw [hsc8]
            exact e5
          omega
    · rw [if_neg cE] at hbc
      intro _ _ _ _ _
      refine bX1_exploreMask_31 ia_ ib (iR_lit rfl) (iR_lit rfl) hSt ⟨fun _ => ⟨iR_of (by omega) (by omega), fun _ _ _ => ihb τ hSt hF ?_ (by omega)⟩, fun z => absurd (by decide) z⟩
      refine hIt.shift (fun c hv _ hx _ => ?_)
      rcases Classical.em ((a * 7 + (b + 1)) * 41 ≤ c) with z | z
      · exact z
      · exfalso
        have e1 : c / 287 = a := by omega
        have e2 : c / 41 % 7 = b := by omega
        have := hv.2.2.2.1
        rw [e1, e2] at this
        exact cE this
/-- ahead of the knots that cover n places -/
def KQ (s : SG) (m : Int → Int) (n : Int) : Prop := KI s m n 0 n ∧ ∀ i, 0 ≤ i → i < kN s → (pc (kM s i) : Int) < n
theorem KI.next (h : KI σ m n x (n + 1)) (hx : ∀ c, vC m c → (pc (c / 287) : Int) = n → ¬ x ≤ c) : KQ σ m (n + 1) := by
  refine ⟨⟨h.nb, h.vd, fun c a b => ?_, h.cl, fun i a b => ?_, h.mo, h.fi, h.c0, h.c1⟩, fun i a b => ?_⟩
  · rcases h.se c a b with z | ⟨z1, z2, z3 | z3⟩ | z
    · exact Or.inl z
    · by_cases c2 : (pc (c / 287) : Int) = n + 1
      · exact Or.inr (Or.inl ⟨z1, z2, Or.inr ⟨c2, a⟩⟩)
      · exact Or.inr (Or.inl ⟨z1, z2, Or.inl (by omega)⟩)
    · exact absurd z3.2 (hx c z2 z3.1)
    · exact Or.inr (Or.inr z)
  · have := h.po i a b; omega
  · have := h.po i a b; omega
theorem KQ.first (h : KQ σ m n) (hn : 0 ≤ n) : KI (setI σ 62 n (kN σ)) m n 0 (n + 1) := by
  have h1 := h.1
  have hnb := h1.nb
  refine ⟨h1.nb, h1.vd, h1.se, h1.cl, h1.po, h1.mo, fun n' a b => ?_, h1.c0, h1.c1⟩
  rw [ia_I, if_pos rfl]
  by_cases c : n' = n
  · rw [c, up_at]
    refine ⟨⟨hnb.1, Int.le_refl _⟩, fun i a' b' => ⟨fun _ => h.2 i a' b', fun _ => b'⟩⟩
  · rw [up_ne c]
    exact h1.fi n' a (by omega)
theorem n_explore (hk : isK k) (hO : OPT σ m k) (hW : WF m) (hC : KCl σ) (hS : SR σ) (hd : 3 ≤ d) : Eb g ad d mX1_explore 0 0 [.ref (ad 58)] σ (Kv fun s => KNT s m ∧ Fr Kno σ s) := by
  have hf := fullM_b hW.1
  have h3 := hW.1.2.2.2.1
  refine EbS rfl pl_X1 rfl rfl (bX1_explore_0 hS ?_)
  intro _ _
  -- all is cleared
  refine up_loop (P := fun i => ∀ τ : SG, SR τ → Fr Kno σ τ → sc τ = sc σ → ia τ 60 = ia σ 60 → (∀ c, 0 ≤ c → c < 18368 → ¬ ia τ 59 c = 0 → ∃ j, (i ≤ j ∧ j < kN σ) ∧ ia σ 60 j = c) → aX1_explore_2 g ad d (Kv fun s => KNT s m ∧ Fr Kno σ s) 0 0 τ i) (hi := kN σ) 0 hC.1.1 ?_ ?_ σ hS (Fr.refl σ) rfl rfl hC.2.2
  rotate_left
  · intro i hi0 hi1 ih τ hSt hF hsc h60 hcl
    have hb := hC.2.1 i hi0 hi1
    refine bX1_explore_2 (iR_of (by omega) (by have := hC.1.2; omega)) hSt ⟨fun z => absurd z (by rw [hsc]; show ¬ kN σ ≤ i; omega), fun _ => ⟨⟨hi0, by have := hC.1.2; omega⟩, by rw [h60]; exact hb, iR_of (by omega) (by have := hC.1.2; omega), fun _ hS2 => ih _ hS2 (hF.I ⟨by omega, by omega⟩) hsc h60 (fun c a b z => ?_)⟩⟩
    rw [ia_I, if_pos rfl, h60] at z
    by_cases cc : c = ia σ 60 i
    · rw [cc, up_at] at z
      exact absurd rfl z
    · rw [up_ne cc] at z
      obtain ⟨j, hj, e⟩ := hcl c a b z
      refine ⟨j, ⟨?_, hj.2⟩, e⟩
      have : ¬ j = i := fun y => cc (by rw [← e, y])
      omega
  intro τ hSt hF hsc h60 hcl
  have hz : ∀ c, 0 ≤ c → c < 18368 → ia τ 59 c = 0 := fun c a b => by
    rcases Classical.em (ia τ 59 c = 0) with z | z
    · exact z
    · obtain ⟨j, hj, -⟩ := hcl c a b z
      omega
  refine bX1_explore_2 (iR_of (by have := hC.1.1; omega) (by have := hC.1.2; omega)) hSt ⟨fun _ => ?_, fun z => absurd (by rw [hsc]; exact Int.le_refl _) z⟩
  intro _ hS1
  have hF1 : Fr Kno σ (setI (setS τ 58 5 0) 59 40 (-1)) := (hF.S ⟨by omega, by omega⟩).I ⟨by omega, by omega⟩
  have e5 : kN (setI (setS τ 58 5 0) 59 40 (-1)) = 0 := by unfold kN; simp (config := {decide := true}) only [sc_S, ia_S, la_S, rv_S, sc_I, rv_I, la_I, ia_I, sc_L, rv_L, ia_L, la_L, sc_A, rv_A, la_A, ia_A, sc_B, rv_B, ia_B, la_B, sc_R, ia_R, la_R, rv_R, ia_w, la_w, rv_w, sc_w, if_true, if_false]
  have e59 : ia (setI (setS τ 58 5 0) 59 40 (-1)) 59 = up (ia τ 59) 40 (-1) := by simp (config := {decide := true}) only [sc_S, ia_S, la_S, rv_S, sc_I, rv_I, la_I, ia_I, sc_L, rv_L, ia_L, la_L, sc_A, rv_A, la_A, ia_A, sc_B, rv_B, ia_B, la_B, sc_R, ia_R, la_R, rv_R, ia_w, la_w, rv_w, sc_w, if_true, if_false]
  generalize setI (setS τ 58 5 0) 59 40 (-1) = s1 at hS1 hF1 e5 e59
  have hKQ : KQ s1 m 0 := by
    refine ⟨⟨by omega, fun i a b => by omega, fun c a b => ?_, fun i a b => by omega, fun i a b => by omega, fun i j a b c => by omega, fun n' a b => by omega, fun z => by omega, fun _ => ⟨by rw [e59, up_at], fun c a b z => ?_⟩⟩, fun i a b => by omega⟩
    · rw [e59]
      by_cases cc : c = 40
      · subst cc
        rw [up_at]
        exact Or.inr (Or.inl ⟨rfl, ⟨⟨by omega, by omega⟩, hf.1, h3.1, rfl, Or.inl rfl⟩, Or.inr ⟨rfl, by omega⟩⟩)
      · rw [up_ne cc]
        exact Or.inl (hz c a b)
    · rcases Classical.em (c = 40) with y | y
      · exact y
      · rw [e59, up_ne y, hz c a b] at z
        omega
  have hcnt : kN s1 + 41 * ncP (m 3) 0 ≤ 7913 := by
    have h1 : (m 3).toNat < 7 := by omega
    have := ncP_all ⟨(m 3).toNat, h1⟩
    rw [show (((⟨(m 3).toNat, h1⟩ : Fin 7).val : Nat) : Int) = m 3 from by show (((m 3).toNat : Nat) : Int) = _; omega] at this
    omega
  have hsum : ∀ l : List Int, (∀ v ∈ l, 0 ≤ v) → 0 ≤ l.sum := by
    intro l
    induction l with
    | nil => intro _; exact Int.le_refl _
    | cons v l ih =>
      intro h
      rw [List.sum_cons]
      have h1 := h v (List.mem_cons_self ..)
      have h2 := ih (fun w hw => h w (List.mem_cons_of_mem _ hw))
      omega
  have hbc0 : ∀ a b, 0 ≤ bcP (m 3) a b := fun a b => by unfold bcP; omega
  have hmc0 : ∀ n a, 0 ≤ mcP (m 3) n a := fun n a => hsum _ (fun v hv => by
    obtain ⟨w, -, e⟩ := List.mem_map.mp hv
    rw [← e]
    split
    · exact hbc0 _ _
    · exact Int.le_refl _)
  have hnc0 : ∀ n, 0 ≤ ncP (m 3) n := fun n => hsum _ (fun v hv => by
    obtain ⟨w, -, e⟩ := List.mem_map.mp hv
    rw [← e]
    exact hmc0 _ _)
  refine up_loop (P := fun n => ∀ τ : SG, SR τ → Fr Kno σ τ → KQ τ m n → kN τ + 41 * ncP (m 3) n ≤ 7913 → aX1_explore_43 g ad d (Kv fun s => KNT s m ∧ Fr Kno σ s) 0 0 τ n) (hi := m 3 + 1) 0 (by omega) ?_ ?_ s1 hS1 hF1 hKQ hcnt
  · intro τ hSt hF hQ hN
    have h10 : sc τ 48 10 = m 3 := (hO.fr hF (fun c hc => Kno_O c hc)).pl
    refine bX1_explore_43 (iR_of (by omega) (by omega)) hSt ⟨fun _ => ?_, fun z => absurd (by rw [h10]; omega) z⟩
    rw [h10]
    refine ⟨⟨by omega, by omega⟩, re_v ⟨?_, hF.I ⟨by omega, by omega⟩⟩⟩
    have hI := hQ.first (by omega)
    have hnm : ∀ c, 0 ≤ c → c < 18368 → ¬ ia τ 59 c = -1 := fun c a b z => by
      rcases hI.se c a b with y | ⟨y1, y2, y3⟩ | ⟨y1, -, -⟩
      · have y' : ia τ 59 c = 0 := y
        omega
      · have := (full_pc hW.1 (vC_b hW.1 y2).1).1
        omega
      · have y' : 1 ≤ ia τ 59 c := y1
        omega
    have hN1 : ¬ kN τ = 0 := fun z => hnm 40 (by omega) (by omega) (hQ.1.c1 z).1
    refine ⟨⟨by have := hI.nb.1; show 1 ≤ kN τ; have h5 : 0 ≤ kN τ := this; omega, hI.nb.2⟩, hI.c0 (by show 1 ≤ kN τ; have h5 : 0 ≤ kN τ := hI.nb.1; omega), hI.vd, fun c a b => ?_, fun i a b q hq hz2 => ?_, hI.mo, fun n' a b => hI.fi n' a (by omega)⟩
    · rcases hI.se c a b with y | ⟨y1, -, -⟩ | y
      · exact Or.inl y
      · exact absurd y1 (hnm c a b)
      · exact Or.inr y
    · have hv := hI.vd i a b
      have hvb := vC_b hW.1 hv.1
      have hcd := cdB_s hW hvb.1 hvb.2.2.2 (ops_mem hq)
      have hne := hI.cl i a b q hq hz2
      have hpc := hcd.2.2.2.2 hz2
      generalize hc' : cdB m (kM (setI τ 62 (m 3 + 1) (kN τ)) i) (ia (setI τ 62 (m 3 + 1) (kN τ)) 60 i % 41) q = c' at hne ⊢
      have hc'' : cdB m (ia (setI τ 62 (m 3 + 1) (kN τ)) 60 i / 287) (ia (setI τ 62 (m 3 + 1) (kN τ)) 60 i % 41) q = c' := hc'
      rw [hc''] at hcd hpc
      have hcr := hcd.2.2.2.1.1
      rcases hI.se c' hcr.1 hcr.2 with y | ⟨y1, -, -⟩ | ⟨y1, y2, y3⟩
      · exact absurd y hne
      · exact absurd y1 (hnm c' hcr.1 hcr.2)
      · rcases Classical.em (i + 1 < ia (setI τ 62 (m 3 + 1) (kN τ)) 59 c') with w | w
        · exact w
        · exfalso
          have := hI.mo (ia (setI τ 62 (m 3 + 1) (kN τ)) 59 c' - 1) i (by omega) (by omega) b
          unfold kM at this
          rw [y3] at this
          omega
  · intro n hn0 hn1 ihn τ hSt hF hQ hN
    have h10 : sc τ 48 10 = m 3 := (hO.fr hF (fun c hc => Kno_O c hc)).pl
    have inn : iR n := iR_of (by omega) (by omega)
    have hI := hQ.first hn0
    have enc : ncP (m 3) n = mcP (m 3) n 0 + ncP (m 3) (n + 1) := by
      unfold ncP
      rw [ir_cons hn1, List.map_cons, List.sum_cons]
    refine bX1_explore_43 inn hSt ⟨fun z => absurd z (by rw [h10]; omega), fun _ => ⟨⟨hn0, by omega⟩, ?_⟩⟩
    intro _ _ hS2
    refine up_loop (P := fun a => ∀ τ : SG, SR τ → Fr Kno σ τ → KI τ m n (a * 287) (n + 1) → kN τ + 41 * (mcP (m 3) n a + ncP (m 3) (n + 1)) ≤ 7913 → aX1_explore_66 g ad d (Kv fun s => KNT s m ∧ Fr Kno σ s) 0 0 τ n a) (hi := fullM m + 1) 0 (by omega) ?_ ?_ _ hS2 (hF.I ⟨by omega, by omega⟩) hI (by show kN τ + _ ≤ _; omega)
    · intro τ hSt hF hI hN
      have hO' := hO.fr hF (fun c hc => Kno_O c hc)
      refine bX1_explore_66 inn (iR_of (by omega) (by omega)) hSt ?_
      refine EI.k (o_full (d := d - 1) hO' hW hSt) (by omega) (fun _ _ => ⟨fun _ => ⟨iR_of (by omega) (by omega), fun _ _ => ihn τ hSt hF (hI.next (fun c hv _ z => ?_)) ?_⟩, fun z => absurd (by omega) z⟩)
      · have := hv.2.1
        omega
      · have := hmc0 n (fullM m + 1)
        omega
    · intro a ha0 ha1 iha τ hSt hF hI hN
      have hO' := hO.fr hF (fun c hc => Kno_O c hc)
      have ia_ : iR a := iR_of (by omega) (by omega)
      have ia1 : iR (a + 1) := iR_of (by omega) (by omega)
      have emc : mcP (m 3) n a = (if (pc a : Int) = n then bcP (m 3) a 0 else 0) + mcP (m 3) n (a + 1) := by
        unfold mcP
        rw [ir_cons (by have : fullM m = 2 ^ (m 3).toNat - 1 := rfl; omega), List.map_cons, List.sum_cons]
      refine bX1_explore_66 inn ia_ hSt ?_
      refine EI.k (o_full (d := d - 1) hO' hW hSt) (by omega) (fun _ _ => ⟨fun z => absurd z (by omega), fun _ => ?_⟩)
      refine EI.k (j_bitCount (d := d - 1) (by omega) hSt) (by omega) (fun _ _ => ⟨fun c => ⟨ia1, fun _ _ _ => iha τ hSt hF (hI.shift (fun c' _ hp hx _ => ?_)) ?_⟩, fun c => ?_⟩)
      · rcases Classical.em ((a + 1) * 287 ≤ c') with z | z
        · exact z
        · exfalso
          have e : c' / 287 = a := by omega
          rw [e] at hp
          exact c hp
      · rw [if_neg c] at emc
        omega
      · rw [if_pos c] at emc
        have h1 := hmc0 n (a + 1)
        have h2 := hnc0 (n + 1)
        refine Cl.vo (n_exploreMask (d := d - 1) (R := mcP (m 3) n (a + 1) + ncP (m 3) (n + 1)) hk hO' hW hI (Int.le_refl _) ⟨ha0, by omega⟩ c ⟨by omega, by omega⟩ hSt (by omega)) (by omega) (fun s5 hS5 h5 => ⟨ia1, fun _ _ _ => iha s5 hS5 (hF.trans h5.2.1) h5.1 h5.2.2⟩)
end KN2
