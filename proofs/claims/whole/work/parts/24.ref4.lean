section L3F
variable {g : AG} {ad : Nat → Nat} {d : Nat} {σ : SG}
/-- but for the arrays A and the reference's numbers K all is as it was -/
def Fm (A K : List Nat) (σ s : SG) : Prop := rv s = rv σ ∧ la s = la σ ∧ (∀ c, c ∉ A → ia s c = ia σ c) ∧ (∀ c k, ¬ (c = 102 ∧ k ∈ K) → sc s c k = sc σ c k)
theorem Fm.refl {A K : List Nat} (σ : SG) : Fm A K σ σ := ⟨rfl, rfl, fun _ _ => rfl, fun _ _ _ => rfl⟩
theorem Fm.trans {A K : List Nat} {σ s t : SG} (h1 : Fm A K σ s) (h2 : Fm A K s t) : Fm A K σ t := ⟨h2.1.trans h1.1, h2.2.1.trans h1.2.1, fun c hc => (h2.2.2.1 c hc).trans (h1.2.2.1 c hc), fun c k hk => (h2.2.2.2 c k hk).trans (h1.2.2.2 c k hk)⟩
theorem Fm.mono {A K A' K' : List Nat} {σ s : SG} (h : Fm A K σ s) (hA : ∀ c ∈ A, c ∈ A') (hK : ∀ k ∈ K, k ∈ K') : Fm A' K' σ s := ⟨h.1, h.2.1, fun c hc => h.2.2.1 c (fun q => hc (hA c q)), fun c k hk => h.2.2.2 c k (fun q => hk ⟨q.1, hK k q.2⟩)⟩
theorem Fm.setS {A K : List Nat} {σ s : SG} (h : Fm A K σ s) {k : Nat} {v : Int} (hk : k ∈ K) : Fm A K σ (setS s 102 k v) := by
  refine ⟨h.1, h.2.1, h.2.2.1, fun c j hj => ?_⟩
  refine Eq.trans ?_ (h.2.2.2 c j hj)
  show u2 s.1 102 k v c j = s.1 c j
  unfold u2
  rw [if_neg]
  rintro ⟨rfl, rfl⟩
  exact hj ⟨rfl, hk⟩
theorem Fm.setA {A K : List Nat} {σ s : SG} (h : Fm A K σ s) {c : Nat} {f : Int → Int} (hc : c ∈ A) : Fm A K σ (setA s c f) := by
  refine ⟨h.1, h.2.1, fun j hj => ?_, h.2.2.2⟩
  refine Eq.trans ?_ (h.2.2.1 j hj)
  show u1 s.2.2.1 c f j = s.2.2.1 j
  unfold u1
  rw [if_neg]
  rintro rfl
  exact hj hc
theorem Fm.setI {A K : List Nat} {σ s : SG} (h : Fm A K σ s) {c : Nat} {i v : Int} (hc : c ∈ A) : Fm A K σ (setI s c i v) := Fm.setA h hc
theorem Fm.wst {A K : List Nat} {σ s : SG} (h : Fm A K σ s) {c l : Int} (h1 : 22 ∈ K) (h2 : 23 ∈ K) : Fm A K σ (wst s c l) := Fm.setS (Fm.setS h h1) h2
theorem ia_setI {σ : SG} {c : Nat} {i v : Int} : ia (setI σ c i v) c = up (ia σ c) i v := u1_at
theorem ia_setI_ne {σ : SG} {c b : Nat} {i v : Int} (h : b ≠ c) : ia (setI σ c i v) b = ia σ b := u1_row h
theorem ia_setA {σ : SG} {c : Nat} {f : Int → Int} : ia (setA σ c f) c = f := u1_at
theorem ia_setA_ne {σ : SG} {c b : Nat} {f : Int → Int} (h : b ≠ c) : ia (setA σ c f) b = ia σ b := u1_row h
theorem up_at {f : Int → Int} {k v : Int} : up f k v k = v := if_pos rfl
theorem up_ne {f : Int → Int} {k v j : Int} (h : j ≠ k) : up f k v j = f j := if_neg h
/-- the table of what is left: each entry is none, or right -/
def LV (m f : Int → Int) : Prop := ∀ set place last, 0 ≤ set → set ≤ 63 → 0 ≤ place → place ≤ 6 → -1 ≤ last → last < m 0 → f ((set * 7 + place) * 42 + last + 1) = -1 ∨ f ((set * 7 + place) * 42 + last + 1) = restM m set place last
theorem LV.up {m f : Int → Int} (h : LV m f) (hW : W0 m) {set place last : Int} (hs : 0 ≤ set ∧ set ≤ 63) (hp : 0 ≤ place ∧ place ≤ 6) (hl : -1 ≤ last ∧ last < m 0) : LV m (up f ((set * 7 + place) * 42 + last + 1) (restM m set place last)) := by
  have h0 := hW.1
  intro a b c a0 a1 b0 b1 c0 c1
  by_cases e : (a * 7 + b) * 42 + c + 1 = (set * 7 + place) * 42 + last + 1
  · have e1 : a = set := by omega
    have e2 : b = place := by omega
    have e3 : c = last := by omega
    subst e1; subst e2; subst e3
    rw [up_at]
    exact Or.inr rfl
  · rw [up_ne e]
    exact h a b c a0 a1 b0 b1 c0 c1
theorem e_rest : ∀ (n : Nat) {d : Nat} {σ : SG} {x1 x2 x3 : Int}, 7 - pc x1 ≤ n → n + 3 ≤ d → (0 ≤ x1 ∧ x1 ≤ 63) → (0 ≤ x2 ∧ x2 ≤ 6) → (-1 ≤ x3 ∧ x3 < ia σ 103 0) → WF (ia σ 103) → SR σ → LV (ia σ 103) (ia σ 112) →
    Eb g ad d mX11_rest 0 0 [.ref (ad 102), vi x1, vi x2, vi x3] σ (Ki fun r s => r = restM (ia σ 103) x1 x2 x3 ∧ LV (ia σ 103) (ia s 112) ∧ Fm [112] [22, 23] σ s) := by
  intro n
  induction n with
  | zero =>
    intro d σ x1 x2 x3 hn hd hs hp hl hW hS hL
    have := st_pc6 hs
    omega
  | succ n ih =>
    intro d σ x1 x2 x3 hn hd hs hp hl hW hS hL
    have h0 := hW.1.1
    have h1 := hW.1.2.1
    have h3 := hW.1.2.2.2.1
    have hx1 : iR x1 := iR_of (by omega) (by omega)
    have hx2 : iR x2 := iR_of (by omega) (by omega)
    have hx3 : iR x3 := iR_of (by omega) (by omega)
    have hM : iR 1000000000 := iR_lit rfl
    have hRb := restM_b hW (set := x1) hp hl
    refine EbS rfl pl_X11 rfl rfl (bX11_rest_0 hx1 hx2 hx3 hS ?_)
    refine (e_full (d := 0) hW.1 hS).c (by omega) (fun _ _ => ⟨fun c => ?_, fun c => ?_⟩)
    · refine (e_key (d := 0) hs hp ⟨hl.1, by omega⟩ hS).c (by omega) (fun hk _ => ⟨⟨by omega, by omega⟩, fun c2 => ?_, fun c2 => re_i ⟨?_, hL, Fm.refl σ⟩⟩)
      · intro _ _ _ _ _ _ _
        have hV : restM (ia σ 103) x1 x2 x3 = fso (ia σ 103) (fun b s o => restS (ia σ 103) x1 x2 x3 b s o) (ia σ 103 3).toNat 0 1000000000 := by
          rw [restM_eq hW hs, if_neg c]
        -- the loop over the options
        have K68 : ∀ (j : Nat) (s : Int), 0 ≤ s → s + 1 + j = ia σ 103 3 →
            (∀ (b : Int) (τ : SG), 0 ≤ b → b ≤ 1000000000 → SR τ → LV (ia σ 103) (ia τ 112) → Fm [112] [22, 23] σ τ → restM (ia σ 103) x1 x2 x3 = fso (ia σ 103) (fun b s o => restS (ia σ 103) x1 x2 x3 b s o) j (s + 1) b →
              Wb g ad d mX11_rest (Ki fun r s => r = restM (ia σ 103) x1 x2 x3 ∧ LV (ia σ 103) (ia s 112) ∧ Fm [112] [22, 23] σ s) 50 [some (.ref (ad 102)), some (vi x1), some (vi x2), some (vi x3), some (vi ((x1 * 7 + x2) * 42 + x3 + 1)), some (vi b), some (vi (s + 1)), none, none, none] [] τ 0 0) →
            ∀ (k : Nat), (k : Int) ≤ ia σ 103 1 → ∀ (b : Int) (τ : SG), 0 ≤ b → b ≤ 1000000000 → SR τ → LV (ia σ 103) (ia τ 112) → Fm [112] [22, 23] σ τ →
              restM (ia σ 103) x1 x2 x3 = fso (ia σ 103) (fun b s o => restS (ia σ 103) x1 x2 x3 b s o) j (s + 1) (fo (fun b o => restS (ia σ 103) x1 x2 x3 b s o) (ia σ 103) k b) →
              Wb g ad d mX11_rest (Ki fun r s => r = restM (ia σ 103) x1 x2 x3 ∧ LV (ia σ 103) (ia s 112) ∧ Fm [112] [22, 23] σ s) 68 [some (.ref (ad 102)), some (vi x1), some (vi x2), some (vi x3), some (vi ((x1 * 7 + x2) * 42 + x3 + 1)), some (vi b), some (vi s), some (vi (oAt (ia σ 103) k)), none, none] [] τ 0 0 := by
          intro j s hs0 hsj hout
          -- one option
          have step : ∀ (k : Nat), (k : Int) ≤ ia σ 103 1 → ∀ (b : Int) (τ : SG), 0 ≤ b → b ≤ 1000000000 → SR τ → LV (ia σ 103) (ia τ 112) → Fm [112] [22, 23] σ τ →
              (∀ (b' : Int) (τ' : SG), b' = restS (ia σ 103) x1 x2 x3 b s (oAt (ia σ 103) k) → 0 ≤ b' → b' ≤ 1000000000 → SR τ' → LV (ia σ 103) (ia τ' 112) → Fm [112] [22, 23] σ τ' → iR (nxt (ia σ 103) (oAt (ia σ 103) k)) →
                Wb g ad d mX11_rest (Ki fun r s => r = restM (ia σ 103) x1 x2 x3 ∧ LV (ia σ 103) (ia s 112) ∧ Fm [112] [22, 23] σ s) 68 [some (.ref (ad 102)), some (vi x1), some (vi x2), some (vi x3), some (vi ((x1 * 7 + x2) * 42 + x3 + 1)), some (vi b'), some (vi s), some (vi (nxt (ia σ 103) (oAt (ia σ 103) k))), none, none] [] τ' 0 0) →
              Wb g ad d mX11_rest (Ki fun r s => r = restM (ia σ 103) x1 x2 x3 ∧ LV (ia σ 103) (ia s 112) ∧ Fm [112] [22, 23] σ s) 68 [some (.ref (ad 102)), some (vi x1), some (vi x2), some (vi x3), some (vi ((x1 * 7 + x2) * 42 + x3 + 1)), some (vi b), some (vi s), some (vi (oAt (ia σ 103) k)), none, none] [] τ 0 0 := by
            intro k hk b τ hb0 hb1 hSt hLt hFt knext
            have ho := oAt_O hk
            have hole := oAt_le hW.1 k
            have em : ia τ 103 = ia σ 103 := hFt.2.2.1 103 (by decide)
            have hoR : -1 ≤ oAt (ia σ 103) k ∧ oAt (ia σ 103) k ≤ 99 := by
              rcases ho with h | h <;> omega
            refine bX11_rest_68 hx1 hx2 hx3 (iR_of (by omega) (by omega)) (iR_of (by omega) (by omega)) (iR_of (by omega) (by omega)) (iR_of (by omega) (by omega)) hSt ⟨fun c3 => absurd c3 hole, fun _ => ?_⟩
            refine (e_may (σ := τ) (d := 3) hx1 hp ⟨hs0, by omega⟩ (em ▸ ho) (em ▸ hW) hSt (by omega)).c (by omega) (fun _ _ => bi_nz (fun c4 => ?_) (fun c4 => ?_))
            · rw [em] at c4
              have hms := may_set hW c4 ho hs0 hs
              have hwb := weigh_b hW ho hp ⟨hs0, by omega⟩ hl
              refine (e_weighs (σ := τ) (d := 2) hp hx3 ⟨hs0, by omega⟩ (em ▸ ho) (em ▸ hW) hSt (by omega)).c (by omega) (fun hSw => ?_)
              rw [em] at hSw ⊢
              have emw : ia (wst τ (weigh (ia σ 103) x2 x3 s (oAt (ia σ 103) k)).1 (weigh (ia σ 103) x2 x3 s (oAt (ia σ 103) k)).2) 103 = ia σ 103 := em
              refine (e_maskOf (σ := wst τ _ _) (d := 2) (emw ▸ ho) ⟨hs0, by omega⟩ (emw ▸ hW) hSw (by omega)).c (by omega) (fun _ _ => ?_)
              refine (e_covers (σ := wst τ _ _) (d := 1) (by rw [emw]; exact ho) (emw ▸ hW.1) hSw (by omega)).c (by omega) (fun _ _ => ?_)
              rw [wst_l, wst_c, emw]
              refine Cl.i (ih (d := d - 1) (by omega) (by omega) hms.1 hms.2.2.2 (by rw [emw]; exact hwb.2) (emw ▸ hW) hSw (by rw [emw]; exact hLt)) (by omega) (fun r6 s6 hr6 hS6 h6 => ?_)
              rw [emw] at h6
              obtain ⟨rfl, hL6, hF6⟩ := h6
              have hrb := restM_b hW (set := bOr x1 (msk (ia σ 103) (oAt (ia σ 103) k) s)) hms.2.2.2 hwb.2
              have hF6' : Fm [112] [22, 23] σ s6 := (Fm.wst hFt (by decide) (by decide)).trans hF6
              have em6 : ia s6 103 = ia σ 103 := hF6'.2.2.1 103 (by decide)
              refine (e_lesser (d := 0) (iR_of (by omega) (by omega)) (iR_of (by omega) (by omega)) hS6).c (by omega) (fun _ _ => ?_)
              refine (e_next (σ := s6) (d := 0) hoR (em6 ▸ hW.1) hS6).c (by omega) (fun hnx _ => ?_)
              intro _ _ _ _ _ _ _ _
              rw [em6] at hnx ⊢
              refine knext _ s6 ?_ (by omega) (by omega) hS6 hL6 hF6' hnx
              unfold restS
              rw [if_pos c4]
            · refine (e_next (σ := τ) (d := 0) hoR (em ▸ hW.1) hSt).c (by omega) (fun hnx _ => ?_)
              intro _ _ _ _ _ _ _ _
              rw [em] at c4 hnx ⊢
              refine knext b τ ?_ hb0 hb1 hSt hLt hFt hnx
              unfold restS
              rw [if_neg c4]
          intro k
          induction k with
          | zero =>
            intro hk b τ hb0 hb1 hSt hLt hFt hv
            refine step 0 hk b τ hb0 hb1 hSt hLt hFt (fun b' τ' hb' hb0' hb1' hSt' hLt' hFt' hnx => ?_)
            rw [nxt_last hW.1]
            refine bX11_rest_68 hx1 hx2 hx3 (iR_of (by omega) (by omega)) (iR_of (by omega) (by omega)) (iR_of (by omega) (by omega)) (iR_lit rfl) hSt' ⟨fun _ => ⟨iR_of (by omega) (by omega), fun _ _ _ _ _ _ _ => ?_⟩, fun c3 => absurd (by decide) c3⟩
            refine hout b' τ' hb0' hb1' hSt' hLt' hFt' ?_
            rw [hv, fo, hb']
          | succ k ihk =>
            intro hk b τ hb0 hb1 hSt hLt hFt hv
            refine step (k + 1) hk b τ hb0 hb1 hSt hLt hFt (fun b' τ' hb' hb0' hb1' hSt' hLt' hFt' hnx => ?_)
            rw [nxt_oAt hW.1 hk]
            refine ihk (by omega) b' τ' hb0' hb1' hSt' hLt' hFt' ?_
            rw [hv, fo, hb']
        -- the loop over the places
        have K50 : ∀ (j : Nat) (s b : Int) (τ : SG), 0 ≤ s → s + j = ia σ 103 3 → 0 ≤ b → b ≤ 1000000000 → SR τ → LV (ia σ 103) (ia τ 112) → Fm [112] [22, 23] σ τ → restM (ia σ 103) x1 x2 x3 = fso (ia σ 103) (fun b s o => restS (ia σ 103) x1 x2 x3 b s o) j s b →
              Wb g ad d mX11_rest (Ki fun r s => r = restM (ia σ 103) x1 x2 x3 ∧ LV (ia σ 103) (ia s 112) ∧ Fm [112] [22, 23] σ s) 50 [some (.ref (ad 102)), some (vi x1), some (vi x2), some (vi x3), some (vi ((x1 * 7 + x2) * 42 + x3 + 1)), some (vi b), some (vi s), none, none, none] [] τ 0 0 := by
          intro j
          induction j with
          | zero =>
            intro s b τ hs0 hsj hb0 hb1 hSt hLt hFt hv
            have em : ia τ 103 = ia σ 103 := hFt.2.2.1 103 (by decide)
            refine bX11_rest_50 hx1 hx2 hx3 hk (iR_of (by omega) (by omega)) (iR_of (by omega) (by omega)) hSt ⟨fun c3 => ?_, fun c3 => absurd (by rw [em]; omega) c3⟩
            refine (e_lesser (d := 0) (iR_of (by omega) (by omega)) hM hSt).c (by omega) (fun _ _ => ⟨⟨by omega, by omega⟩, ?_⟩)
            have eb : min b 1000000000 = restM (ia σ 103) x1 x2 x3 := by
              rw [hv]
              show min b 1000000000 = b
              omega
            rw [ia_setI, up_at, eb]
            refine re_i ⟨rfl, ?_, Fm.setI hFt (by decide)⟩
            rw [ia_setI]
            exact LV.up hLt hW.1 hs hp hl
          | succ j ihj =>
            intro s b τ hs0 hsj hb0 hb1 hSt hLt hFt hv
            have em : ia τ 103 = ia σ 103 := hFt.2.2.1 103 (by decide)
            refine bX11_rest_50 hx1 hx2 hx3 hk (iR_of (by omega) (by omega)) (iR_of (by omega) (by omega)) hSt ⟨fun c3 => absurd c3 (by rw [em]; omega), fun _ => ?_⟩
            refine (e_next (σ := τ) (d := 0) (by omega) (em ▸ hW.1) hSt).c (by omega) (fun hnx _ => ?_)
            intro _ _ _ _ _ _ _ _
            rw [em, nxt_first hW.1]
            exact K68 j s hs0 (by omega) (fun b' τ' h1' h2' h3' h4' h5' h6' => ihj (s + 1) b' τ' (by omega) (by omega) h1' h2' h3' h4' h5' h6') _ (by omega) b τ hb0 hb1 hSt hLt hFt hv
        exact K50 _ 0 1000000000 σ (by omega) (by omega) (by omega) (by omega) hS hL (Fm.refl σ) hV
      · rcases hL x1 x2 x3 hs.1 hs.2 hp.1 hp.2 hl.1 hl.2 with e | e
        · exact absurd e c2
        · exact e
    · refine (e_after0 (d := 1) hx3 (iR_lit rfl) hW.1 hS (by omega)).c (by omega) (fun _ _ => re_i ⟨?_, hL, Fm.refl σ⟩)
      rw [restM_eq hW hs, if_pos c]
end L3F
