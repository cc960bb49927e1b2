section TRC
variable {g : AG} {ad : Nat → Nat} {d : Nat} {σ : SG} {m t : Int → Int} {k : Nat}
theorem pth_le6 {S : SK} (h : IS m S) : ∀ (n : Nat) (q : Int), ¬ S.ls q = 0 → pc (q / 294) ≤ n → (pthM S q).length ≤ pc (q / 294) := by
  intro n
  induction n with
  | zero =>
    intro q hq hn
    rw [pth_eq h hq]
    by_cases c : S.fr q = -1
    · rw [if_pos c]; exact Nat.zero_le _
    · rcases h.par q hq with z | z
      · exact absurd z.1 c
      · omega
  | succ n ih =>
    intro q hq hn
    rw [pth_eq h hq]
    by_cases c : S.fr q = -1
    · rw [if_pos c]; exact Nat.zero_le _
    · rcases h.par q hq with z | z
      · exact absurd z.1 c
      · rw [if_neg c, List.length_append, List.length_singleton]
        have := ih (S.fr q) z.1 (by omega)
        omega
/-- a half of the class, and the one that it comes from -/
theorem pa_s {S : SK} (hB : SB σ m k) (hW : WF m) (hI : IS m S) (hC : SCl σ m S) {i : Int} (hi : 0 ≤ i ∧ i < kN σ) (hls : ¬ S.ls (kK σ i) = 0) : (ia σ 79 i = -1 ∧ pthM S (kK σ i) = []) ∨ (¬ ia σ 79 i = -1 ∧ 0 ≤ ia σ 79 i ∧ (0 ≤ ia σ 78 i ∧ ia σ 78 i < kN σ) ∧ ¬ S.ls (kK σ (ia σ 78 i)) = 0 ∧ ∃ q, (ops m)[(ia σ 79 i).toNat]? = some q ∧ pthM S (kK σ i) = pthM S (kK σ (ia σ 78 i)) ++ [q]) := by
  have he := pth_eq hI hls
  rcases hC.pa i hi.1 hi.2 hls with ⟨z1, z2, z3⟩ | ⟨z1, z2, z3, z4⟩
  · rw [if_pos z1] at he
    exact Or.inl ⟨z3, he⟩
  · have hv := (hB.kn.vd _ z1.1 z1.2).1
    have hks := (keyC_s hW.1 hv).2.1.1
    have hk0 : 0 ≤ kK σ (ia σ 78 i) := hks
    have hne : ¬ S.fr (kK σ i) = -1 := by omega
    rw [if_neg hne, ← z2] at he
    rcases hI.par _ hls with y | y
    · exact absurd y.1 hne
    · rw [← z2] at y
      exact Or.inr ⟨by omega, z3, z1, y.1, _, z4, he⟩
/-- the path is there -/
def PaC (s : SG) (m : Int → Int) (L : List Op) : Prop := sc s 75 17 = (L.length : Int) ∧ ∀ (p : Nat) (q : Op), L[p]? = some q → 0 ≤ ia s 84 p ∧ (ops m)[(ia s 84 p).toNat]? = some q
def Tk (σ s : SG) : Prop := Fr (fun c => c = 84 ∨ c = 75) σ s ∧ ∀ j, ¬ j = 17 → sc s 75 j = sc σ 75 j
theorem f_trace {S : SK} {b : Int} (hB : SB σ m k) (hW : WF m) (hI : IS m S) (hC : SCl σ m S) (hb : b = -1 ∨ (0 ≤ b ∧ b < kN σ) ∧ ¬ S.ls (kK σ b) = 0) (hS : SR σ) : Eb g ad d mX7_tracePath 0 0 [.ref (ad 75), vi b] σ (Kv fun s => PaC s m (if b = -1 then [] else pthM S (kK σ b)) ∧ Tk σ s) := by
  have hnb := hB.kn.nb
  have ib : iR b := by rcases hb with z | z <;> exact iR_of (by omega) (by omega)
  refine EbS rfl pl_X7 rfl rfl (bX7_tracePath_0 ib hS ?_)
  intro _ _ hS0
  -- the second round
  have second : ∀ (n : Nat) (τ : SG) (half : Int) (suf : List Op), SR τ → Tk σ τ → iR half → sc τ 75 17 = ((if b = -1 then [] else pthM S (kK σ b)).length : Int) → (n ≤ 6) → (n = 0 ∨ ((0 ≤ half ∧ half < kN σ) ∧ ¬ S.ls (kK σ half) = 0)) → (n = 0 → suf = (if b = -1 then [] else pthM S (kK σ b))) → (¬ n = 0 → (pthM S (kK σ half)).length = n ∧ (if b = -1 then [] else pthM S (kK σ b)) = pthM S (kK σ half) ++ suf) → (∀ (p : Nat) (q : Op), suf[p]? = some q → 0 ≤ ia τ 84 (n + p : Nat) ∧ (ops m)[(ia τ 84 (n + p : Nat)).toNat]? = some q) → aX7_tracePath_60 g ad d (Kv fun s => PaC s m (if b = -1 then [] else pthM S (kK σ b)) ∧ Tk σ s) 0 0 τ b half ((n : Int) - 1) := by
    intro n
    induction n with
    | zero =>
      intro τ half suf hSt hT ih_ h17 _ _ h0 _ hsuf
      refine bX7_tracePath_60 ib ih_ (iR_lit rfl) hSt ⟨fun _ => re_v ⟨⟨h17, fun p q hp => ?_⟩, hT⟩, fun z => absurd (by decide) z⟩
      rw [← h0 rfl] at hp
      have := hsuf p q hp
      rw [Nat.zero_add] at this
      exact this
    | succ n ihn =>
      intro τ half suf hSt hT ih_ h17 hn6 hh _ h1 hsuf
      obtain ⟨hhr, hhl⟩ := hh.resolve_left (by omega)
      obtain ⟨hlen, heq⟩ := h1 (by omega)
      have e78 : ia τ 78 = ia σ 78 := hT.1.ia 78 (by omega)
      have e79 : ia τ 79 = ia σ 79 := hT.1.ia 79 (by omega)
      rcases pa_s hB hW hI hC hhr hhl with ⟨-, z⟩ | ⟨z1, z2, z3, z4, q, z5, z6⟩
      · rw [z] at hlen; cases hlen
      · rw [show ((n + 1 : Nat) : Int) - 1 = (n : Int) by omega]
        refine bX7_tracePath_60 ib ih_ (iR_of (by omega) (by omega)) hSt ⟨fun y => absurd y (by omega), fun _ => ⟨⟨hhr.1, by omega⟩, ⟨by omega, by omega⟩, iR_of (by omega) (by omega), fun _ i78 _ hS1 => ?_⟩⟩
        have f78 : ia (setI τ 84 n (ia τ 79 half)) 78 = ia τ 78 := by simp (config := {decide := true}) only [sc_S, ia_S, la_S, rv_S, sc_I, rv_I, la_I, ia_I, sc_L, rv_L, ia_L, la_L, sc_A, rv_A, la_A, ia_A, sc_B, rv_B, ia_B, la_B, sc_R, ia_R, la_R, rv_R, ia_w, la_w, rv_w, sc_w, if_true, if_false]
        rw [f78, e78] at i78 ⊢
        rw [e79] at hS1 ⊢
        rw [show (n : Int) + (-1) = (n : Int) - 1 by omega]
        rw [z6, List.length_append, List.length_singleton] at hlen
        refine ihn _ (ia σ 78 half) (q :: suf) hS1 ⟨hT.1.I (Or.inl rfl), hT.2⟩ i78 h17 (by omega) (Or.inr ⟨z3, z4⟩) (fun y => ?_) (fun y => ⟨by omega, by rw [heq, z6, List.append_assoc]; rfl⟩) (fun p r hp => ?_)
        · have hz : pthM S (kK σ (ia σ 78 half)) = [] := List.length_eq_zero_iff.mp (by omega)
          rw [heq, z6, hz]
          rfl
        · have f84 : ia (setI τ 84 n (ia σ 79 half)) 84 = up (ia τ 84) n (ia σ 79 half) := by simp (config := {decide := true}) only [sc_S, ia_S, la_S, rv_S, sc_I, rv_I, la_I, ia_I, sc_L, rv_L, ia_L, la_L, sc_A, rv_A, la_A, ia_A, sc_B, rv_B, ia_B, la_B, sc_R, ia_R, la_R, rv_R, ia_w, la_w, rv_w, sc_w, if_true, if_false]
          rw [f84]
          cases p with
          | zero =>
            have := Option.some.inj hp
            subst this
            rw [Nat.add_zero, up_at]
            exact ⟨z2, z5⟩
          | succ p =>
            rw [List.getElem?_cons_succ] at hp
            rw [up_ne (by omega), show n + (p + 1) = n + 1 + p by omega]
            exact hsuf p r hp
  -- the first round
  have go2 : ∀ (τ : SG) (half : Int), SR τ → Tk σ τ → iR half → sc τ 75 17 = ((if b = -1 then [] else pthM S (kK σ b)).length : Int) → iR (sc τ 75 17 - 1) ∧ (iR b → iR b → iR (sc τ 75 17 - 1) → SR τ → aX7_tracePath_60 g ad d (Kv fun s => PaC s m (if b = -1 then [] else pthM S (kK σ b)) ∧ Tk σ s) 0 0 τ b b (sc τ 75 17 - 1)) := by
    intro τ half hSt hT _ h17
    rw [h17]
    have hle6 : (if b = -1 then [] else pthM S (kK σ b)).length ≤ 6 := by
      by_cases c : b = -1
      · rw [if_pos c]; exact Nat.zero_le _
      · rw [if_neg c]
        have hl := (hb.resolve_left c).2
        have h1 := pth_le6 hI 6 (kK σ b) hl (st_pc6 (hI.rng _ hl).2.2.1)
        have h2 := st_pc6 (hI.rng _ hl).2.2.1
        have h3 : pc (kK σ b / 294) ≤ 6 := h2
        omega
    refine ⟨iR_of (by omega) (by omega), fun _ _ _ _ => second _ τ b [] hSt hT ib h17 hle6 ?_ (fun z => ?_) (fun z => ?_) (fun p q hp => by cases hp)⟩
    · by_cases c : b = -1
      · left; rw [if_pos c]; rfl
      · right; exact hb.resolve_left c
    · exact (List.length_eq_zero_iff.mp z).symm
    · by_cases c : b = -1
      · rw [if_pos c] at z; exact absurd rfl z
      · rw [if_neg c, List.append_nil]; exact ⟨rfl, rfl⟩
  have hT0 : Tk σ (setS σ 75 17 0) := ⟨(Fr.refl σ).S (Or.inr rfl), fun j hj => by rw [sc_S, if_neg (fun z => hj z.2)]⟩
  have e170 : sc (setS σ 75 17 0) 75 17 = 0 := by simp (config := {decide := true}) only [sc_S, ia_S, la_S, rv_S, sc_I, rv_I, la_I, ia_I, sc_L, rv_L, ia_L, la_L, sc_A, rv_A, la_A, ia_A, sc_B, rv_B, ia_B, la_B, sc_R, ia_R, la_R, rv_R, ia_w, la_w, rv_w, sc_w, if_true, if_false]
  by_cases cb : b = -1
  · have h17 : sc (setS σ 75 17 0) 75 17 = ((if b = -1 then [] else pthM S (kK σ b)).length : Int) := by rw [if_pos cb, e170]; rfl
    exact bX7_tracePath_7 ib ib hS0 ⟨fun _ => go2 _ b hS0 hT0 ib h17, fun _ => ⟨fun _ => go2 _ b hS0 hT0 ib h17, fun z => absurd cb z⟩⟩
  have hbl := hb.resolve_left cb
  have htot : (pthM S (kK σ b)).length ≤ 6 := by
    have h1 := pth_le6 hI 6 (kK σ b) hbl.2 (st_pc6 (hI.rng _ hbl.2).2.2.1)
    have h2 : pc (kK σ b / 294) ≤ 6 := st_pc6 (hI.rng _ hbl.2).2.2.1
    omega
  have first : ∀ (n : Nat) (τ : SG) (half : Int), SR τ → Tk σ τ → (0 ≤ half ∧ half < kN σ) → ¬ S.ls (kK σ half) = 0 → (pthM S (kK σ half)).length = n → 0 ≤ sc τ 75 17 → sc τ 75 17 + n = ((pthM S (kK σ b)).length : Int) → aX7_tracePath_7 g ad d (Kv fun s => PaC s m (if b = -1 then [] else pthM S (kK σ b)) ∧ Tk σ s) 0 0 τ b half := by
    intro n
    induction n with
    | zero =>
      intro τ half hSt hT hh hl hlen h170 h17
      have ih_ : iR half := iR_of (by omega) (by omega)
      have h17' : sc τ 75 17 = ((if b = -1 then [] else pthM S (kK σ b)).length : Int) := by rw [if_neg cb]; omega
      have g2 := go2 τ half hSt hT ih_ h17'
      rcases pa_s hB hW hI hC hh hl with ⟨z, -⟩ | ⟨-, -, -, -, q, -, z⟩
      · have e79 : ia τ 79 = ia σ 79 := hT.1.ia 79 (by omega)
        exact bX7_tracePath_7 ib ih_ hSt ⟨fun _ => g2, fun _ => ⟨fun _ => g2, fun _ => ⟨⟨hh.1, by omega⟩, fun _ => g2, fun y => absurd (by rw [e79]; exact z) y⟩⟩⟩
      · rw [z, List.length_append, List.length_singleton] at hlen
        omega
    | succ n ihn =>
      intro τ half hSt hT hh hl hlen h170 h17
      have ih_ : iR half := iR_of (by omega) (by omega)
      have e79 : ia τ 79 = ia σ 79 := hT.1.ia 79 (by omega)
      have e78 : ia τ 78 = ia σ 78 := hT.1.ia 78 (by omega)
      rcases pa_s hB hW hI hC hh hl with ⟨-, z⟩ | ⟨z1, -, z3, z4, q, -, z⟩
      · rw [z] at hlen; cases hlen
      · rw [z, List.length_append, List.length_singleton] at hlen
        refine bX7_tracePath_7 ib ih_ hSt ⟨fun y => absurd y (by omega), fun _ => ⟨fun y => absurd y (by omega), fun _ => ⟨⟨hh.1, by omega⟩, fun y => absurd (by rw [e79] at y; exact y) z1, fun _ => ⟨iR_of (by omega) (by omega), fun _ _ hS1 => ?_⟩⟩⟩⟩
        have f78 : ia (setS τ 75 17 (sc τ 75 17 + 1)) 78 = ia σ 78 := e78
        rw [f78]
        refine ihn _ (ia σ 78 half) hS1 ⟨hT.1.S (Or.inr rfl), fun j hj => by rw [sc_S, if_neg (fun y => hj y.2)]; exact hT.2 j hj⟩ z3 z4 (by omega) ?_ ?_
        · rw [sc_S, if_pos ⟨rfl, rfl⟩]; omega
        · rw [sc_S, if_pos ⟨rfl, rfl⟩]; omega
  exact first _ _ b hS0 hT0 hbl.1 hbl.2 rfl (by rw [e170]; omega) (by rw [e170]; omega)
end TRC
