section L3D
variable {g : AG} {ad : Nat → Nat} {d : Nat} {σ : SG}
/-- stepCost and stepLast -/
def wst (σ : SG) (c l : Int) : SG := setS (setS σ 102 22 c) 102 23 l
theorem wst_wst (σ : SG) (a b c e : Int) : setS (setS (wst σ a b) 102 22 c) 102 23 e = wst σ c e := by
  refine Prod.ext ?_ rfl
  funext i k
  show u2 (u2 (u2 (u2 σ.1 102 22 a) 102 23 b) 102 22 c) 102 23 e i k = u2 (u2 σ.1 102 22 c) 102 23 e i k
  simp only [u2]
  by_cases h1 : i = 102 ∧ k = 23
  · simp [h1]
  · by_cases h2 : i = 102 ∧ k = 22
    · simp [h2]
    · simp [h1, h2]
theorem wst_c (σ : SG) (c l : Int) : sc (wst σ c l) 102 22 = c := by
  show u2 (u2 σ.1 102 22 c) 102 23 l 102 22 = c
  simp [u2]
theorem wst_l (σ : SG) (c l : Int) : sc (wst σ c l) 102 23 = l := by
  show u2 (u2 σ.1 102 22 c) 102 23 l 102 23 = l
  simp [u2]
theorem wst_o {σ : SG} {c l : Int} {i k : Nat} (h : ¬ (i = 102 ∧ (k = 22 ∨ k = 23))) : sc (wst σ c l) i k = sc σ i k := by
  show u2 (u2 σ.1 102 22 c) 102 23 l i k = σ.1 i k
  simp only [u2]
  rw [if_neg (by omega), if_neg (by omega)]
/-- the target's words one behind another: what they cost, and the last one -/
def wl (m : Int → Int) (o s : Int) : Nat → Int → Int → Int → Int × Int
  | 0, _, c, l => (c, l)
  | n + 1, k, c, l => wl m o s n (k + 1) (c + aft m l (tgt m o s k)) (tgt m o s k)
def wbase (m : Int → Int) (place s o : Int) : Int := (if o = 99 then m 5 else of_ m o 8) + m 6 * apB s place
def weigh (m : Int → Int) (place last s o : Int) : Int × Int := wl m o s (tgN m o).toNat 0 (wbase m place s o) last
theorem wl_b {m : Int → Int} (h0 : W0 m) (h2 : W2 m) (o s : Int) : ∀ (n : Nat) (k c l : Int), c ≤ (wl m o s n k c l).1 ∧ (wl m o s n k c l).1 ≤ c + 99 * n
  | 0, k, c, l => by simp [wl]
  | n + 1, k, c, l => by
    have h := wl_b h0 h2 o s n (k + 1) (c + aft m l (tgt m o s k)) (tgt m o s k)
    have ha := aft_b h0 h2 l (tgt m o s k)
    rw [wl]
    omega
theorem tgN_b {m : Int → Int} (h1 : W1 m) {o : Int} (ho : isO m o) : 0 ≤ tgN m o ∧ tgN m o ≤ 3 := by
  unfold tgN
  by_cases c : o = 99
  · rw [if_pos c]; omega
  · rw [if_neg c]
    rcases ho with h | h
    · exact absurd h c
    · exact (h1 o h.1 h.2).2.1
theorem mul_b {a b A B : Int} (ha : 0 ≤ a ∧ a ≤ A) (hb : 0 ≤ b ∧ b ≤ B) : 0 ≤ a * b ∧ a * b ≤ A * B := ⟨Int.mul_nonneg ha.1 hb.1, Int.mul_le_mul ha.2 hb.2 hb.1 (by omega)⟩
theorem wbase_b {m : Int → Int} (h0 : W0 m) (h1 : W1 m) {place s o : Int} (ho : isO m o) (hp : 0 ≤ place ∧ place ≤ 6) (hs : 0 ≤ s ∧ s < 6) : 0 ≤ wbase m place s o ∧ wbase m place s o ≤ 219 := by
  have h6 := h0.2.2.2.2.2.2.1
  have h5 := h0.2.2.2.2.2.1
  have ha := apB_b (a := s) (b := place) ⟨hs.1, by omega⟩ hp
  have hm := mul_b h6 ha
  unfold wbase
  by_cases c : o = 99
  · rw [if_pos c]; omega
  · rw [if_neg c]
    rcases ho with h | h
    · exact absurd h c
    · have := (h1 o h.1 h.2).2.2.1
      omega
theorem tgt_b {m : Int → Int} (hW : WF m) {o s k : Int} (ho : isO m o) (hs : 0 ≤ s ∧ s < m 3) (hk : 0 ≤ k ∧ k < tgN m o) : 0 ≤ tgt m o s k ∧ tgt m o s k < m 0 := by
  unfold tgt
  unfold tgN at hk
  by_cases c : o = 99
  · rw [if_pos c]; exact hW.2.2.2 s hs.1 hs.2
  · rw [if_neg c] at hk ⊢
    rcases ho with h | h
    · exact absurd h c
    · exact (hW.2.1 o h.1 h.2).2.2.2.2.2 k hk.1 hk.2
theorem wl_l {m : Int → Int} (hW : WF m) {o s : Int} (ho : isO m o) (hs : 0 ≤ s ∧ s < m 3) : ∀ (n : Nat) (k c l : Int), 0 ≤ k → k + n = tgN m o → (-1 ≤ l ∧ l < m 0) → -1 ≤ (wl m o s n k c l).2 ∧ (wl m o s n k c l).2 < m 0
  | 0, k, c, l, _, _, hl => hl
  | n + 1, k, c, l, h0, h1, hl => by
    rw [wl]
    have ht := tgt_b hW ho hs (k := k) ⟨h0, by omega⟩
    exact wl_l hW ho hs n (k + 1) _ _ (by omega) (by omega) ⟨by omega, ht.2⟩
theorem weigh_b {m : Int → Int} (hW : WF m) {place last s o : Int} (ho : isO m o) (hp : 0 ≤ place ∧ place ≤ 6) (hs : 0 ≤ s ∧ s < m 3) (hl : -1 ≤ last ∧ last < m 0) : (0 ≤ (weigh m place last s o).1 ∧ (weigh m place last s o).1 ≤ 516) ∧ (-1 ≤ (weigh m place last s o).2 ∧ (weigh m place last s o).2 < m 0) := by
  have h3 := hW.1.2.2.2.1
  have ht := tgN_b hW.2.1 ho
  have hb := wbase_b hW.1 hW.2.1 (place := place) ho hp (s := s) ⟨hs.1, by omega⟩
  have h1 := wl_b hW.1 hW.2.2.1 o s (tgN m o).toNat 0 (wbase m place s o) last
  have h2 := wl_l hW ho hs (tgN m o).toNat 0 (wbase m place s o) last (by omega) (by omega) hl
  unfold weigh
  exact ⟨by omega, h2⟩
theorem e_weighs {x1 x2 x3 x4 : Int} (h1 : 0 ≤ x1 ∧ x1 ≤ 6) (h2 : iR x2) (h3 : 0 ≤ x3 ∧ x3 < 6) (ho : isO (ia σ 103) x4) (hW : WF (ia σ 103)) (hS : SR σ) (hd : 2 ≤ d) : EV g ad d mX11_weighs [.ref (ad 102), vi x1, vi x2, vi x3, vi x4] σ (wst σ (weigh (ia σ 103) x1 x2 x3 x4).1 (weigh (ia σ 103) x1 x2 x3 x4).2) := by
  have h0 := hW.1.2.1
  have ho' : x4 = 99 ∨ 0 ≤ x4 ∧ x4 < ia σ 103 1 := ho
  have ht := tgN_b hW.2.1 ho
  have hab := apB_b (a := x3) (b := x1) ⟨h3.1, by omega⟩ h1
  have hwb := wbase_b hW.1 hW.2.1 (place := x1) ho h1 h3
  have hx1 : iR x1 := iR_of (by omega) (by omega)
  have hx3 : iR x3 := iR_of (by omega) (by omega)
  have hx4 : iR x4 := iR_of (by omega) (by omega)
  have key : ∀ (n : Nat) (k c l : Int), 0 ≤ k → k + n = tgN (ia σ 103) x4 → 0 ≤ c → c ≤ 219 + 99 * k → iR l → SR (wst σ c l) → Wb g ad d mX11_weighs (Kv fun s => s = wst σ (wl (ia σ 103) x4 x3 n k c l).1 (wl (ia σ 103) x4 x3 n k c l).2) 50 [some (.ref (ad 102)), some (vi x1), some (vi x2), some (vi x3), some (vi x4), some (vi k), none] [] (wst σ c l) 0 0 := by
    intro n
    induction n with
    | zero =>
      intro k c l hk0 hk hc0 hc hl hs
      refine bX11_weighs_50 hx1 h2 hx3 hx4 (iR_of (by omega) (by omega)) hs ?_
      refine (e_targetMany (σ := wst σ c l) (d := 1) ho' hW.1 hs (by omega)).c (by omega) (fun _ _ => ⟨fun c1 => re_v rfl, fun c1 => absurd (show tgN (ia σ 103) x4 ≤ k by omega) c1⟩)
    | succ n ih =>
      intro k c l hk0 hk hc0 hc hl hs
      refine bX11_weighs_50 hx1 h2 hx3 hx4 (iR_of (by omega) (by omega)) hs ?_
      refine (e_targetMany (σ := wst σ c l) (d := 1) ho' hW.1 hs (by omega)).c (by omega) (fun _ _ => ⟨fun c1 => absurd (show tgN (ia σ 103) x4 ≤ k from c1) (by omega), fun c1 => ?_⟩)
      refine (e_targetOf (σ := wst σ c l) (d := 1) (x3 := k) ho' h3 ⟨hk0, by omega⟩ hW.1 hs (by omega)).c (by omega) (fun hr _ => ?_)
      rw [wst_l]
      refine (e_after0 (σ := wst σ c l) (d := 1) hl hr hW.1 hs (by omega)).c (by omega) (fun hr2 _ => ?_)
      have hab2 := aft_b hW.1 hW.2.2.1 l (tgt (ia σ 103) x4 x3 k)
      have hab3 : 0 ≤ aft (ia (wst σ c l) 103) l (tgt (ia (wst σ c l) 103) x4 x3 k) ∧ aft (ia (wst σ c l) 103) l (tgt (ia (wst σ c l) 103) x4 x3 k) ≤ 99 := hab2
      rw [wst_c, wst_wst]
      refine ⟨iR_of (by omega) (by omega), iR_of (by omega) (by omega), fun _ _ _ _ _ hs' => ?_⟩
      exact ih (k + 1) _ _ (by omega) (by omega) (by omega) (by omega) hr hs'
  refine EbS rfl pl_X11 rfl rfl (bX11_weighs_0 hx1 h2 hx3 hx4 hS ⟨fun c => ?_, fun c => ?_⟩)
  · refine (e_of (d := 0) (by omega) (by omega) hx4 (iR_lit rfl) hS).c (by omega) (fun _ _ => ?_)
    refine (e_apartBy (d := 0) hx3 hx1 (iR_of (by omega) (by omega)) hS).c (by omega) (fun _ _ => ?_)
    have e : of_ (ia σ 103) x4 8 + ia σ 103 6 * apB x3 x1 = wbase (ia σ 103) x1 x3 x4 := by unfold wbase; rw [if_neg c]
    rw [e]
    exact ⟨iR_of (by omega) (by omega), fun _ _ _ _ _ hs => key _ 0 _ _ (by omega) (by omega) (by omega) (by omega) h2 hs⟩
  · refine (e_apartBy (d := 0) hx3 hx1 (iR_of (by omega) (by omega)) hS).c (by omega) (fun _ _ => ?_)
    have e : ia σ 103 5 + ia σ 103 6 * apB x3 x1 = wbase (ia σ 103) x1 x3 x4 := by unfold wbase; rw [if_pos c]
    rw [e]
    exact ⟨iR_of (by omega) (by omega), fun _ _ _ _ _ hs => key _ 0 _ _ (by omega) (by omega) (by omega) (by omega) h2 hs⟩
end L3D
