section L3E
/-- sets of places as numbers: how many -/
def pc (a : Int) : Nat := ((List.range 6).filter (fun k => a.toNat.testBit k)).length
theorem st64 {P : Int → Int → Prop} (h : ∀ a b : Fin 64, P (a.val : Int) (b.val : Int)) {a b : Int} (ha : 0 ≤ a ∧ a ≤ 63) (hb : 0 ≤ b ∧ b ≤ 63) : P a b := by
  have h1 : a.toNat < 64 := by omega
  have h2 : b.toNat < 64 := by omega
  have := h ⟨a.toNat, h1⟩ ⟨b.toNat, h2⟩
  rw [show ((⟨a.toNat, h1⟩ : Fin 64).val : Int) = a from by show (a.toNat : Int) = a; omega, show ((⟨b.toNat, h2⟩ : Fin 64).val : Int) = b from by show (b.toNat : Int) = b; omega] at this
  exact this
theorem st_or {a b : Int} (ha : 0 ≤ a ∧ a ≤ 63) (hb : 0 ≤ b ∧ b ≤ 63) : 0 ≤ bOr a b ∧ bOr a b ≤ 63 :=
  st64 (P := fun a b => 0 ≤ bOr a b ∧ bOr a b ≤ 63) (by decide +kernel) ha hb
theorem st_pc {a b : Int} (ha : 0 ≤ a ∧ a ≤ 63) (hb : 0 ≤ b ∧ b ≤ 63) : bAnd a b = 0 → ¬ b = 0 → pc a < pc (bOr a b) ∧ pc (bOr a b) ≤ 6 :=
  st64 (P := fun a b => bAnd a b = 0 → ¬ b = 0 → pc a < pc (bOr a b) ∧ pc (bOr a b) ≤ 6) (by decide +kernel) ha hb
theorem st_pc6 {a : Int} (ha : 0 ≤ a ∧ a ≤ 63) : pc a ≤ 6 :=
  st64 (P := fun a _ => pc a ≤ 6) (by decide +kernel) ha ha
theorem msk_b {m : Int → Int} {o s : Int} (hc : 1 ≤ cov m o ∧ cov m o ≤ 3) (hs : 0 ≤ s) (hsc : s + cov m o ≤ 6) : 1 ≤ msk m o s ∧ msk m o s ≤ 63 := by
  unfold msk
  have h1 : (cov m o).toNat < 4 := by omega
  have h2 : s.toNat < 6 := by omega
  have h3 : s.toNat + (cov m o).toNat ≤ 6 := by omega
  have h4 : 1 ≤ (cov m o).toNat := by omega
  generalize (cov m o).toNat = a at h1 h3 h4
  generalize s.toNat = b at h2 h3
  have : ∀ (a : Fin 4) (b : Fin 6), b.val + a.val ≤ 6 → 1 ≤ a.val → (1 : Int) ≤ (2 ^ a.val - 1) * 2 ^ b.val ∧ ((2 : Int) ^ a.val - 1) * 2 ^ b.val ≤ 63 := by decide
  exact this ⟨a, h1⟩ ⟨b, h2⟩ h3 h4
theorem isOpt_b {m : Int → Int} {o s : Int} (h : isOpt m o s = true) : s + cov m o ≤ m 3 := by
  unfold isOpt at h
  by_cases c : o = 99
  · rw [if_pos c] at h
    have h' := of_decide_eq_true h
    unfold cov
    rw [if_pos c]
    omega
  · rw [if_neg c] at h
    by_cases c2 : of_ m o 9 = 1
    · rw [if_pos c2] at h; cases h
    · rw [if_neg c2] at h
      by_cases c3 : m 3 < s + cov m o
      · rw [if_pos c3] at h; cases h
      · omega
theorem mayB_s {m : Int → Int} {set place s o : Int} (h : mayB m set place s o = true) : apB s place ≤ m 7 ∧ isOpt m o s = true ∧ bAnd set (msk m o s) = 0 := by
  unfold mayB at h
  by_cases c : m 7 < apB s place
  · rw [if_pos c] at h; cases h
  · rw [if_neg c] at h
    by_cases c2 : isOpt m o s = true
    · rw [if_pos c2] at h
      exact ⟨by omega, c2, of_decide_eq_true h⟩
    · rw [if_neg c2] at h; cases h
/-- the options in their order, counted from the last one -/
def oAt (m : Int → Int) (k : Nat) : Int := if k = 0 then 99 else m 1 - k
theorem oAt_O {m : Int → Int} {k : Nat} (hk : (k : Int) ≤ m 1) : isO m (oAt m k) := by
  unfold oAt isO
  by_cases c : k = 0
  · rw [if_pos c]; exact Or.inl rfl
  · rw [if_neg c]; exact Or.inr ⟨by omega, by omega⟩
theorem nxt_first {m : Int → Int} (h0 : W0 m) : nxt m (-1) = oAt m (m 1).toNat := by
  have h1 := h0.2.1
  unfold nxt oAt
  by_cases c : (m 1).toNat = 0
  · rw [if_pos c, if_neg (by omega), if_pos (by omega)]
  · rw [if_neg c, if_pos (by omega)]
    omega
theorem nxt_oAt {m : Int → Int} (h0 : W0 m) {k : Nat} (hk : ((k + 1 : Nat) : Int) ≤ m 1) : nxt m (oAt m (k + 1)) = oAt m k := by
  have h1 := h0.2.1
  have e : oAt m (k + 1) = m 1 - ((k + 1 : Nat) : Int) := by
    unfold oAt
    rw [if_neg (by omega)]
  rw [e]
  unfold nxt oAt
  by_cases c : k = 0
  · rw [if_pos c, if_neg (by omega), if_pos (by omega)]
  · rw [if_neg c, if_pos (by omega)]
    omega
theorem nxt_last {m : Int → Int} (h0 : W0 m) : nxt m (oAt m 0) = 100 := by
  have h1 := h0.2.1
  unfold nxt oAt
  rw [if_pos rfl, if_neg (by omega), if_neg (by omega)]
theorem oAt_le {m : Int → Int} (h0 : W0 m) (k : Nat) : ¬ 99 < oAt m k := by
  have h1 := h0.2.1
  unfold oAt
  split <;> omega
/-- over the options from the k-th of the last ones on -/
def fo {α : Type} (f : α → Int → α) (m : Int → Int) : Nat → α → α
  | 0, a => f a (oAt m 0)
  | k + 1, a => fo f m k (f a (oAt m (k + 1)))
/-- over n places from s on -/
def fs {α : Type} (f : α → Int → α) : Nat → Int → α → α
  | 0, _, a => a
  | n + 1, s, a => fs f n (s + 1) (f a s)
/-- over all places, over all options -/
def fso {α : Type} (m : Int → Int) (f : α → Int → Int → α) : Nat → Int → α → α := fs (fun a s => fo (fun a o => f a s o) m (m 1).toNat a)
theorem fo_cong {α : Type} {m : Int → Int} {f f' : α → Int → α} : ∀ (k : Nat), (k : Int) ≤ m 1 → (∀ a o, isO m o → f a o = f' a o) → ∀ a, fo f m k a = fo f' m k a
  | 0, hk, h, a => h a _ (oAt_O hk)
  | k + 1, hk, h, a => by
    rw [fo, fo, h a _ (oAt_O hk)]
    exact fo_cong k (by omega) h _
theorem fs_cong {α : Type} {f f' : α → Int → α} (hi : Int) : ∀ (n : Nat) (s : Int), 0 ≤ s → s + n = hi → (∀ a s, 0 ≤ s → s < hi → f a s = f' a s) → ∀ a, fs f n s a = fs f' n s a
  | 0, s, _, _, h, a => rfl
  | n + 1, s, h0, h1, h, a => by
    rw [fs, fs, h a s h0 (by omega)]
    exact fs_cong hi n (s + 1) (by omega) (by omega) h _
theorem fso_cong {α : Type} {m : Int → Int} (h0 : W0 m) {f f' : α → Int → Int → α} {n : Nat} {s : Int} (hs : 0 ≤ s) (hn : s + n = m 3) (h : ∀ a s o, 0 ≤ s → s < m 3 → isO m o → f a s o = f' a s o) (a : α) : fso m f n s a = fso m f' n s a := by
  have h1 := h0.2.1
  exact fs_cong (m 3) n s hs hn (fun a s h2 h3 => fo_cong _ (by omega) (fun a o ho => h a s o h2 h3 ho) a) a
/-- a property that every step keeps -/
theorem fo_inv {α : Type} {m : Int → Int} {f : α → Int → α} {I : α → Prop} : ∀ (k : Nat), (k : Int) ≤ m 1 → (∀ a o, isO m o → I a → I (f a o)) → ∀ a, I a → I (fo f m k a)
  | 0, hk, h, a, ha => h a _ (oAt_O hk) ha
  | k + 1, hk, h, a, ha => fo_inv k (by omega) h _ (h a _ (oAt_O hk) ha)
theorem fs_inv {α : Type} {f : α → Int → α} {I : α → Prop} (hi : Int) : ∀ (n : Nat) (s : Int), 0 ≤ s → s + n = hi → (∀ a s, 0 ≤ s → s < hi → I a → I (f a s)) → ∀ a, I a → I (fs f n s a)
  | 0, s, _, _, h, a, ha => ha
  | n + 1, s, h0, h1, h, a, ha => fs_inv hi n (s + 1) (by omega) (by omega) h _ (h a s h0 (by omega) ha)
theorem fso_inv {α : Type} {m : Int → Int} (h0 : W0 m) {f : α → Int → Int → α} {I : α → Prop} {n : Nat} {s : Int} (hs : 0 ≤ s) (hn : s + n = m 3) (h : ∀ a s o, 0 ≤ s → s < m 3 → isO m o → I a → I (f a s o)) (a : α) (ha : I a) : I (fso m f n s a) := by
  have h1 := h0.2.1
  exact fs_inv (m 3) n s hs hn (fun a s h2 h3 ha => fo_inv _ (by omega) (fun a o ho ha => h a s o h2 h3 ho ha) a ha) a ha
/-- the least that the rest may cost, with so many steps at most -/
def restF (m : Int → Int) : Nat → Int → Int → Int → Int
  | 0, _, _, _ => 1000000000
  | n + 1, set, place, last => if set = fullM m then aft m last (-1) else
    fso m (fun b s o => if mayB m set place s o = true then min b ((weigh m place last s o).1 + restF m n (bOr set (msk m o s)) (s + cov m o) (weigh m place last s o).2) else b) (m 3).toNat 0 1000000000
def restM (m : Int → Int) (set place last : Int) : Int := restF m (7 - pc set) set place last
theorem restF_b {m : Int → Int} (hW : WF m) : ∀ (n : Nat) (set place last : Int), (0 ≤ place ∧ place ≤ 6) → (-1 ≤ last ∧ last < m 0) → 0 ≤ restF m n set place last ∧ restF m n set place last ≤ 1000000000
  | 0, _, _, _, _, _ => by simp [restF]
  | n + 1, set, place, last, hp, hl => by
    have h3 := hW.1.2.2.2.1
    rw [restF]
    by_cases c : set = fullM m
    · rw [if_pos c]
      have := aft_b hW.1 hW.2.2.1 last (-1)
      omega
    · rw [if_neg c]
      refine fso_inv (I := fun b : Int => 0 ≤ b ∧ b ≤ 1000000000) hW.1 (by omega) (by omega) (fun b s o hs0 hs1 ho hb => ?_) _ (by omega)
      by_cases c2 : mayB m set place s o = true
      · rw [if_pos c2]
        have hw := weigh_b hW ho hp ⟨hs0, hs1⟩ hl
        have hopt := isOpt_b (mayB_s c2).2.1
        have hcv := cov_b hW.2.1 ho
        have hr := restF_b hW n (bOr set (msk m o s)) (s + cov m o) (weigh m place last s o).2 (by omega) hw.2
        omega
      · rw [if_neg c2]
        exact hb
theorem may_set {m : Int → Int} (hW : WF m) {set place s o : Int} (h : mayB m set place s o = true) (ho : isO m o) (hs : 0 ≤ s) (hset : 0 ≤ set ∧ set ≤ 63) : (0 ≤ bOr set (msk m o s) ∧ bOr set (msk m o s) ≤ 63) ∧ pc set < pc (bOr set (msk m o s)) ∧ pc (bOr set (msk m o s)) ≤ 6 ∧ (0 ≤ s + cov m o ∧ s + cov m o ≤ 6) := by
  have h3 := hW.1.2.2.2.1
  obtain ⟨h1, h2, h4⟩ := mayB_s h
  have hopt := isOpt_b h2
  have hcv := cov_b hW.2.1 ho
  have hm := msk_b (m := m) (o := o) hcv hs (by omega)
  have h5 := st_or hset (b := msk m o s) ⟨by omega, hm.2⟩
  have h6 := st_pc hset (b := msk m o s) ⟨by omega, hm.2⟩ h4 (by omega)
  exact ⟨h5, h6.1, h6.2, by omega, by omega⟩
theorem restF_more {m : Int → Int} (hW : WF m) : ∀ (n : Nat) (set place last : Int), (0 ≤ set ∧ set ≤ 63) → 7 - pc set ≤ n → restF m (n + 1) set place last = restF m n set place last
  | 0, set, place, last, hs, h => by
    have := st_pc6 hs
    omega
  | n + 1, set, place, last, hs, h => by
    have h3 := hW.1.2.2.2.1
    rw [restF]
    conv => rhs; rw [restF]
    by_cases c : set = fullM m
    · rw [if_pos c, if_pos c]
    · rw [if_neg c, if_neg c]
      refine fso_cong hW.1 (by omega) (by omega) (fun b s o hs0 hs1 ho => ?_) _
      by_cases c2 : mayB m set place s o = true
      · rw [if_pos c2, if_pos c2]
        have hm := may_set hW c2 ho hs0 hs
        rw [restF_more hW n _ _ _ hm.1 (by omega)]
      · rw [if_neg c2, if_neg c2]
theorem restF_M {m : Int → Int} (hW : WF m) {set place last : Int} (hs : 0 ≤ set ∧ set ≤ 63) : ∀ n, 7 - pc set ≤ n → restF m n set place last = restM m set place last := by
  intro n h
  induction n with
  | zero =>
    have := st_pc6 hs
    omega
  | succ n ih =>
    by_cases c : 7 - pc set ≤ n
    · rw [restF_more hW n set place last hs c]
      exact ih c
    · unfold restM
      rw [show 7 - pc set = n + 1 by omega]
/-- restM by itself -/
def restS (m : Int → Int) (set place last b s o : Int) : Int := if mayB m set place s o = true then min b ((weigh m place last s o).1 + restM m (bOr set (msk m o s)) (s + cov m o) (weigh m place last s o).2) else b
theorem restM_eq {m : Int → Int} (hW : WF m) {set place last : Int} (hs : 0 ≤ set ∧ set ≤ 63) : restM m set place last = if set = fullM m then aft m last (-1) else fso m (fun b s o => restS m set place last b s o) (m 3).toNat 0 1000000000 := by
  have h3 := hW.1.2.2.2.1
  have h6 := st_pc6 hs
  obtain ⟨n, hn⟩ : ∃ n, 7 - pc set = n + 1 := ⟨6 - pc set, by omega⟩
  unfold restM
  rw [hn, restF]
  by_cases c : set = fullM m
  · rw [if_pos c, if_pos c]
  · rw [if_neg c, if_neg c]
    refine fso_cong hW.1 (by omega) (by omega) (fun b s o hs0 hs1 ho => ?_) _
    unfold restS
    by_cases c2 : mayB m set place s o = true
    · rw [if_pos c2, if_pos c2]
      have hm := may_set hW c2 ho hs0 hs
      rw [restF_M hW hm.1 n (by omega)]
    · rw [if_neg c2, if_neg c2]
theorem restM_b {m : Int → Int} (hW : WF m) {set place last : Int} (hp : 0 ≤ place ∧ place ≤ 6) (hl : -1 ≤ last ∧ last < m 0) : 0 ≤ restM m set place last ∧ restM m set place last ≤ 1000000000 := restF_b hW _ _ _ _ hp hl
end L3E
