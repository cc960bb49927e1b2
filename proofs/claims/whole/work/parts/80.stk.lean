/-- the key of a code -/
def keyC (c : Int) : Int := keyN (ndC c)
abbrev kK (s : SG) (i : Int) : Int := keyC (ia s 60 i)
def SCl (s : SG) (m : Int → Int) (S : SK) : Prop := (∀ i, 0 ≤ i → i < kN s → (S.ls (kK s i) = 0 ↔ ia s 77 i = -1)) ∧ (∀ i, 0 ≤ i → i < kN s → ¬ S.ls (kK s i) = 0 → ia s 76 i = S.cs (kK s i) ∧ ia s 77 i = S.md (kK s i)) ∧ (∀ i, 0 ≤ i → i < kN s → ¬ S.ls (kK s i) = 0 → (S.fr (kK s i) = -1 ∧ ia s 78 i = -1 ∧ ia s 79 i = -1) ∨ ((0 ≤ ia s 78 i ∧ ia s 78 i < kN s) ∧ kK s (ia s 78 i) = S.fr (kK s i) ∧ 0 ≤ ia s 79 i ∧ (ops m)[(ia s 79 i).toNat]? = some (S.bs (kK s i), S.bo (kK s i)))) ∧ (∀ k, ¬ S.ls k = 0 → ∃ i, (0 ≤ i ∧ i < kN s) ∧ kK s i = k) ∧ (sc s 75 13 = S.mg) ∧ (∀ n, 0 ≤ n → n ≤ m 3 → ia s 80 n = (cand m S n).length) ∧ (∀ n, 0 ≤ n → n ≤ m 3 → ia s 81 n = lowM m S n)
theorem SCl.tm {s : SG} {m : Int → Int} {S : SK} (h_ : SCl s m S) : ∀ i, 0 ≤ i → i < kN s → (S.ls (kK s i) = 0 ↔ ia s 77 i = -1) := h_.1
theorem SCl.cs_ {s : SG} {m : Int → Int} {S : SK} (h_ : SCl s m S) : ∀ i, 0 ≤ i → i < kN s → ¬ S.ls (kK s i) = 0 → ia s 76 i = S.cs (kK s i) ∧ ia s 77 i = S.md (kK s i) := h_.2.1
theorem SCl.pa {s : SG} {m : Int → Int} {S : SK} (h_ : SCl s m S) : ∀ i, 0 ≤ i → i < kN s → ¬ S.ls (kK s i) = 0 → (S.fr (kK s i) = -1 ∧ ia s 78 i = -1 ∧ ia s 79 i = -1) ∨ ((0 ≤ ia s 78 i ∧ ia s 78 i < kN s) ∧ kK s (ia s 78 i) = S.fr (kK s i) ∧ 0 ≤ ia s 79 i ∧ (ops m)[(ia s 79 i).toNat]? = some (S.bs (kK s i), S.bo (kK s i))) := h_.2.2.1
theorem SCl.al {s : SG} {m : Int → Int} {S : SK} (h_ : SCl s m S) : ∀ k, ¬ S.ls k = 0 → ∃ i, (0 ≤ i ∧ i < kN s) ∧ kK s i = k := h_.2.2.2.1
theorem SCl.mg_ {s : SG} {m : Int → Int} {S : SK} (h_ : SCl s m S) : sc s 75 13 = S.mg := h_.2.2.2.2.1
theorem SCl.ct {s : SG} {m : Int → Int} {S : SK} (h_ : SCl s m S) : ∀ n, 0 ≤ n → n ≤ m 3 → ia s 80 n = (cand m S n).length := h_.2.2.2.2.2.1
theorem SCl.lo {s : SG} {m : Int → Int} {S : SK} (h_ : SCl s m S) : ∀ n, 0 ≤ n → n ≤ m 3 → ia s 81 n = lowM m S n := h_.2.2.2.2.2.2
section STK
variable {g : AG} {ad : Nat → Nat} {d : Nat} {σ : SG} {m t : Int → Int} {k : Nat}
def Fcl (c : Nat) : Prop := 75 ≤ c ∧ c ≤ 84
theorem Fcl_O (c : Nat) (h : Fcl c) : ¬ Ocl c := by unfold Fcl at h; unfold Ocl; omega
theorem Fcl_N (c : Nat) (h : Fcl c) : ¬ Kno c := by unfold Fcl at h; unfold Kno; omega
theorem Fcl_K (hk : isK k) (c : Nat) (h : Kcl k c) : ¬ Fcl c := by
  have := isK_b hk
  unfold Kcl at h
  unfold Fcl
  omega
theorem keyC_s {c : Int} (hW : W0 m) (h : vC m c) : keyC c / 294 = c / 287 ∧ (0 ≤ keyC c ∧ keyC c < 294 * (fullM m + 1)) ∧ ndK (keyC c) = ndC c := by
  have hb := vC_b hW h
  have hm0 := hW.1
  have hnd : nd m (ndC c) := by
    refine ⟨hb.2.1, hb.2.2.1, ?_⟩
    show -1 ≤ wx (c % 41) ∧ wx (c % 41) < m 0
    unfold wx
    split <;> omega
  have h3 := hnd.2.2
  have e : keyC c = (c / 287 * 7 + c / 41 % 7) * 42 + wx (c % 41) + 1 := rfl
  have h4 : -1 ≤ wx (c % 41) ∧ wx (c % 41) < m 0 := h3
  exact ⟨by rw [e]; omega, by rw [e]; omega, ndK_keyN hnd hW⟩
theorem keyC_inj {c c' : Int} (hW : W0 m) (h : vC m c) (h' : vC m c') (e : keyC c = keyC c') : c = c' := by
  have h1 := (keyC_s hW h).2.2
  have h2 := (keyC_s hW h').2.2
  rw [e, h2] at h1
  have hb := vC_b hW h
  have hb' := vC_b hW h'
  have hm0 := hW.1
  have e1 : c' / 287 = c / 287 := congrArg Prod.fst h1
  have e2 : c' / 41 % 7 = c / 41 % 7 := congrArg (fun x : Nd => x.2.1) h1
  have e3 : wx (c' % 41) = wx (c % 41) := congrArg (fun x : Nd => x.2.2) h1
  have e4 : c' % 41 = c % 41 := wx_inj (by omega) (by omega) e3
  omega
/-! the least score -/
def LowP (m : Int → Int) (S : SK) (n v : Int) : Prop := (v = -1 ∧ ∀ k, ¬ k ∈ cand m S n) ∨ ((∃ k ∈ cand m S n, v = sco m S k) ∧ ∀ k ∈ cand m S n, v ≤ sco m S k)
theorem low_u {S : SK} {n v v' : Int} (h : LowP m S n v) (h' : LowP m S n v') : v = v' := by
  rcases h with ⟨e, h1⟩ | ⟨⟨a, ha, e⟩, h1⟩
  · rcases h' with ⟨e', _⟩ | ⟨⟨b, hb, _⟩, _⟩
    · rw [e, e']
    · exact absurd hb (h1 b)
  · rcases h' with ⟨_, h2⟩ | ⟨⟨b, hb, e'⟩, h2⟩
    · exact absurd ha (h2 a)
    · have z1 := h1 b hb
      have z2 := h2 a ha
      omega
theorem low_fold {S : SK} : ∀ (l : List Int) (b : Int), (∀ k ∈ l, 0 ≤ sco m S k) → (b = -1 → (l = [] ∧ l.foldl (fun b k => if b = -1 ∨ sco m S k < b then sco m S k else b) b = -1) ∨ ((∃ k ∈ l, l.foldl (fun b k => if b = -1 ∨ sco m S k < b then sco m S k else b) b = sco m S k) ∧ ∀ k ∈ l, l.foldl (fun b k => if b = -1 ∨ sco m S k < b then sco m S k else b) b ≤ sco m S k)) ∧ (0 ≤ b → l.foldl (fun b k => if b = -1 ∨ sco m S k < b then sco m S k else b) b ≤ b ∧ (∀ k ∈ l, l.foldl (fun b k => if b = -1 ∨ sco m S k < b then sco m S k else b) b ≤ sco m S k) ∧ (l.foldl (fun b k => if b = -1 ∨ sco m S k < b then sco m S k else b) b = b ∨ ∃ k ∈ l, l.foldl (fun b k => if b = -1 ∨ sco m S k < b then sco m S k else b) b = sco m S k))
  | [], b, _ => ⟨fun h => Or.inl ⟨rfl, h⟩, fun _ => ⟨Int.le_refl _, (fun k hk => by cases hk), Or.inl rfl⟩⟩
  | q :: l, b, h => by
    have hq := h q (List.mem_cons_self ..)
    have hl : ∀ k ∈ l, 0 ≤ sco m S k := fun k hk => h k (List.mem_cons_of_mem _ hk)
    rw [List.foldl_cons]
    refine ⟨fun hb => ?_, fun hb => ?_⟩
    · rw [if_pos (Or.inl hb)]
      obtain ⟨h1, h2, h3⟩ := (low_fold l (sco m S q) hl).2 hq
      refine Or.inr ⟨?_, fun k hk => ?_⟩
      · rcases h3 with h3 | ⟨k, hk, h3⟩
        · exact ⟨q, List.mem_cons_self .., h3⟩
        · exact ⟨k, List.mem_cons_of_mem _ hk, h3⟩
      · rcases List.mem_cons.mp hk with rfl | hk
        · exact h1
        · exact h2 k hk
    · by_cases c : sco m S q < b
      · rw [if_pos (Or.inr c)]
        obtain ⟨h1, h2, h3⟩ := (low_fold l (sco m S q) hl).2 hq
        refine ⟨by omega, fun k hk => ?_, ?_⟩
        · rcases List.mem_cons.mp hk with rfl | hk
          · exact h1
          · exact h2 k hk
        · rcases h3 with h3 | ⟨k, hk, h3⟩
          · exact Or.inr ⟨q, List.mem_cons_self .., h3⟩
          · exact Or.inr ⟨k, List.mem_cons_of_mem _ hk, h3⟩
      · rw [if_neg (by omega)]
        obtain ⟨h1, h2, h3⟩ := (low_fold l b hl).2 hb
        refine ⟨h1, fun k hk => ?_, ?_⟩
        · rcases List.mem_cons.mp hk with rfl | hk
          · omega
          · exact h2 k hk
        · rcases h3 with h3 | ⟨k, hk, h3⟩
          · exact Or.inl h3
          · exact Or.inr ⟨k, List.mem_cons_of_mem _ hk, h3⟩
theorem low_P {S : SK} (h : IS m S) (hW : WF m) (n : Int) : LowP m S n (lowM m S n) := by
  have hs : ∀ k ∈ cand m S n, 0 ≤ sco m S k := fun k hk => by
    have h1 := (h.cst k (mem_cand.mp hk).2.2).1
    have h2 := (ahM_b hW (k / 294)).1
    unfold sco
    omega
  rcases (low_fold (cand m S n) (-1) hs).1 rfl with ⟨z1, z2⟩ | z
  · exact Or.inl ⟨z2, fun k hk => by rw [z1] at hk; cases hk⟩
  · exact Or.inr z
theorem filt_up {p p' : Int → Bool} {k0 : Int} (h0 : p k0 = false) (h1 : p' k0 = true) (he : ∀ j, ¬ j = k0 → p' j = p j) : ∀ (n : Nat) (a b : Int), b = a + n → ((ir a b).filter p').length = ((ir a b).filter p).length + (if a ≤ k0 ∧ k0 < b then 1 else 0)
  | 0, a, b, h => by rw [ir_nil (by omega), if_neg (by omega)]; rfl
  | n + 1, a, b, h => by
    have ih := filt_up h0 h1 he n (a + 1) b (by omega)
    rw [ir_cons (by omega)]
    by_cases c : a = k0
    · subst c
      rw [List.filter_cons_of_pos h1, List.filter_cons_of_neg (by rw [h0]; decide), List.length_cons, ih, if_neg (by omega), if_pos (by omega)]
    · have e := he a c
      by_cases c2 : p a = true
      · rw [List.filter_cons_of_pos (e.trans c2), List.filter_cons_of_pos c2, List.length_cons, List.length_cons, ih]
        by_cases c3 : a ≤ k0 ∧ k0 < b
        · rw [if_pos c3, if_pos (by omega)]
        · rw [if_neg c3, if_neg (by omega)]
      · rw [List.filter_cons_of_neg (by rw [e]; exact c2), List.filter_cons_of_neg c2, ih]
        by_cases c3 : a ≤ k0 ∧ k0 < b
        · rw [if_pos c3, if_pos (by omega)]
        · rw [if_neg c3, if_neg (by omega)]
theorem f_score {i : Int} (hK : KNT σ m) (hT : STR σ m) (hW : WF m) (hi : 0 ≤ i ∧ i < kN σ) (hc : 0 ≤ ia σ 76 i ∧ ia σ 76 i ≤ 100000) (hS : SR σ) (hd : 1 ≤ d) : EI g ad d mX7_score [.ref (ad 75), vi i] σ (ia σ 76 i + ahM m (ia σ 60 i / 287)) σ := by
  have hnb := hK.nb
  have hv := (hK.vd i hi.1 hi.2).1
  have hvb := vC_b hW.1 hv
  have hah := ahM_b hW (ia σ 60 i / 287)
  have ii : iR i := iR_of (by omega) (by omega)
  refine EbS rfl pl_X7 rfl rfl (bX7_score_0 ii hS ⟨⟨hi.1, by omega⟩, ?_⟩)
  refine EI.k (n_mask (d := d - 1) ⟨hi.1, by omega⟩ hv.1 hS) hd (fun _ _ => ?_)
  rw [hT.2 _ hvb.1.1 hvb.1.2]
  exact ⟨⟨by omega, by omega⟩, iR_of (by omega) (by omega), re_i ⟨rfl, rfl⟩⟩
end STK
