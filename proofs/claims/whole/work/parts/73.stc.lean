def StC (s : SG) (m : Int → Int) : Prop := ∀ a b, 0 ≤ a → a ≤ b → b < m 3 → ia s 73 (a * 6 + b) = strM m a b
/-- Stretches hold those of m -/
def STR (s : SG) (m : Int → Int) : Prop := StC s m ∧ ∀ c, 0 ≤ c → c ≤ fullM m → ia s 74 c = ahM m c
section STC
variable {g : AG} {ad : Nat → Nat} {d : Nat} {σ : SG} {m t : Int → Int} {k : Nat}
def Scl (c : Nat) : Prop := 72 ≤ c ∧ c ≤ 74
theorem Scl_O (c : Nat) (h : Scl c) : ¬ Ocl c := by unfold Scl at h; unfold Ocl; omega
theorem fmin_iff {β : Type} {c : β → Bool} {v : β → Int} {z : Int} (l : List β) (b : Int) : z ≤ l.foldl (fun b p => if c p = true then min b (v p) else b) b ↔ z ≤ b ∧ ∀ p ∈ l, c p = true → z ≤ v p := by
  have h1 := fmin_le (c := c) (v := v) l b
  constructor
  · intro h
    exact ⟨by omega, fun p hp hc => by have := h1.2 p hp hc; omega⟩
  · rintro ⟨h2, h3⟩
    rcases fmin_is (c := c) (v := v) l b with e | ⟨p, hp, hc, e⟩
    · rw [e]; exact h2
    · rw [e]; exact h3 p hp hc
theorem le_ext {a b : Int} (h : ∀ z, z ≤ a ↔ z ≤ b) : a = b := by
  have h1 := (h a).mp (Int.le_refl _)
  have h2 := (h b).mpr (Int.le_refl _)
  omega
/-- the least of one option over a stretch -/
def ocF (m : Int → Int) (L : List Op) (a b : Int) : Int := L.foldl (fun v q => if decide (q.1 = a ∧ q.1 + cov m q.2 - 1 = b) = true then min v (ownC m q.1 q.2) else v) 1000000
theorem oc_opt (hm1 : m 1 ≤ 30) {a b : Int} (h0 : 0 ≤ a ∧ a < m 3) : ocF m (ops m) a b = min (optF m a b) 1000000 := by
  refine le_ext (fun z => ?_)
  unfold ocF optF
  rw [fmin_iff, Int.le_min, fmin_iff]
  constructor
  · rintro ⟨h1, h2⟩
    refine ⟨⟨by omega, fun o ho hc => ?_⟩, h1⟩
    rw [Bool.and_eq_true, decide_eq_true_eq] at hc
    have ho' : isO m o := by
      rcases List.mem_append.mp ho with y | y
      · exact Or.inr (mem_ir.mp y)
      · exact Or.inl (List.mem_singleton.mp y)
    exact h2 (a, o) (List.mem_filter.mpr ⟨mem_sr.mpr ⟨h0, ho'⟩, hc.1⟩) (decide_eq_true ⟨rfl, by show a + cov m o - 1 = b; omega⟩)
  · rintro ⟨⟨-, h2⟩, h1⟩
    refine ⟨h1, fun q hq hc => ?_⟩
    obtain ⟨c1, c2⟩ := of_decide_eq_true hc
    have hm := ops_mem hq
    have ho : q.2 ∈ ir 0 (m 1) ++ [99] := by
      rcases hm.2.1 with y | y
      · exact List.mem_append.mpr (Or.inr (List.mem_singleton.mpr y))
      · exact List.mem_append.mpr (Or.inl (mem_ir.mpr y))
    have := h2 q.2 ho (by rw [← c1, hm.2.2]; exact decide_eq_true (by omega))
    rw [← c1] at this
    exact this
theorem str_oc (hW : WF m) {a b : Int} (h0 : 0 ≤ a) (h1 : a ≤ b) (h2 : b < m 3) : strM m a b = (ir a b).foldl (fun best c => min best (strM m a c + strM m (c + 1) b)) (ocF m (ops m) a b) := by
  have hb := strM_b hW 6 a b h0 h1 h2 (by have := hW.1.2.2.2.1; omega)
  have h3 := hW.1.2.2.2.1
  rw [oc_opt hW.1.2.1.2 ⟨h0, by omega⟩]
  have e := strM_eq (m := m) h1
  refine le_ext (fun z => ?_)
  have cv : ∀ (l : List Int) (b0 : Int), l.foldl (fun best c => min best (strM m a c + strM m (c + 1) b)) b0 = l.foldl (fun best c => if (fun _ : Int => true) c = true then min best ((fun c => strM m a c + strM m (c + 1) b) c) else best) b0 := fun l b0 => foldl_cong l b0 (fun x y _ => (if_pos rfl).symm)
  rw [cv, fmin_iff, Int.le_min]
  rw [cv] at e
  have e2 := fmin_iff (c := fun _ : Int => true) (v := fun c => strM m a c + strM m (c + 1) b) (z := z) (ir a b) (optF m a b)
  rw [← e] at e2
  rw [e2]
  constructor
  · rintro ⟨z1, z2⟩
    have := e2.mpr ⟨z1, z2⟩
    exact ⟨⟨z1, by omega⟩, z2⟩
  · rintro ⟨⟨z1, -⟩, z2⟩
    exact ⟨z1, z2⟩
theorem t_join {a b : Int} (h : 0 ≤ a ∧ a ≤ b ∧ b < m 3) (hW : WF m) (ht : ∀ a' b', 0 ≤ a' → a' ≤ b' → b' < m 3 → b' - a' < b - a → ia σ 73 (a' * 6 + b') = strM m a' b') (h0 : ia σ 73 (a * 6 + b) = ocF m (ops m) a b) (hS : SR σ) (hd : 1 ≤ d) : Eb g ad d mX8_join 0 0 [.ref (ad 72), vi a, vi b] σ (Kv fun s => Fr (fun c => c = 73) σ s ∧ sc s = sc σ ∧ ia s 73 (a * 6 + b) = strM m a b ∧ ∀ j, ¬ j = a * 6 + b → ia s 73 j = ia σ 73 j) := by
  have h3 := hW.1.2.2.2.1
  have i1 : iR a := iR_of (by omega) (by omega)
  have i2 : iR b := iR_of (by omega) (by omega)
  have i3 : iR (a * 6 + b) := iR_of (by omega) (by omega)
  have hsb := strM_b hW 6 a b h.1 h.2.1 h.2.2 (by omega)
  refine EbS rfl pl_X8 rfl rfl (bX8_join_0 i1 i2 hS ⟨i3, fun _ _ _ _ _ => ?_⟩)
  have hoc : ∀ {v}, ia σ 73 (a * 6 + b) = v → iR v := fun {v} e => by rw [← e]; exact hS.1 73 _
  refine up_loop (P := fun c => ∀ (τ : SG) (v : Int), SR τ → Fr (fun c => c = 73) σ τ → sc τ = sc σ → (∀ j, ¬ j = a * 6 + b → ia τ 73 j = ia σ 73 j) → ia τ 73 (a * 6 + b) = v → (ir c b).foldl (fun best c => min best (strM m a c + strM m (c + 1) b)) v = strM m a b → aX8_join_10 g ad d (Kv fun s => Fr (fun c => c = 73) σ s ∧ sc s = sc σ ∧ ia s 73 (a * 6 + b) = strM m a b ∧ ∀ j, ¬ j = a * 6 + b → ia s 73 j = ia σ 73 j) 0 0 τ a b (a * 6 + b) c) (hi := b) a h.2.1 ?_ ?_ σ _ hS (Fr.refl σ) rfl (fun _ _ => rfl) rfl (by rw [h0]; exact (str_oc hW h.1 h.2.1 h.2.2).symm)
  · intro τ v hSt hF hsc hj hv hval
    rw [ir_nil (Int.le_refl _)] at hval
    exact bX8_join_10 i1 i2 i3 i2 hSt ⟨fun _ => re_v ⟨hF, hsc, hv.trans hval, hj⟩, fun z => absurd (Int.le_refl _) z⟩
  · intro c hc0 hc1 ih τ v hSt hF hsc hj hv hval
    rw [ir_cons hc1, List.foldl_cons] at hval
    have e1 : ia τ 73 (a * 6 + c) = strM m a c := by rw [hj _ (by omega)]; exact ht a c h.1 hc0 (by omega) (by omega)
    have e2 : ia τ 73 ((c + 1) * 6 + b) = strM m (c + 1) b := by rw [hj _ (by omega)]; exact ht (c + 1) b (by omega) (by omega) h.2.2 (by omega)
    have b1 := strM_b hW 6 a c h.1 hc0 (by omega) (by omega)
    have b2 := strM_b hW 6 (c + 1) b (by omega) (by omega) h.2.2 (by omega)
    refine bX8_join_10 i1 i2 i3 (iR_of (by omega) (by omega)) hSt ⟨fun z => absurd z (by omega), fun _ => ⟨⟨by omega, by omega⟩, ⟨by omega, by omega⟩, ⟨by omega, by omega⟩, ?_⟩⟩
    rw [e1, e2, hv]
    refine EI.k (j_min (d := d - 1) (by rw [← hv]; exact hSt.1 73 _) (iR_of (by omega) (by omega)) hSt) hd (fun _ _ => ⟨iR_of (by omega) (by omega), fun _ _ _ _ hS4 => ih _ _ hS4 (hF.I rfl) hsc (fun j hne => by rw [ia_I, if_pos rfl, up_ne hne]; exact hj j hne) (by rw [ia_I, if_pos rfl, up_at]) hval⟩)
theorem t_ahead {x1 : Int} (hO : OPT σ m k) (hW : WF m) (hT : StC σ m) (h1 : 0 ≤ x1 ∧ x1 ≤ 63) (hS : SR σ) : EI g ad d mX8_reckonAhead [.ref (ad 72), vi x1] σ (ahM m x1) σ := by
  have h3 := hW.1.2.2.2.1
  have hT3 := hO.pl
  have hah := ahM_b hW x1
  have i1 : iR x1 := iR_of (by omega) (by omega)
  refine EbS rfl pl_X8 rfl rfl (bX8_reckonAhead_0 i1 hS ?_)
  intro _ _ _ _ _
  -- in a run, or not
  refine up_loop (P := fun a => ∀ sum f : Int, 0 ≤ sum → ((f = -1 ∧ ∃ n : Nat, m 3 - a < n ∧ sum + ahF m x1 n a = ahM m x1) ∨ ((0 ≤ f ∧ f ≤ a) ∧ a < m 3 ∧ ¬ bitB x1 a = true ∧ ∃ n : Nat, m 3 - (rnM m x1 a + 1) < n ∧ sum + strM m f (rnM m x1 a) + ahF m x1 n (rnM m x1 a + 1) = ahM m x1)) → aX8_reckonAhead_7 g ad d (Ki fun r s => r = ahM m x1 ∧ s = σ) 0 0 σ x1 sum f a) (hi := m 3) 0 h3.1 ?_ ?_ 0 (-1) (Int.le_refl _) (Or.inl ⟨rfl, 7, by omega, by unfold ahM; omega⟩)
  · intro sum f hs hI
    rcases hI with ⟨hf, n, hn, hv⟩ | ⟨-, z, -⟩
    · obtain ⟨n', rfl⟩ : ∃ n', n = n' + 1 := ⟨n - 1, by omega⟩
      rw [ahF, if_pos (Int.le_refl _)] at hv
      exact bX8_reckonAhead_7 i1 (iR_of (by omega) (by omega)) (by rw [hf]; exact iR_lit rfl) (iR_of (by omega) (by omega)) hS ⟨fun _ => re_i ⟨by omega, rfl⟩, fun z => absurd (by rw [hT3]; omega) z⟩
    · omega
  · intro a ha0 ha1 ih sum f hs hI
    have ia_ : iR a := iR_of (by omega) (by omega)
    have ia1 : iR (a + 1) := iR_of (by omega) (by omega)
    have hr : a ≤ rnM m x1 a ∧ rnM m x1 a < m 3 := rnE_b (m := m) x1 (m 3 - 1 - a).toNat a (by omega)
    have hsumb : sum ≤ 12474 := by
      rcases hI with ⟨hf, n, hn, hv⟩ | ⟨hf, hlt, -, n, hn, hv⟩
      · have := (ahF_b hW x1 n a ha0).1
        omega
      · have h5 := (ahF_b hW x1 n (rnM m x1 a + 1) (by omega)).1
        have h6 := (strM_b hW 6 f (rnM m x1 a) hf.1 (by omega) hr.2 (by omega)).1
        omega
    have is_ : iR sum := iR_of (by omega) (by omega)
    have hst := rnM_step (m := m) (s := x1) ha1
    have hb0 := bit01' h1 (j := a) (by omega)
    have if_ : iR f := by
      rcases hI with ⟨hf, -⟩ | ⟨hf, -⟩
      · rw [hf]; exact iR_lit rfl
      · exact iR_of (by omega) (by omega)
    have end107 : ∀ (s' f' o nb : Int), 0 ≤ s' → iR s' → iR f' → iR o → iR nb → ((f' = -1 ∧ ∃ n : Nat, m 3 - (a + 1) < n ∧ s' + ahF m x1 n (a + 1) = ahM m x1) ∨ ((0 ≤ f' ∧ f' ≤ a + 1) ∧ a + 1 < m 3 ∧ ¬ bitB x1 (a + 1) = true ∧ ∃ n : Nat, m 3 - (rnM m x1 (a + 1) + 1) < n ∧ s' + strM m f' (rnM m x1 (a + 1)) + ahF m x1 n (rnM m x1 (a + 1) + 1) = ahM m x1)) → aX8_reckonAhead_107 g ad d (Ki fun r s => r = ahM m x1 ∧ s = σ) 0 0 σ x1 s' f' a o nb := by
      intro s' f' o nb hs' is' if' io inb hI'
      exact bX8_reckonAhead_107 i1 is' if' ia_ io inb hS ⟨ia1, fun _ _ _ _ _ => ih s' f' hs' hI'⟩
    by_cases cb : bitB x1 a = true
    · -- covered
      rcases hI with ⟨hf, n, hn, hv⟩ | ⟨-, -, z, -⟩
      rotate_left
      · exact absurd cb z
      · obtain ⟨n', rfl⟩ : ∃ n', n = n' + 1 := ⟨n - 1, by omega⟩
        rw [ahF, if_neg (by omega), if_pos cb] at hv
        have go80 : ∀ nb, iR nb → aX8_reckonAhead_80 g ad d (Ki fun r s => r = ahM m x1 ∧ s = σ) 0 0 σ x1 sum f a 0 nb := fun nb inb => bX8_reckonAhead_80 i1 is_ if_ ia_ (iR_lit rfl) inb hS ⟨fun _ _ _ _ _ _ _ _ => end107 sum f 0 nb hs is_ if_ (iR_lit rfl) inb (Or.inl ⟨hf, n', by omega, hv⟩), fun z => absurd rfl z⟩
        have go64 : aX8_reckonAhead_64 g ad d (Ki fun r s => r = ahM m x1 ∧ s = σ) 0 0 σ x1 sum f a 0 := bX8_reckonAhead_64 i1 is_ if_ ia_ (iR_lit rfl) hS ⟨fun _ _ _ _ _ _ _ _ => go80 0 (iR_lit rfl), fun z => absurd rfl z⟩
        exact bX8_reckonAhead_7 i1 is_ if_ ia_ hS ⟨fun z => absurd z (by rw [hT3]; omega), fun _ => ⟨fun _ => ⟨ia1, fun _ _ _ _ _ _ _ => go64, fun _ => ⟨fun _ _ _ _ _ _ _ => go64, fun _ _ _ _ _ _ _ _ => go80 1 (iR_lit rfl)⟩⟩, fun z => absurd cb (hb0.mp z)⟩⟩
    · -- open
      have cz : bAnd (bShr x1 a) 1 = 0 := hb0.mpr cb
      have hB : ∃ f', (f = -1 → f' = a) ∧ (¬ f = -1 → f' = f) ∧ (0 ≤ f' ∧ f' ≤ a) ∧ ∃ n : Nat, m 3 - (rnM m x1 a + 1) < n ∧ sum + strM m f' (rnM m x1 a) + ahF m x1 n (rnM m x1 a + 1) = ahM m x1 := by
        rcases hI with ⟨hf, n, hn, hv⟩ | ⟨hf, -, -, n, hn, hv⟩
        · obtain ⟨n', rfl⟩ : ∃ n', n = n' + 1 := ⟨n - 1, by omega⟩
          rw [ahF, if_neg (by omega), if_neg cb] at hv
          exact ⟨a, fun _ => rfl, fun z => absurd hf z, ⟨ha0, Int.le_refl _⟩, n', by omega, by omega⟩
        · exact ⟨f, fun z => by omega, fun _ => rfl, hf, n, hn, hv⟩
      obtain ⟨f', hf1, hf2, hfb, n, hn, hv⟩ := hB
      have if'_ : iR f' := iR_of (by omega) (by omega)
      -- the run ends here
      have goE : ¬ (a + 1 < m 3 ∧ ¬ bitB x1 (a + 1) = true) → aX8_reckonAhead_80 g ad d (Ki fun r s => r = ahM m x1 ∧ s = σ) 0 0 σ x1 sum f' a 1 0 := by
        intro hno
        rw [if_neg hno] at hst
        rw [hst] at hv hn
        have hsb := strM_b hW 6 f' a hfb.1 hfb.2 ha1 (by omega)
        refine bX8_reckonAhead_80 i1 is_ if'_ ia_ (iR_lit rfl) (iR_lit rfl) hS ⟨fun z => absurd z (by decide), fun _ => ⟨fun z => absurd rfl z, fun _ => ⟨⟨by omega, by omega⟩, ?_⟩⟩⟩
        rw [hT f' a hfb.1 hfb.2 ha1]
        have iss : iR (sum + strM m f' a) := iR_of (by omega) (by omega)
        exact ⟨iss, fun _ _ _ _ _ _ _ => end107 _ (-1) 1 0 (by omega) iss (iR_lit rfl) (iR_lit rfl) (iR_lit rfl) (Or.inl ⟨rfl, n, by omega, by omega⟩)⟩
      have goC : a + 1 < m 3 → ¬ bitB x1 (a + 1) = true → aX8_reckonAhead_80 g ad d (Ki fun r s => r = ahM m x1 ∧ s = σ) 0 0 σ x1 sum f' a 1 1 := by
        intro c1 c2
        rw [if_pos ⟨c1, c2⟩] at hst
        rw [hst] at hv hn
        exact bX8_reckonAhead_80 i1 is_ if'_ ia_ (iR_lit rfl) (iR_lit rfl) hS ⟨fun z => absurd z (by decide), fun _ => ⟨fun _ _ _ _ _ _ _ _ => end107 sum f' 1 1 hs is_ if'_ (iR_lit rfl) (iR_lit rfl) (Or.inr ⟨⟨hfb.1, by omega⟩, c1, c2, n, hn, hv⟩), fun z => absurd z (by decide)⟩⟩
      have go64 : ¬ (a + 1 < m 3 ∧ ¬ bitB x1 (a + 1) = true) → aX8_reckonAhead_64 g ad d (Ki fun r s => r = ahM m x1 ∧ s = σ) 0 0 σ x1 sum f a 1 := by
        intro hno
        refine bX8_reckonAhead_64 i1 is_ if_ ia_ (iR_lit rfl) hS ⟨fun z => absurd z (by decide), fun _ => ⟨fun z _ _ _ _ _ _ _ => ?_, fun z _ _ _ _ _ _ _ => ?_⟩⟩
        · have := goE hno
          rw [hf2 z] at this
          exact this
        · have := goE hno
          rw [hf1 z] at this
          exact this
      have hb1 : a + 1 < m 3 → (bAnd (bShr x1 (a + 1)) 1 = 0 ↔ ¬ bitB x1 (a + 1) = true) := fun c => bit01' h1 (j := a + 1) (by omega)
      refine bX8_reckonAhead_7 i1 is_ if_ ia_ hS ⟨fun z => absurd z (by rw [hT3]; omega), fun _ => ⟨fun z => absurd cz z, fun _ => ⟨ia1, fun c2 _ _ _ _ _ _ => go64 (by rw [hT3] at c2; omega), fun c2 => ?_⟩⟩⟩
      rw [hT3] at c2
      refine ⟨fun c3 _ _ _ _ _ _ => go64 (fun z => c3 ((hb1 (by omega)).mpr z.2)), fun c3 => ⟨fun z _ _ _ _ _ _ _ => ?_, fun z _ _ _ _ _ _ _ => ?_⟩⟩
      · have := goC (by omega) ((hb1 (by omega)).mp c3)
        rw [hf2 z] at this
        exact this
      · have := goC (by omega) ((hb1 (by omega)).mp c3)
        rw [hf1 z] at this
        exact this
end STC
