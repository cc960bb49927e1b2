section CHO
variable {g : AG} {ad : Nat → Nat} {d : Nat} {σ : SG} {m t : Int → Int} {k : Nat}
theorem ins_map {rk rk' : Int → Int} {f : Int → Int} (h : ∀ i, rk i = rk' (f i)) {x : Int} : ∀ l : List Int, (ins rk x l).map f = ins rk' (f x) (l.map f)
  | [] => rfl
  | y :: l => by
    rw [ins, List.map_cons, ins]
    by_cases c : rk x ≤ rk y
    · rw [if_pos c, if_pos (by rw [← h, ← h]; exact c)]
      rfl
    · rw [if_neg c, if_neg (by rw [← h, ← h]; exact c), List.map_cons, ins_map h l]
theorem srt_map {rk rk' : Int → Int} {f : Int → Int} (h : ∀ i, rk i = rk' (f i)) : ∀ l : List Int, (srt rk l).map f = srt rk' (l.map f)
  | [] => rfl
  | y :: l => by
    show (ins rk y (srt rk l)).map f = ins rk' (f y) (srt rk' (l.map f))
    rw [ins_map h, srt_map h l]
theorem SCl.ok {s : SG} {S : SK} (h : SCl σ m S) (hO : Ok σ s) : SCl s m S := h.fr (hO.1.ia 76 (by omega)) (hO.1.ia 77 (by omega)) (hO.1.ia 78 (by omega)) (hO.1.ia 79 (by omega)) (hO.1.ia 80 (by omega)) (hO.1.ia 81 (by omega)) (hO.1.ia 60 (by omega)) (hO.1.sc 58 5 (by omega)) (hO.2 13 (by decide))
theorem Ok.f {s : SG} (h : Ok σ s) : Fr Fcl σ s := h.1.mono (fun c hc => by
  rcases hc with z | z | z <;> rw [z] <;> exact ⟨by omega, by omega⟩)
theorem f_choose {S : SK} {n w : Int} (hk : isK k) (hB : SB σ m k) (hW : WF m) (hI : IS m S) (hC : SCl σ m S) (hmb : S.mn ≤ 1000000) (hn : 0 ≤ n ∧ n < m 3) (hw : 1 ≤ w ∧ w ≤ 40) (hS : SR σ) (hd : 3 ≤ d) : Eb g ad d mX7_choose 0 0 [.ref (ad 75), vi n, vi w] σ (Kv fun s => ∃ T, StA s (rkn σ m S) T ∧ sc s 75 11 = (T.length : Int) ∧ T.map (kK σ) = topM m S n w ∧ (∀ y ∈ T, 0 ≤ y ∧ y < kN σ) ∧ Ok σ s) := by
  have hnb := hB.kn.nb
  have h3 := hW.1.2.2.2.1
  have i1 : iR n := iR_of (by omega) (by omega)
  have iw : iR w := iR_of (by omega) (by omega)
  have hf0 := hB.kn.fi n hn.1 (by omega)
  have hf1 := hB.kn.fi (n + 1) (by omega) (by omega)
  refine EbS rfl pl_X7 rfl rfl (bX7_choose_0 i1 iw hS ⟨⟨hn.1, by omega⟩, ?_⟩)
  have e62 : ia (setS σ 75 11 0) 62 = ia σ 62 := rfl
  rw [e62]
  intro _ _ _ hS0
  have hO0 : Ok σ (setS σ 75 11 0) := ⟨(Fr.refl σ).S (Or.inr (Or.inr rfl)), fun j hj => by rw [sc_S, if_neg (fun z => hj z.2)]⟩
  have hinj : ∀ i j, (0 ≤ i ∧ i < kN σ) → (0 ≤ j ∧ j < kN σ) → kK σ i = kK σ j → i = j := fun i j h0 h1 e => by
    have h2 := hB.kn.vd i h0.1 h0.2
    have h4 := hB.kn.vd j h1.1 h1.2
    have := keyC_inj hW.1 h2.1 h4.1 e
    rw [this, h4.2] at h2
    omega
  have hle : ia σ 62 n ≤ ia σ 62 (n + 1) := by
    rcases Classical.em (ia σ 62 n ≤ ia σ 62 (n + 1)) with z | z
    · exact z
    · exfalso
      have h1 := (hf0.2 (ia σ 62 (n + 1)) hf1.1.1 (by omega)).mp (by omega)
      have h2 := (hf1.2 (ia σ 62 (n + 1)) hf1.1.1 (by omega)).mpr (by omega)
      omega
  refine up_loop (P := fun x => ∀ (τ : SG) (P : List Int), SR τ → Ok σ τ → (∀ z, z ∈ P ↔ (ia σ 62 n ≤ z ∧ z < x) ∧ ¬ S.ls (kK σ z) = 0) → P.Pairwise (fun a b => rkn σ m S a ≠ rkn σ m S b) → StA τ (rkn σ m S) ((srt (rkn σ m S) P).take w.toNat) → sc τ 75 11 = (((srt (rkn σ m S) P).take w.toNat).length : Int) → aX7_choose_15 g ad d (Kv fun s => ∃ T, StA s (rkn σ m S) T ∧ sc s 75 11 = (T.length : Int) ∧ T.map (kK σ) = topM m S n w ∧ (∀ y ∈ T, 0 ≤ y ∧ y < kN σ) ∧ Ok σ s) 0 0 τ n w x) (hi := ia σ 62 (n + 1)) (ia σ 62 n) hle ?_ ?_ (setS σ 75 11 0) [] hS0 hO0 (fun z => ⟨(fun h => (by cases h)), (fun h => (by omega))⟩) List.Pairwise.nil (fun p i h => by
      rw [show srt (rkn σ m S) [] = [] from rfl, List.take_nil] at h
      cases h) (by
      rw [show srt (rkn σ m S) [] = [] from rfl, List.take_nil]
      simp (config := {decide := true}) only [sc_S, ia_S, la_S, rv_S, sc_I, rv_I, la_I, ia_I, sc_L, rv_L, ia_L, la_L, sc_A, rv_A, la_A, ia_A, sc_B, rv_B, ia_B, la_B, sc_R, ia_R, la_R, rv_R, ia_w, la_w, rv_w, sc_w, if_true, if_false])
  · intro τ P hSt hO hP hPd hA h11
    have e62' : ia τ 62 = ia σ 62 := hO.1.ia 62 (by omega)
    refine bX7_choose_15 i1 iw (hS.1 62 _) hSt ⟨⟨by omega, by omega⟩, fun _ => re_v ⟨_, hA, h11, ?_, fun y hy => ?_, hO⟩, fun z => absurd (by rw [e62']; exact Int.le_refl _) z⟩
    · unfold topM
      rw [List.map_take, srt_map (rk := rkn σ m S) (rk' := rkS m S) (f := kK σ) (fun i => rfl)]
      congr 1
      refine srt_same ?_ ?_ (fun q => ?_)
      · rw [List.pairwise_map]
        exact hPd
      · unfold cand
        refine List.Pairwise.imp_of_mem (fun {a b} ha hb hab => ?_) (ir_nodup.filter _)
        have h1 := (mem_cand (m := m) (S := S) (n := n)).mp ha
        have h2 := (mem_cand (m := m) (S := S) (n := n)).mp hb
        exact rkS_ne hI hW (by omega) h1.2.2 h2.2.2 (by omega)
      · rw [mem_cand, List.mem_map]
        constructor
        · rintro ⟨z, hz, rfl⟩
          have h1 := (hP z).mp hz
          have hzr : 0 ≤ z ∧ z < kN σ := ⟨by omega, by omega⟩
          have hv := (hB.kn.vd z hzr.1 hzr.2).1
          have hks := keyC_s hW.1 hv
          have ek : kK σ z / 294 = kM σ z := hks.1
          have k0 := hf0.2 z hzr.1 hzr.2
          have k1 := hf1.2 z hzr.1 hzr.2
          exact ⟨hks.2.1, by rw [ek]; omega, h1.2⟩
        · rintro ⟨h1, h2, h4⟩
          obtain ⟨z, hz, e⟩ := hC.al q h4
          have hv := (hB.kn.vd z hz.1 hz.2).1
          have hks := keyC_s hW.1 hv
          have ek : kK σ z / 294 = kM σ z := hks.1
          rw [← e, ek] at h2
          have k0 := hf0.2 z hz.1 hz.2
          have k1 := hf1.2 z hz.1 hz.2
          exact ⟨z, (hP z).mpr ⟨⟨by omega, by omega⟩, by rw [e]; exact h4⟩, e⟩
    · have := mem_srt.mp (List.mem_of_mem_take hy)
      have h1 := (hP y).mp this
      omega
  · intro x hx0 hx1 ih τ P hSt hO hP hPd hA h11
    have e62' : ia τ 62 = ia σ 62 := hO.1.ia 62 (by omega)
    have hxr : 0 ≤ x ∧ x < kN σ := ⟨by omega, by omega⟩
    have hCt := hC.ok hO
    have hBt := hB.fr hk hO.f
    have e60 : ia τ 60 = ia σ 60 := hO.1.ia 60 (by omega)
    have e5 : kN τ = kN σ := hO.1.sc 58 5 (by omega)
    have ekK : ∀ i', kK τ i' = kK σ i' := fun i' => by show keyC (ia τ 60 i') = keyC (ia σ 60 i'); rw [e60]
    have erk : rkn τ m S = rkn σ m S := by funext i'; show rkS m S (kK τ i') = _; rw [ekK]; rfl
    have htm := hCt.tm x hxr.1 (by rw [e5]; exact hxr.2)
    rw [ekK] at htm
    have ix : iR x := iR_of (by omega) (by omega)
    have ix1 : iR (x + 1) := iR_of (by omega) (by omega)
    refine bX7_choose_15 i1 iw ix hSt ⟨⟨by omega, by omega⟩, fun z => absurd z (by rw [e62']; omega), fun _ => ⟨⟨hxr.1, by omega⟩, fun c => ⟨ix1, fun _ _ _ _ => ih τ P hSt hO (fun z => ?_) hPd hA h11⟩, fun c => ?_⟩⟩
    · rw [hP z]
      constructor
      · rintro ⟨h1, h2⟩; exact ⟨by omega, h2⟩
      · rintro ⟨h1, h2⟩
        have : ¬ z = x := fun e => by rw [e] at h2; exact h2 (htm.mpr c)
        exact ⟨by omega, h2⟩
    · have hls : ¬ S.ls (kK σ x) = 0 := fun z => c (htm.mp z)
      have hmemP : ∀ y, y ∈ (srt (rkn σ m S) P).take w.toNat → (ia σ 62 n ≤ y ∧ y < x) ∧ ¬ S.ls (kK σ y) = 0 := fun y hy => (hP y).mp (mem_srt.mp (List.mem_of_mem_take hy))
      have hup : Up (rkn σ m S) ((srt (rkn σ m S) P).take w.toNat) := (up_srt hPd).sublist (List.take_sublist _ _)
      have hoff := f_offer (g := g) (ad := ad) (d := d - 1) (σ := τ) (i := x) (w := w) (T := (srt (rkn σ m S) P).take w.toNat) hBt hW hI hCt hmb (by rw [e5]; exact hxr) (by rw [ekK]; exact hls) hw (by rw [erk]; exact hA) h11 (by rw [List.length_take]; omega) (by rw [erk]; exact hup) (fun y hy => by
        have := hmemP y hy
        rw [e5, ekK]
        exact ⟨by omega, this.2, by omega⟩) hSt (by omega)
      rw [erk] at hoff
      refine Cl.vo hoff (by omega) (fun s4 hS4 h4 => ⟨ix1, fun _ _ _ _ => ?_⟩)
      have etop : (ins (rkn σ m S) x ((srt (rkn σ m S) P).take w.toNat)).take w.toNat = (srt (rkn σ m S) (x :: P)).take w.toNat := (top_step P w.toNat).symm
      rw [etop] at h4
      refine ih s4 (x :: P) hS4 (hO.trans h4.2.2) (fun z => ?_) ?_ h4.1 h4.2.1
      · rw [List.mem_cons, hP z]
        constructor
        · rintro (e | ⟨h1, h2⟩)
          · rw [e]; exact ⟨⟨hx0, by omega⟩, hls⟩
          · exact ⟨by omega, h2⟩
        · rintro ⟨h1, h2⟩
          by_cases e : z = x
          · exact Or.inl e
          · exact Or.inr ⟨by omega, h2⟩
      · refine List.Pairwise.cons (fun y hy => ?_) hPd
        have hy' := (hP y).mp hy
        refine rkS_ne hI hW (by omega) hls hy'.2 (fun e => ?_)
        have := hinj x y hxr (by omega) e
        omega
end CHO
