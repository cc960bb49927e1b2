/-! KNOTS -/
def mE (a b : Int) : Bool := if b = 0 then decide (a = 0) else bitB a (b - 1)
/-- what a knot's code may be -/
def vC (m : Int → Int) (c : Int) : Prop := (0 ≤ c ∧ c < 18368) ∧ c / 287 ≤ fullM m ∧ c / 41 % 7 ≤ m 3 ∧ mE (c / 287) (c / 41 % 7) = true ∧ (c % 41 = 40 ∨ c % 41 < m 0)
/-- the code of the knot behind a step -/
def cdB (m : Int → Int) (a l : Int) (q : Op) : Int := (bOr a (msk m q.2 q.1) * 7 + (q.1 + cov m q.2)) * 41 + (if laW m q = -1 then l else laW m q)
abbrev kN (s : SG) : Int := sc s 58 5
abbrev kM (s : SG) (i : Int) : Int := ia s 60 i / 287
def KI (s : SG) (m : Int → Int) (n x F : Int) : Prop := (0 ≤ kN s ∧ kN s ≤ 7913) ∧ (∀ i, 0 ≤ i → i < kN s → vC m (ia s 60 i) ∧ ia s 59 (ia s 60 i) = i + 1) ∧ (∀ c, 0 ≤ c → c < 18368 → ia s 59 c = 0 ∨ (ia s 59 c = -1 ∧ vC m c ∧ (n < pc (c / 287) ∨ (pc (c / 287) : Int) = n ∧ x ≤ c)) ∨ (1 ≤ ia s 59 c ∧ ia s 59 c ≤ kN s ∧ ia s 60 (ia s 59 c - 1) = c)) ∧ (∀ i, 0 ≤ i → i < kN s → ∀ q ∈ ops m, bAnd (kM s i) (msk m q.2 q.1) = 0 → ¬ ia s 59 (cdB m (kM s i) (ia s 60 i % 41) q) = 0) ∧ (∀ i, 0 ≤ i → i < kN s → (pc (kM s i) : Int) ≤ n) ∧ (∀ i j, 0 ≤ i → i ≤ j → j < kN s → pc (kM s i) ≤ pc (kM s j)) ∧ (∀ n', 0 ≤ n' → n' < F → (0 ≤ ia s 62 n' ∧ ia s 62 n' ≤ kN s) ∧ ∀ i, 0 ≤ i → i < kN s → (i < ia s 62 n' ↔ (pc (kM s i) : Int) < n')) ∧ (1 ≤ kN s → ia s 60 0 = 40) ∧ (kN s = 0 → ia s 59 40 = -1 ∧ ∀ c, 0 ≤ c → c < 18368 → ia s 59 c = -1 → c = 40)
theorem KI.nb {s : SG} {m : Int → Int} {n x F : Int} (h_ : KI s m n x F) : 0 ≤ kN s ∧ kN s ≤ 7913 := h_.1
theorem KI.vd {s : SG} {m : Int → Int} {n x F : Int} (h_ : KI s m n x F) : ∀ i, 0 ≤ i → i < kN s → vC m (ia s 60 i) ∧ ia s 59 (ia s 60 i) = i + 1 := h_.2.1
theorem KI.se {s : SG} {m : Int → Int} {n x F : Int} (h_ : KI s m n x F) : ∀ c, 0 ≤ c → c < 18368 → ia s 59 c = 0 ∨ (ia s 59 c = -1 ∧ vC m c ∧ (n < pc (c / 287) ∨ (pc (c / 287) : Int) = n ∧ x ≤ c)) ∨ (1 ≤ ia s 59 c ∧ ia s 59 c ≤ kN s ∧ ia s 60 (ia s 59 c - 1) = c) := h_.2.2.1
theorem KI.cl {s : SG} {m : Int → Int} {n x F : Int} (h_ : KI s m n x F) : ∀ i, 0 ≤ i → i < kN s → ∀ q ∈ ops m, bAnd (kM s i) (msk m q.2 q.1) = 0 → ¬ ia s 59 (cdB m (kM s i) (ia s 60 i % 41) q) = 0 := h_.2.2.2.1
theorem KI.po {s : SG} {m : Int → Int} {n x F : Int} (h_ : KI s m n x F) : ∀ i, 0 ≤ i → i < kN s → (pc (kM s i) : Int) ≤ n := h_.2.2.2.2.1
theorem KI.mo {s : SG} {m : Int → Int} {n x F : Int} (h_ : KI s m n x F) : ∀ i j, 0 ≤ i → i ≤ j → j < kN s → pc (kM s i) ≤ pc (kM s j) := h_.2.2.2.2.2.1
theorem KI.fi {s : SG} {m : Int → Int} {n x F : Int} (h_ : KI s m n x F) : ∀ n', 0 ≤ n' → n' < F → (0 ≤ ia s 62 n' ∧ ia s 62 n' ≤ kN s) ∧ ∀ i, 0 ≤ i → i < kN s → (i < ia s 62 n' ↔ (pc (kM s i) : Int) < n') := h_.2.2.2.2.2.2.1
theorem KI.c0 {s : SG} {m : Int → Int} {n x F : Int} (h_ : KI s m n x F) : 1 ≤ kN s → ia s 60 0 = 40 := h_.2.2.2.2.2.2.2.1
theorem KI.c1 {s : SG} {m : Int → Int} {n x F : Int} (h_ : KI s m n x F) : kN s = 0 → ia s 59 40 = -1 ∧ ∀ c, 0 ≤ c → c < 18368 → ia s 59 c = -1 → c = 40 := h_.2.2.2.2.2.2.2.2
/-- the knots of m are there -/
def KNT (s : SG) (m : Int → Int) : Prop := (1 ≤ kN s ∧ kN s ≤ 7913) ∧ (ia s 60 0 = 40) ∧ (∀ i, 0 ≤ i → i < kN s → vC m (ia s 60 i) ∧ ia s 59 (ia s 60 i) = i + 1) ∧ (∀ c, 0 ≤ c → c < 18368 → ia s 59 c = 0 ∨ (1 ≤ ia s 59 c ∧ ia s 59 c ≤ kN s ∧ ia s 60 (ia s 59 c - 1) = c)) ∧ (∀ i, 0 ≤ i → i < kN s → ∀ q ∈ ops m, bAnd (kM s i) (msk m q.2 q.1) = 0 → i + 1 < ia s 59 (cdB m (kM s i) (ia s 60 i % 41) q)) ∧ (∀ i j, 0 ≤ i → i ≤ j → j < kN s → pc (kM s i) ≤ pc (kM s j)) ∧ (∀ n', 0 ≤ n' → n' ≤ m 3 + 1 → (0 ≤ ia s 62 n' ∧ ia s 62 n' ≤ kN s) ∧ ∀ i, 0 ≤ i → i < kN s → (i < ia s 62 n' ↔ (pc (kM s i) : Int) < n'))
theorem KNT.nb {s : SG} {m : Int → Int} (h_ : KNT s m) : 1 ≤ kN s ∧ kN s ≤ 7913 := h_.1
theorem KNT.c0 {s : SG} {m : Int → Int} (h_ : KNT s m) : ia s 60 0 = 40 := h_.2.1
theorem KNT.vd {s : SG} {m : Int → Int} (h_ : KNT s m) : ∀ i, 0 ≤ i → i < kN s → vC m (ia s 60 i) ∧ ia s 59 (ia s 60 i) = i + 1 := h_.2.2.1
theorem KNT.se {s : SG} {m : Int → Int} (h_ : KNT s m) : ∀ c, 0 ≤ c → c < 18368 → ia s 59 c = 0 ∨ (1 ≤ ia s 59 c ∧ ia s 59 c ≤ kN s ∧ ia s 60 (ia s 59 c - 1) = c) := h_.2.2.2.1
theorem KNT.cl {s : SG} {m : Int → Int} (h_ : KNT s m) : ∀ i, 0 ≤ i → i < kN s → ∀ q ∈ ops m, bAnd (kM s i) (msk m q.2 q.1) = 0 → i + 1 < ia s 59 (cdB m (kM s i) (ia s 60 i % 41) q) := h_.2.2.2.2.1
theorem KNT.mo {s : SG} {m : Int → Int} (h_ : KNT s m) : ∀ i j, 0 ≤ i → i ≤ j → j < kN s → pc (kM s i) ≤ pc (kM s j) := h_.2.2.2.2.2.1
theorem KNT.fi {s : SG} {m : Int → Int} (h_ : KNT s m) : ∀ n', 0 ≤ n' → n' ≤ m 3 + 1 → (0 ≤ ia s 62 n' ∧ ia s 62 n' ≤ kN s) ∧ ∀ i, 0 ≤ i → i < kN s → (i < ia s 62 n' ↔ (pc (kM s i) : Int) < n') := h_.2.2.2.2.2.2
/-- what can be cleared away -/
def KCl (s : SG) : Prop := (0 ≤ kN s ∧ kN s ≤ 7913) ∧ (∀ i, 0 ≤ i → i < kN s → 0 ≤ ia s 60 i ∧ ia s 60 i < 18368) ∧ ∀ c, 0 ≤ c → c < 18368 → ¬ ia s 59 c = 0 → ∃ i, (0 ≤ i ∧ i < kN s) ∧ ia s 60 i = c
section KNO
variable {g : AG} {ad : Nat → Nat} {d : Nat} {σ : SG} {m t : Int → Int} {k : Nat}
theorem KNT.clear (h : KNT σ m) : KCl σ := ⟨⟨by have := h.nb; omega, h.nb.2⟩, fun i a b => (h.vd i a b).1.1, fun c a b z => by
  rcases h.se c a b with e | ⟨e1, e2, e3⟩
  · exact absurd e z
  · exact ⟨ia σ 59 c - 1, ⟨by omega, by omega⟩, e3⟩⟩
def Kno (c : Nat) : Prop := 58 ≤ c ∧ c ≤ 62
theorem Kno_O (c : Nat) (h : Kno c) : ¬ Ocl c := by unfold Kno at h; unfold Ocl; omega
theorem Kno_K (hk : isK k) (c : Nat) (h : Kcl k c) : ¬ Kno c := by
  have := isK_b hk
  unfold Kcl at h
  unfold Kno
  omega
/-! masks and codes -/
theorem or_le_all : ∀ (p : Fin 7) (a b : Fin 64), (a.val : Int) ≤ 2 ^ p.val - 1 → (b.val : Int) ≤ 2 ^ p.val - 1 → bOr (a.val : Int) (b.val : Int) ≤ 2 ^ p.val - 1 := by decide +kernel
theorem msk_le_all : ∀ (p : Fin 7) (c : Fin 4) (b : Fin 6), b.val + c.val ≤ p.val → ((2 : Int) ^ c.val - 1) * 2 ^ b.val ≤ 2 ^ p.val - 1 := by decide +kernel
theorem pc_le_all : ∀ (p : Fin 7) (a : Fin 64), (a.val : Int) ≤ 2 ^ p.val - 1 → pc (a.val : Int) ≤ p.val := by decide +kernel
theorem pc_full_all : ∀ (p : Fin 7) (a : Fin 64), (a.val : Int) ≤ 2 ^ p.val - 1 → (pc (a.val : Int) = p.val ↔ (a.val : Int) = 2 ^ p.val - 1) := by decide +kernel
theorem mE_all : ∀ (a : Fin 64) (c : Fin 4) (b : Fin 6), 1 ≤ c.val → b.val + c.val ≤ 6 → bitB (bOr (a.val : Int) ((2 ^ c.val - 1) * 2 ^ b.val)) ((b.val : Int) + (c.val : Int) - 1) = true := by decide +kernel
theorem full_or (hW : W0 m) {a b : Int} (ha : 0 ≤ a ∧ a ≤ fullM m) (hb : 0 ≤ b ∧ b ≤ fullM m) : bOr a b ≤ fullM m := by
  have h3 := hW.2.2.2.1
  have hf := fullM_b hW
  have h1 : (m 3).toNat < 7 := by omega
  have h2 : a.toNat < 64 := by omega
  have h4 : b.toNat < 64 := by omega
  have := or_le_all ⟨(m 3).toNat, h1⟩ ⟨a.toNat, h2⟩ ⟨b.toNat, h4⟩
  rw [show (((⟨a.toNat, h2⟩ : Fin 64).val : Nat) : Int) = a from by show ((a.toNat : Nat) : Int) = a; omega, show (((⟨b.toNat, h4⟩ : Fin 64).val : Nat) : Int) = b from by show ((b.toNat : Nat) : Int) = b; omega] at this
  exact this ha.2 hb.2
theorem full_msk (hW : WF m) {q : Op} (hq : (0 ≤ q.1 ∧ q.1 < m 3) ∧ isO m q.2 ∧ isOpt m q.2 q.1 = true) : 1 ≤ msk m q.2 q.1 ∧ msk m q.2 q.1 ≤ fullM m := by
  have h3 := hW.1.2.2.2.1
  have hc := cov_b hW.2.1 hq.2.1
  have ho := isOpt_b hq.2.2
  have hm := msk_b hc hq.1.1 (by omega)
  refine ⟨hm.1, ?_⟩
  have h1 : (m 3).toNat < 7 := by omega
  have h2 : (cov m q.2).toNat < 4 := by omega
  have h4 : q.1.toNat < 6 := by omega
  exact msk_le_all ⟨(m 3).toNat, h1⟩ ⟨(cov m q.2).toNat, h2⟩ ⟨q.1.toNat, h4⟩ (by show q.1.toNat + (cov m q.2).toNat ≤ (m 3).toNat; omega)
theorem full_pc (hW : W0 m) {a : Int} (ha : 0 ≤ a ∧ a ≤ fullM m) : (pc a : Int) ≤ m 3 ∧ ((pc a : Int) = m 3 ↔ a = fullM m) := by
  have h3 := hW.2.2.2.1
  have hf := fullM_b hW
  have h1 : (m 3).toNat < 7 := by omega
  have h2 : a.toNat < 64 := by omega
  have e := show (((⟨a.toNat, h2⟩ : Fin 64).val : Nat) : Int) = a from by show ((a.toNat : Nat) : Int) = a; omega
  have k1 := pc_le_all ⟨(m 3).toNat, h1⟩ ⟨a.toNat, h2⟩
  have k2 := pc_full_all ⟨(m 3).toNat, h1⟩ ⟨a.toNat, h2⟩
  rw [e] at k1 k2
  have k1' : pc a ≤ (m 3).toNat := k1 ha.2
  have k2' : pc a = (m 3).toNat ↔ a = fullM m := k2 ha.2
  refine ⟨by omega, ?_⟩
  rw [← k2']
  omega
/-- behind a step -/
theorem cdB_s (hW : WF m) {a l : Int} {q : Op} (ha : 0 ≤ a ∧ a ≤ fullM m) (hl : 0 ≤ l ∧ (l = 40 ∨ l < m 0)) (hq : (0 ≤ q.1 ∧ q.1 < m 3) ∧ isO m q.2 ∧ isOpt m q.2 q.1 = true) : cdB m a l q / 287 = bOr a (msk m q.2 q.1) ∧ cdB m a l q / 41 % 7 = q.1 + cov m q.2 ∧ cdB m a l q % 41 = (if laW m q = -1 then l else laW m q) ∧ vC m (cdB m a l q) ∧ (bAnd a (msk m q.2 q.1) = 0 → pc a < pc (cdB m a l q / 287)) := by
  have h3 := hW.1.2.2.2.1
  have hm0 := hW.1.1
  have hf := fullM_b hW.1
  have hc := cov_b hW.2.1 hq.2.1
  have ho := isOpt_b hq.2.2
  have hm := full_msk hW hq
  have hor := st_or (a := a) (b := msk m q.2 q.1) (by omega) (by omega)
  have hor2 := full_or hW.1 ha (b := msk m q.2 q.1) (by omega)
  have hfl := fiW_z hW ⟨hq.1, hq.2.1⟩
  have hll : 0 ≤ (if laW m q = -1 then l else laW m q) ∧ ((if laW m q = -1 then l else laW m q) = 40 ∨ (if laW m q = -1 then l else laW m q) < m 0) := by
    by_cases c : laW m q = -1
    · rw [if_pos c]; exact hl
    · rw [if_neg c]
      have := (hfl.2.2 (fun z => c (hfl.2.1.mpr z))).2
      omega
  unfold cdB
  generalize (if laW m q = -1 then l else laW m q) = l' at hll
  have e1 : ((bOr a (msk m q.2 q.1) * 7 + (q.1 + cov m q.2)) * 41 + l') / 287 = bOr a (msk m q.2 q.1) := by omega
  have e2 : ((bOr a (msk m q.2 q.1) * 7 + (q.1 + cov m q.2)) * 41 + l') / 41 % 7 = q.1 + cov m q.2 := by omega
  refine ⟨e1, e2, by omega, ⟨⟨by omega, by omega⟩, by omega, by omega, ?_, by omega⟩, fun hz => ?_⟩
  · rw [e1, e2]
    unfold mE
    rw [if_neg (by omega)]
    have h1 : a.toNat < 64 := by omega
    have h2 : (cov m q.2).toNat < 4 := by omega
    have h4 : q.1.toNat < 6 := by omega
    have := mE_all ⟨a.toNat, h1⟩ ⟨(cov m q.2).toNat, h2⟩ ⟨q.1.toNat, h4⟩ (by show 1 ≤ (cov m q.2).toNat; omega) (by show q.1.toNat + (cov m q.2).toNat ≤ 6; omega)
    rw [show (((⟨a.toNat, h1⟩ : Fin 64).val : Nat) : Int) = a from by show ((a.toNat : Nat) : Int) = a; omega, show (((⟨(cov m q.2).toNat, h2⟩ : Fin 4).val : Nat) : Int) = cov m q.2 from by show (((cov m q.2).toNat : Nat) : Int) = _; omega, show (((⟨q.1.toNat, h4⟩ : Fin 6).val : Nat) : Int) = q.1 from by show ((q.1.toNat : Nat) : Int) = _; omega] at this
    exact this
  · rw [e1]
    exact (st_pc (a := a) (b := msk m q.2 q.1) (by omega) (by omega) hz (by omega)).1
theorem vC_b (hW : W0 m) {c : Int} (h : vC m c) : (0 ≤ c / 287 ∧ c / 287 ≤ fullM m) ∧ (0 ≤ c / 287 ∧ c / 287 ≤ 63) ∧ (0 ≤ c / 41 % 7 ∧ c / 41 % 7 ≤ 6) ∧ (0 ≤ c % 41 ∧ (c % 41 = 40 ∨ c % 41 < m 0)) := by
  have hf := fullM_b hW
  have h5 := h.2.2.2.2
  have h1 := h.1
  have h2 := h.2.1
  omega
/-! what is asked of a knot -/
theorem n_mask {i : Int} (hi : 0 ≤ i ∧ i < 7913) (hc : 0 ≤ ia σ 60 i ∧ ia σ 60 i < 18368) (hS : SR σ) : EI g ad d mX1_mask [.ref (ad 58), vi i] σ (ia σ 60 i / 287) σ := by
  refine EbS rfl pl_X1 rfl rfl (bX1_mask_0 (iR_of (by omega) (by omega)) hS ⟨hi, re_i ⟨bDiv_eq (by omega) (by omega), rfl⟩⟩)
theorem n_behind {i : Int} (hi : 0 ≤ i ∧ i < 7913) (hc : 0 ≤ ia σ 60 i ∧ ia σ 60 i < 18368) (hS : SR σ) : EI g ad d mX1_behind [.ref (ad 58), vi i] σ (ia σ 60 i / 41 % 7) σ := by
  refine EbS rfl pl_X1 rfl rfl (bX1_behind_0 (iR_of (by omega) (by omega)) hS ⟨hi, re_i ⟨?_, rfl⟩⟩)
  rw [bDiv_eq (by omega) (by omega), bRem_eq (by omega) (by omega)]
theorem n_last {i : Int} (hi : 0 ≤ i ∧ i < 7913) (hc : 0 ≤ ia σ 60 i ∧ ia σ 60 i < 18368) (hS : SR σ) : EI g ad d mX1_last [.ref (ad 58), vi i] σ (ia σ 60 i % 41) σ := by
  refine EbS rfl pl_X1 rfl rfl (bX1_last_0 (iR_of (by omega) (by omega)) hS ⟨hi, re_i ⟨bRem_eq (by omega) (by omega), rfl⟩⟩)
theorem n_codeBehind {a l i : Int} {q : Op} (hW : WF m) (hE : OpE σ m i q) (hi : 0 ≤ i ∧ i < 186) (hq : (0 ≤ q.1 ∧ q.1 < m 3) ∧ isO m q.2 ∧ isOpt m q.2 q.1 = true) (ha : 0 ≤ a ∧ a ≤ fullM m) (hl : 0 ≤ l ∧ (l = 40 ∨ l < m 0)) (hS : SR σ) : EI g ad d mX1_codeBehind [.ref (ad 58), vi a, vi l, vi i] σ (cdB m a l q) σ := by
  have hm0 := hW.1.1
  have hf := fullM_b hW.1
  have hs := cdB_s hW ha hl hq
  have hv := hs.2.2.2.1.1
  refine EbS rfl pl_X1 rfl rfl (bX1_codeBehind_0 (iR_of (by omega) (by omega)) (iR_of (by omega) (by omega)) (iR_of (by omega) (by omega)) hS ⟨hi, ?_⟩)
  rw [hE.la_, hE.cv, hE.en]
  unfold cdB at hv ⊢
  refine ⟨fun c => ?_, fun c => ?_⟩
  · rw [if_neg c] at hv ⊢
    exact ⟨iR_of (by omega) (by omega), re_i ⟨rfl, rfl⟩⟩
  · rw [if_pos c] at hv ⊢
    exact ⟨iR_of (by omega) (by omega), re_i ⟨rfl, rfl⟩⟩
theorem n_follow {a l i : Int} {q : Op} (hW : WF m) (hE : OpE σ m i q) (hi : 0 ≤ i ∧ i < 186) (hq : (0 ≤ q.1 ∧ q.1 < m 3) ∧ isO m q.2 ∧ isOpt m q.2 q.1 = true) (ha : 0 ≤ a ∧ a ≤ fullM m) (hl : 0 ≤ l ∧ (l = 40 ∨ l < m 0)) (hb : 0 ≤ ia σ 59 (cdB m a l q)) (hS : SR σ) (hd : 1 ≤ d) : EI g ad d mX1_follow [.ref (ad 58), vi a, vi l, vi i] σ (ia σ 59 (cdB m a l q) - 1) σ := by
  have hm0 := hW.1.1
  have hf := fullM_b hW.1
  have hs := cdB_s hW ha hl hq
  have hv := hs.2.2.2.1.1
  have hr := hS.1 59 (cdB m a l q)
  refine EbS rfl pl_X1 rfl rfl (bX1_follow_0 (iR_of (by omega) (by omega)) (iR_of (by omega) (by omega)) (iR_of (by omega) (by omega)) hS ?_)
  refine EI.k (n_codeBehind (d := d - 1) hW hE hi hq ha hl hS) hd (fun _ _ => ⟨hv, iR_of (by omega) ?_, re_i ⟨rfl, rfl⟩⟩)
  have := hr.2
  omega
theorem mE_b01 {a b : Int} (ha : 0 ≤ a ∧ a ≤ 63) (hb : 0 ≤ b ∧ b ≤ 6) (hS : SR σ) : EI g ad d mX1_mayEnd [vi a, vi b] σ (bi (mE a b = true)) σ := by
  refine EbS rfl pl_X1 rfl rfl (bX1_mayEnd_0 (iR_of (by omega) (by omega)) (iR_of (by omega) (by omega)) hS ⟨fun c => ?_, fun c => ?_⟩)
  · have e : mE a b = bitB a (b - 1) := if_neg c
    have h1 := bit01' ha (j := b - 1) (by omega)
    rw [e]
    exact ⟨fun c2 => re_i ⟨(bi_f (h1.mp c2)).symm, rfl⟩, fun c2 => re_i ⟨(bi_t (by
      rcases Classical.em (bitB a (b - 1) = true) with z | z
      · exact z
      · exact absurd (h1.mpr z) c2)).symm, rfl⟩⟩
  · have e : mE a b = decide (a = 0) := if_pos c
    rw [e]
    exact ⟨fun c2 => re_i ⟨(bi_f (by rw [decide_eq_true_eq]; exact c2)).symm, rfl⟩, fun c2 => re_i ⟨(bi_t (decide_eq_true c2)).symm, rfl⟩⟩
/-- all that can be come to is met -/
def MetP (m : Int → Int) (L : List Op) (a l c : Int) : Prop := ∃ q ∈ L, bAnd a (msk m q.2 q.1) = 0 ∧ cdB m a l q = c
theorem n_meetFrom {a l : Int} (hO : OPT σ m k) (hW : WF m) (ha : 0 ≤ a ∧ a ≤ fullM m) (hl : 0 ≤ l ∧ (l = 40 ∨ l < m 0)) (hS : SR σ) (hd : 1 ≤ d) : Eb g ad d mX1_meetFrom 0 0 [.ref (ad 58), vi a, vi l] σ (Kv fun s => Fr (fun c => c = 59) σ s ∧ sc s = sc σ ∧ ∀ c, (MetP m (ops m) a l c → ia s 59 c = -1) ∧ (¬ MetP m (ops m) a l c → ia s 59 c = ia σ 59 c)) := by
  have hf := fullM_b hW.1
  have hm0 := hW.1.1
  have hlen := ops_len hW.1
  have ia_ : iR a := iR_of (by omega) (by omega)
  have il : iR l := iR_of (by omega) (by omega)
  refine EbS rfl pl_X1 rfl rfl (bX1_meetFrom_0 ia_ il hS ?_)
  intro _ _ _ _
  refine up_loop (P := fun i => ∀ τ : SG, SR τ → Fr (fun c => c = 59) σ τ → sc τ = sc σ → (∀ c, (MetP m ((ops m).take i.toNat) a l c → ia τ 59 c = -1) ∧ (¬ MetP m ((ops m).take i.toNat) a l c → ia τ 59 c = ia σ 59 c)) → aX1_meetFrom_2 g ad d (Kv fun s => Fr (fun c => c = 59) σ s ∧ sc s = sc σ ∧ ∀ c, (MetP m (ops m) a l c → ia s 59 c = -1) ∧ (¬ MetP m (ops m) a l c → ia s 59 c = ia σ 59 c)) 0 0 τ a l i) (hi := ((ops m).length : Int)) 0 (by omega) ?_ ?_ σ hS (Fr.refl σ) rfl (fun c => ⟨(fun z => (by obtain ⟨q, hq, _⟩ := z; rw [show (0 : Int).toNat = 0 from rfl, List.take_zero] at hq; cases hq)), (fun _ => rfl)⟩)
  · intro τ hSt hF hsc hv
    rw [show (((ops m).length : Int)).toNat = (ops m).length by omega, List.take_length] at hv
    exact bX1_meetFrom_2 ia_ il (iR_of (by omega) (by omega)) hSt ⟨fun _ => re_v ⟨hF, hsc, hv⟩, fun z => absurd (by rw [hsc, hO.l.1]; omega) z⟩
  · intro i hi0 hi1 ih τ hSt hF hsc hv
    have hOt : OPT τ m k := hO.fr hF (fun c hc z => by unfold Ocl at z; omega)
    obtain ⟨q, hget, -, hE, hq⟩ := hOt.at hi0 hi1
    have htk : (ops m).take (i + 1).toNat = (ops m).take i.toNat ++ [q] := by
      rw [show (i + 1).toNat = i.toNat + 1 by omega, List.take_succ, hget]
      rfl
    have hM : ∀ c, MetP m ((ops m).take (i + 1).toNat) a l c ↔ MetP m ((ops m).take i.toNat) a l c ∨ (bAnd a (msk m q.2 q.1) = 0 ∧ cdB m a l q = c) := by
      intro c
      unfold MetP
      rw [htk]
      constructor
      · rintro ⟨q', hq', h1⟩
        rcases List.mem_append.mp hq' with z | z
        · exact Or.inl ⟨q', z, h1⟩
        · rw [List.mem_singleton.mp z] at h1
          exact Or.inr h1
      · rintro (⟨q', hq', h1⟩ | h1)
        · exact ⟨q', List.mem_append.mpr (Or.inl hq'), h1⟩
        · exact ⟨q, List.mem_append.mpr (Or.inr (List.mem_singleton.mpr rfl)), h1⟩
    refine bX1_meetFrom_2 ia_ il (iR_of (by omega) (by omega)) hSt ⟨fun z => absurd z (by rw [hsc, hO.l.1]; omega), fun _ => ⟨⟨hi0, by omega⟩, ?_⟩⟩
    rw [hE.cv]
    refine ⟨fun c1 => ⟨iR_of (by omega) (by omega), fun _ _ _ _ => ih τ hSt hF hsc (fun c => ?_)⟩, fun c1 => ?_⟩
    · rw [hM c]
      refine ⟨fun z => (hv c).1 (z.elim id (fun z => absurd z.1 c1)), fun z => (hv c).2 (fun z2 => z (Or.inl z2))⟩
    · refine EI.k (n_codeBehind (d := d - 1) hW hE ⟨hi0, by omega⟩ hq ha hl hSt) hd (fun _ _ => ⟨(cdB_s hW ha hl hq).2.2.2.1.1, iR_of (by omega) (by omega), fun _ _ _ hS3 => ?_⟩)
      refine ih _ hS3 (hF.I rfl) hsc (fun c => ?_)
      rw [hM c, ia_I, if_pos rfl]
      by_cases cc : c = cdB m a l q
      · rw [cc, up_at]
        exact ⟨fun _ => rfl, fun z => absurd (Or.inr ⟨c1, rfl⟩) z⟩
      · rw [up_ne cc]
        exact ⟨fun z => (hv c).1 (z.elim id (fun z => absurd z.2.symm cc)), fun z => (hv c).2 (fun z2 => z (Or.inl z2))⟩
end KNO
