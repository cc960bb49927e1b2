section DRP
variable {g : AG} {ad : Nat → Nat} {d : Nat} {Q : AO → SG → Prop} {rc rs : Nat} {σ : SG} {m m1 k tp : Int → Int} {h tn f x4 : Int}
theorem tailD {cont bad : SG → Prop} {r v : Int} (h0 : sc σ 102 0 = r) (h1 : r = 0 → la σ 131 0 = v) (hv : v = 0 ∨ v = 1) (hS : SR σ) (hd : 1 ≤ d) (hc : cont σ) : Cl g ad d mX11_thrown 0 0 [.ref (ad 102)] σ (Ki fun r3 s3 => ((r3 = r → ((¬ r = 0 → cont s3) ∧ (r = 0 → ((v = 0 → (((lCmp (la s3 131 0) 0) = 0 → cont s3) ∧ (¬ (lCmp (la s3 131 0) 0) = 0 → bad s3))) ∧ (¬ v = 0 → (((lCmp (la s3 131 0) 1) = 0 → cont s3) ∧ (¬ (lCmp (la s3 131 0) 1) = 0 → bad s3))))))) ∧ (¬ r3 = r → bad s3))) := by
  refine EI.k (e_thrown (d := d - 1) hS) (by omega) (fun _ _ => ?_)
  rw [h0]
  have hl := SR_la hS 131 0
  refine ⟨fun _ => ⟨fun _ => hc, fun z => ⟨fun c => ⟨fun _ => hc, fun y => absurd ?_ y⟩, fun c => ⟨fun _ => hc, fun y => absurd ?_ y⟩⟩⟩, fun y => absurd rfl y⟩
  · rw [h1 z, c] at hl ⊢
    exact lCmp_self hl
  · have e1 : v = 1 := by omega
    rw [h1 z, e1] at hl ⊢
    exact lCmp_self hl
theorem wmd {M : AM} {mc ms d' : Nat} {as : List Value} {v t : Int} {a b : String} (hv : v = 0 ∨ v = 1) (hE : Eb g ad d' M mc ms as σ (XM σ m (if t = 0 then m1 else m) k h v t (X2 a b))) (hd : d' + 1 ≤ d) (hJ : LJ σ m k h tp tn f) : Cl g ad d M mc ms as σ (Kx (Ki fun r1 s1 => ((r1 = 0 → (iR 0 → SR (setL s1 131 0 0) → WP t v (fun s => LKm s m (if t = 0 then m1 else m) k h tp tn f) (.inl (some (vi 0))) (setL s1 131 0 0))) ∧ (¬ r1 = 0 → (iR 0 → SR (setL s1 131 0 1) → WP t v (fun s => LKm s m (if t = 0 then m1 else m) k h tp tn f) (.inl (some (vi 0))) (setL s1 131 0 1))))) (fun E s1 => (E = a ∧ (iR 1 → SR s1 → WP t v (fun s => LKm s m (if t = 0 then m1 else m) k h tp tn f) (.inl (some (vi 1))) s1)) ∨ (E = b ∧ (iR 2 → SR s1 → WP t v (fun s => LKm s m (if t = 0 then m1 else m) k h tp tn f) (.inl (some (vi 2))) s1)))) := by
  refine ⟨d', hd, Eb.mono hE ?_⟩
  rintro o s (⟨r, e, h1, h2, ht, hr, hc, hcf, htf⟩ | ⟨E, e, h2, ht, hx, hc, hcf, htf⟩)
  · exact Or.inl ⟨r, e, h1, h2, fun c => wp0 ht (by omega) ⟨(hJ.ps.cf hcf).L, hc.L, (hJ.tp_.tf htf).L, hJ.tb, hJ.te, hJ.zk⟩, fun c => wp0 ht (by omega) ⟨(hJ.ps.cf hcf).L, hc.L, (hJ.tp_.tf htf).L, hJ.tb, hJ.te, hJ.zk⟩⟩
  · refine Or.inr ⟨E, e, h2, ?_⟩
    have hK : LKm s m (if t = 0 then m1 else m) k h tp tn f := ⟨hJ.ps.cf hcf, by rw [if_neg ht]; exact hc, hJ.tp_.tf htf, hJ.tb, hJ.te, hJ.zk⟩
    rcases hx with hx | hx
    · exact Or.inl ⟨hx.1, wpx hx.2.symm (by decide) hK⟩
    · exact Or.inr ⟨hx.1, wpx hx.2.symm (by decide) hK⟩
theorem cs_987 (hL : ag_L g ≤ 3072) (hJ : LJ σ m k h tp tn f) (hS : SR σ) (h4 : iR x4) (hb : 0 ≤ x4 ∧ x4 + 6 ≤ (ag_L g : Int)) (hd : 60 ≤ d) (hc : ∀ s, SR s → LE s → aL_law_2061 g ad d Q rc rs s x4) : Wb g ad d mL_law Q 987 [some (.ref (ag_b g)), some (.ref (ad 0)), some (.ref (ad 102)), some (.ref (ad 131)), some (vi x4), none, none] [] σ (rc + 2) (rs + 12) := by
  have hW := hJ.ci.gm.wf
  have i1 := sx_R (g := g) (x4 + 1)
  have key : ∀ b, (b = 0 ∨ b = 1) → Cl g ad d mL_drop 2 12 [.ref (ad 0), vi (sx g (x4 + 1)), vi b, .ref (ad 131)] σ (Kx (Ki fun r1 s1 => Cl g ad d mX11_drop 0 0 [.ref (ad 102), vi (sx g (x4 + 1)), vi b] s1 (Ki fun r2 s2 => Cl g ad d mX11_thrown 0 0 [.ref (ad 102)] s2 (Ki fun r3 s3 => ((r3 = r1 → ((¬ r1 = 0 → (iR x4 → SR s3 → aL_law_2061 g ad d Q rc rs s3 x4)) ∧ (r1 = 0 → ((r2 = 0 → (((lCmp (la s3 131 0) 0) = 0 → (iR x4 → SR s3 → aL_law_2061 g ad d Q rc rs s3 x4)) ∧ (¬ (lCmp (la s3 131 0) 0) = 0 → (iR 0 → SR s3 → Q (.inl (some (vi 0))) s3)))) ∧ (¬ r2 = 0 → (((lCmp (la s3 131 0) 1) = 0 → (iR x4 → SR s3 → aL_law_2061 g ad d Q rc rs s3 x4)) ∧ (¬ (lCmp (la s3 131 0) 1) = 0 → (iR 0 → SR s3 → Q (.inl (some (vi 0))) s3)))))))) ∧ (¬ r3 = r1 → (iR 0 → SR s3 → Q (.inl (some (vi 0))) s3)))))) (fun _ _ => False)) := fun b hb2 => by
    have ib : iR b := by rcases hb2 with z | z <;> rw [z] <;> exact iR_lit rfl
    have hv : (if dropT m (sx g (x4 + 1)) b = 0 then bi (¬ of_ m (sx g (x4 + 1)) 9 = b) else 0) = 0 ∨ (if dropT m (sx g (x4 + 1)) b = 0 then bi (¬ of_ m (sx g (x4 + 1)) 9 = b) else 0) = 1 := by
      by_cases c : dropT m (sx g (x4 + 1)) b = 0
      · rw [if_pos c]
        exact bi_01
      · rw [if_neg c]
        exact Or.inl rfl
    have hw := EbH (g := g) (ad := ad) (d := d - 1) (M := mL_drop) (as := [.ref (ad 0), vi (sx g (x4 + 1)), vi b, .ref (ad 131)]) (List.cons_ne_nil _ _) pl_L rfl rfl (bL_drop_0 (rc := 0) (rs := 0) i1 ib hS (wmd hv (m_drop (d := d - 2) hJ.ci i1 hb2 hS (by omega)) (by omega) hJ))
    refine ⟨d - 1, by omega, Eb.mono hw ?_⟩
    rintro o s (⟨r, e, a1, a2, hr, hla, b1, b2, b3, b4, b5, b6⟩ | ⟨E, _, _, z⟩)
    · refine Or.inl ⟨r, e, a1, a2, ?_⟩
      refine Cl.i (e_drop (d := d - 1) b1 hW a2 i1 hb2 (by omega)) (by omega) (fun v u _ hSu c => ?_)
      refine tailD (by rw [hr]; exact c.2.1) (fun z => ?_) (by rw [c.1]; exact hv) hSu (by omega) (fun _ _ => hc u hSu ⟨_, _, _, _, _, _, c.2.2.2, b2.fc c.2.2.1, b3.fc c.2.2.1, b4, b5, b6⟩)
      rw [c.1, c.2.2.1.2.1 131 (by omega)]
      exact hla (hr.symm.trans z)
    · exact absurd z id
  have two : ∀ b, (b = 0 ∨ b = 1) → (b = 0 ↔ sx g (x4 + 2) = 0) → ∀ {P0 P1 : Int → SG → Prop}, (b = 0 → ∀ r s, Cl g ad d mX11_drop 0 0 [.ref (ad 102), vi (sx g (x4 + 1)), vi b] s (Ki fun r2 s2 => Cl g ad d mX11_thrown 0 0 [.ref (ad 102)] s2 (Ki fun r3 s3 => ((r3 = r → ((¬ r = 0 → (iR x4 → SR s3 → aL_law_2061 g ad d Q rc rs s3 x4)) ∧ (r = 0 → ((r2 = 0 → (((lCmp (la s3 131 0) 0) = 0 → (iR x4 → SR s3 → aL_law_2061 g ad d Q rc rs s3 x4)) ∧ (¬ (lCmp (la s3 131 0) 0) = 0 → (iR 0 → SR s3 → Q (.inl (some (vi 0))) s3)))) ∧ (¬ r2 = 0 → (((lCmp (la s3 131 0) 1) = 0 → (iR x4 → SR s3 → aL_law_2061 g ad d Q rc rs s3 x4)) ∧ (¬ (lCmp (la s3 131 0) 1) = 0 → (iR 0 → SR s3 → Q (.inl (some (vi 0))) s3)))))))) ∧ (¬ r3 = r → (iR 0 → SR s3 → Q (.inl (some (vi 0))) s3))))) → P0 r s) → (b = 1 → ∀ r s, Cl g ad d mX11_drop 0 0 [.ref (ad 102), vi (sx g (x4 + 1)), vi b] s (Ki fun r2 s2 => Cl g ad d mX11_thrown 0 0 [.ref (ad 102)] s2 (Ki fun r3 s3 => ((r3 = r → ((¬ r = 0 → (iR x4 → SR s3 → aL_law_2061 g ad d Q rc rs s3 x4)) ∧ (r = 0 → ((r2 = 0 → (((lCmp (la s3 131 0) 0) = 0 → (iR x4 → SR s3 → aL_law_2061 g ad d Q rc rs s3 x4)) ∧ (¬ (lCmp (la s3 131 0) 0) = 0 → (iR 0 → SR s3 → Q (.inl (some (vi 0))) s3)))) ∧ (¬ r2 = 0 → (((lCmp (la s3 131 0) 1) = 0 → (iR x4 → SR s3 → aL_law_2061 g ad d Q rc rs s3 x4)) ∧ (¬ (lCmp (la s3 131 0) 1) = 0 → (iR 0 → SR s3 → Q (.inl (some (vi 0))) s3)))))))) ∧ (¬ r3 = r → (iR 0 → SR s3 → Q (.inl (some (vi 0))) s3))))) → P1 r s) → Cl g ad d mL_drop 2 12 [.ref (ad 0), vi (sx g (x4 + 1)), vi b, .ref (ad 131)] σ (Kx (Ki fun r s => (sx g (x4 + 2) = 0 → P0 r s) ∧ (¬ sx g (x4 + 2) = 0 → P1 r s)) (fun E s3 => SR s3 → Q (.inr E) s3)) := fun b hb2 hbz P0 P1 h0 h1 => by
    obtain ⟨d1, hd1, hE⟩ := key b hb2
    refine ⟨d1, hd1, Eb.mono hE ?_⟩
    rintro o s (⟨r, e, a1, a2, a3⟩ | ⟨E, e, a2, a3⟩)
    · exact Or.inl ⟨r, e, a1, a2, fun c => h0 (hbz.mpr c) r s a3, fun c => h1 (hb2.elim (fun z => absurd (hbz.mp z) c) id) r s a3⟩
    · exact absurd a3 id
  refine bL_law_987 hL h4 hS ⟨⟨by omega, by omega⟩, ⟨by omega, by omega⟩, fun c => ?_, fun c => ?_⟩
  · exact two 0 (Or.inl rfl) ⟨fun _ => c, fun _ => rfl⟩ (fun _ r s z => z) (fun z => absurd z (by decide))
  · exact two 1 (Or.inr rfl) ⟨fun z => absurd z (by decide), fun z => absurd z c⟩ (fun z => absurd z (by decide)) (fun _ r s z => z)
end DRP
