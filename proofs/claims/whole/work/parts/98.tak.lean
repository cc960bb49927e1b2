section TAK
variable {g : AG} {ad : Nat → Nat} {d : Nat} {σ : SG} {m m0 t : Int → Int} {k : Nat}
/-- the ready ones lie -/
def RA (s : SG) (m : Int → Int) (R : List Wy) : Prop := sc s 63 8 = (R.length : Int) ∧ ∀ (i : Nat) (w : Wy), R[i]? = some w → la s 68 i = keyW m w
theorem and48 {a : Int} (ha : 0 ≤ a ∧ a < 9223372036854775808) : lAnd a 281474976710655 = a % 281474976710656 := by
  rw [lAnd_n ha (by omega)]
  have : a.toNat &&& 281474976710655 = a.toNat % 2 ^ 48 := Nat.and_two_pow_sub_one_eq_mod _ 48
  have e : (281474976710655 : Int).toNat = 281474976710655 := rfl
  rw [e, this]
  have e2 : (2 : Nat) ^ 48 = 281474976710656 := by decide
  rw [e2]
  omega
theorem w_take {R : List Wy} {Q : List En} {e : En} (hk : isK k) (hB : WB σ m0 m k) (hW : WF m) (hQ : QA σ σ m (e :: Q)) (hR : RA σ m R) (hws : Ws m R (e :: Q) []) (hS : SR σ) (hd : 4 ≤ d) : Eb g ad d mX9_takeFirst 0 0 [.ref (ad 63)] σ (Kv fun s => ∃ R' Q', QA σ s m Q' ∧ RA s m R' ∧ Ws m R' Q' [] ∧ Fr Wcl σ s ∧ (R'.length = R.length + 1 ∨ (R' = R ∧ ∃ e' Q'', Q' = e' :: Q'' ∧ e'.p.length = e.p.length + 1))) := by
  have hnb := hB.kn.nb
  have hbd := hws.bd
  rw [List.length_cons] at hbd
  have hve := hws.vq e (List.mem_cons_self ..)
  have h0 := hQ.2 0 e rfl
  have h0' : la σ 64 0 = keyE m e ∧ KE σ e (ia σ 65 0) ∧ ia σ 66 0 = e.c ∧ ia σ 67 0 = (e.p.length : Int) := h0
  have hkb := lR_key hW hve
  have ik : lR (keyE m e) := lR_of' hkb
  have hcs := hve.cst
  have hpc := pc6 e.x
  have hln := hve.ln
  have hlen : sc σ 63 6 - 1 = (Q.length : Int) := by
    rw [hQ.1, List.length_cons]
    omega
  refine EbS rfl pl_X9 rfl rfl (bX9_takeFirst_0 hS ?_)
  rw [hlen, h0'.1, h0'.2.2.1, h0'.2.2.2]
  generalize hi : ia σ 65 0 = i at h0'
  have hK := h0'.2.1
  have ii : iR i := iR_of (by have := hK.1; omega) (by have := hK.1; omega)
  have ic : iR e.c := iR_of (by omega) (by omega)
  have ip : iR (e.p.length : Int) := iR_of (by omega) (by omega)
  refine ⟨iR_of (by omega) (by omega), fun _ _ _ _ hS1 => ?_⟩
  have b0 : (0 : Int) ≤ 1 ∧ (0 : Int) ≤ 0 ∧ (0 : Int) ≤ (Q.length : Int) ∧ (1 : Int) + (Q.length : Int) ≤ 30 ∧ (0 : Int) + (Q.length : Int) ≤ 30 := ⟨by omega, by omega, by omega, by omega, by omega⟩
  have q6 : ∀ s : SG, sc s 63 6 = (Q.length : Int) → ((0 : Int) ≤ 1 ∧ (0 : Int) ≤ 0 ∧ (0 : Int) ≤ sc s 63 6 ∧ (1 : Int) + sc s 63 6 ≤ 30 ∧ (0 : Int) + sc s 63 6 ≤ 30) := fun s e6 => by rw [e6]; exact b0
  have e60 : sc (setS σ 63 6 (Q.length : Int)) 63 6 = (Q.length : Int) := by simp (config := {decide := true}) only [sc_S, ia_S, la_S, rv_S, sc_I, rv_I, la_I, ia_I, sc_L, rv_L, ia_L, la_L, sc_A, rv_A, la_A, ia_A, sc_B, rv_B, ia_B, la_B, sc_R, ia_R, la_R, rv_R, ia_w, la_w, rv_w, sc_w, if_true, if_false]
  have key : ∀ s : SG, SR s → sc s 63 6 = (Q.length : Int) → (∀ j, ¬ j = 6 → sc s 63 j = sc σ 63 j) → la s 64 = cpy (la σ 64) (la σ 64) 1 0 Q.length → ia s 65 = cpy (ia σ 65) (ia σ 65) 1 0 Q.length → ia s 66 = cpy (ia σ 66) (ia σ 66) 1 0 Q.length → ia s 67 = cpy (ia σ 67) (ia σ 67) 1 0 Q.length → la s 68 = la σ 68 → Fr Wcl σ s → aX9_takeFirst_108 g ad d (Kv fun s => ∃ R' Q', QA σ s m Q' ∧ RA s m R' ∧ Ws m R' Q' [] ∧ Fr Wcl σ s ∧ (R'.length = R.length + 1 ∨ (R' = R ∧ ∃ e' Q'', Q' = e' :: Q'' ∧ e'.p.length = e.p.length + 1))) 0 0 s (keyE m e) i e.c e.p.length := by
    intro s hSs e6 ej e64 e65 e66 e67 e68 hF
    have hBs := hB.fr hk hF
    have e60' : ia s 60 = ia σ 60 := hF.ia 60 (fun z => by unfold Wcl at z; omega)
    have e5 : kN s = kN σ := hF.sc 58 5 (fun z => by unfold Wcl at z; omega)
    have hQs : QA σ s m Q := by
      refine ⟨e6, fun p y hp => ?_⟩
      have hpl := (List.getElem?_eq_some_iff.mp hp).1
      have h1 := hQ.2 (p + 1) y (by rw [List.getElem?_cons_succ]; exact hp)
      unfold QE at h1 ⊢
      have ec : ∀ f : Int → Int, cpy f f 1 0 Q.length p = f (p + 1 : Nat) := fun f => by
        unfold cpy
        rw [if_pos ⟨by omega, by omega⟩]
        congr 1
        omega
      rw [e64, e65, e66, e67, ec, ec, ec, ec]
      exact h1
    have hvc := (hBs.kn.vd i hK.1.1 (by rw [e5]; exact hK.1.2)).1
    refine bX9_takeFirst_108 ik ii ic ip hSs ?_
    refine EI.k (n_mask (d := d - 1) ⟨hK.1.1, by have := hK.1; omega⟩ hvc.1 hSs) (by omega) (fun _ _ => ?_)
    refine EI.k (o_full (d := d - 1) hBs.op hW hSs) (by omega) (fun _ _ => ?_)
    have ex1 : ia s 60 i / 287 = e.x.1 := by rw [e60', ← hK.2]; rfl
    rw [ex1, ej 8 (by decide), hR.1]
    refine ⟨fun c => ⟨fun c2 => absurd c2 ?_, fun _ => ?_⟩, fun c => ⟨⟨by omega, by omega⟩, ?_⟩⟩
    · have := hws.deep hW c
      obtain ⟨e', Q', _, hw', hl⟩ := this
      have := (hw'.vq e' (List.mem_cons_self ..)).ln
      omega
    · rw [and48 ⟨by omega, by omega⟩]
      have em : keyE m e % 281474976710656 = dgP m 6 e.p := by
        have := hve.kb hW
        unfold keyE
        omega
      rw [em]
      have hstp := hws.step hW c
      refine Cl.vo (w_goOn (d := d - 1) (R := R) (Q := Q) (e := e) (i := i) hk hBs hW (QA.cv e60' e5 hQs) (by rw [ej 8 (by decide)]; exact hR.1) hstp hve c ⟨by rw [e5]; exact hK.1, by rw [e60']; exact hK.2⟩ hSs (by omega)) (by omega) (fun s9 hS9 h9 => re_v ?_)
      obtain ⟨e', Q', hfe, hw', hl⟩ := hws.deep hW c
      rw [hfe] at h9
      refine ⟨R, e' :: Q', QA.cv e60'.symm e5.symm h9.1, ⟨?_, fun j w hj => ?_⟩, hw', hF.trans h9.2.f, Or.inr ⟨rfl, e', Q', rfl, hl⟩⟩
      · rw [h9.2.2 8 (by decide), ej 8 (by decide)]
        exact hR.1
      · rw [h9.2.1.la 68 (by omega), e68]
        exact hR.2 j w hj
    · have e8 : sc (setL s 68 (R.length : Int) (keyE m e)) 63 8 = (R.length : Int) := by
        show sc s 63 8 = _
        rw [ej 8 (by decide)]
        exact hR.1
      rw [e8]
      refine ⟨iR_of (by omega) (by omega), fun _ _ _ _ hS6 => bX9_takeFirst_146 ik ii ic ip hS6 (re_v ?_)⟩
      have hfu := hws.full hW c
      refine ⟨_, Q, ⟨?_, ?_⟩, ⟨?_, fun j w hj => ?_⟩, hfu.1, (hF.L ⟨by omega, by omega⟩).S ⟨by omega, by omega⟩, Or.inl ?_⟩
      · simp (config := {decide := true}) only [sc_S, ia_S, la_S, rv_S, sc_I, rv_I, la_I, ia_I, sc_L, rv_L, ia_L, la_L, sc_A, rv_A, la_A, ia_A, sc_B, rv_B, ia_B, la_B, sc_R, ia_R, la_R, rv_R, ia_w, la_w, rv_w, sc_w, if_true, if_false]
        exact e6
      · intro p y hp
        have := hQs.2 p y hp
        unfold QE at this ⊢
        have a64 : la (setS (setL s 68 (R.length : Int) (keyE m e)) 63 8 ((R.length : Int) + 1)) 64 = la s 64 := by simp (config := {decide := true}) only [sc_S, ia_S, la_S, rv_S, sc_I, rv_I, la_I, ia_I, sc_L, rv_L, ia_L, la_L, sc_A, rv_A, la_A, ia_A, sc_B, rv_B, ia_B, la_B, sc_R, ia_R, la_R, rv_R, ia_w, la_w, rv_w, sc_w, if_true, if_false]
        rw [a64]
        exact this
      · rw [List.length_append, List.length_singleton]
        simp (config := {decide := true}) only [sc_S, ia_S, la_S, rv_S, sc_I, rv_I, la_I, ia_I, sc_L, rv_L, ia_L, la_L, sc_A, rv_A, la_A, ia_A, sc_B, rv_B, ia_B, la_B, sc_R, ia_R, la_R, rv_R, ia_w, la_w, rv_w, sc_w, if_true, if_false]
        omega
      · have a68 : la (setS (setL s 68 (R.length : Int) (keyE m e)) 63 8 ((R.length : Int) + 1)) 68 = up (la s 68) R.length (keyE m e) := by simp (config := {decide := true}) only [sc_S, ia_S, la_S, rv_S, sc_I, rv_I, la_I, ia_I, sc_L, rv_L, ia_L, la_L, sc_A, rv_A, la_A, ia_A, sc_B, rv_B, ia_B, la_B, sc_R, ia_R, la_R, rv_R, ia_w, la_w, rv_w, sc_w, if_true, if_false]
        rw [a68, e68]
        by_cases cj : j < R.length
        · rw [List.getElem?_append_left cj] at hj
          rw [up_ne (by omega)]
          exact hR.2 j w hj
        · rw [List.getElem?_append_right (by omega)] at hj
          have h1 := (List.getElem?_eq_some_iff.mp hj).1
          rw [List.length_singleton] at h1
          have e0 : j - R.length = 0 := by omega
          rw [e0] at hj
          have e1 : (e.c + aft m e.x.2.2 (-1), e.p) = w := by simpa using hj
          have e2 : j = R.length := by omega
          rw [← e1, e2, up_at]
          exact hfu.2.symm
      · rw [List.length_append, List.length_singleton]
  refine bX9_takeFirst_40 ik ii ic ip hS1 ⟨q6 _ e60, by omega, fun _ _ _ _ hS2 => ?_⟩
  refine bX9_takeFirst_57 ik ii ic ip hS2 ⟨q6 _ e60, by omega, fun _ _ _ _ hS3 => ?_⟩
  refine bX9_takeFirst_74 ik ii ic ip hS3 ⟨q6 _ e60, by omega, fun _ _ _ _ hS4 => ?_⟩
  refine bX9_takeFirst_91 ik ii ic ip hS4 ⟨q6 _ e60, by omega, fun _ _ _ _ hS5 => ?_⟩
  refine key _ hS5 e60 (fun j hj => ?_) ?_ ?_ ?_ ?_ ?_ (((((Fr.refl σ).S ⟨by omega, by omega⟩).B ⟨by omega, by omega⟩).A ⟨by omega, by omega⟩).A ⟨by omega, by omega⟩ |>.A ⟨by omega, by omega⟩)
  · show sc (setS σ 63 6 (Q.length : Int)) 63 j = _
    rw [sc_S, if_neg (fun z => hj z.2)]
  · simp (config := {decide := true}) only [sc_S, ia_S, la_S, rv_S, sc_I, rv_I, la_I, ia_I, sc_L, rv_L, ia_L, la_L, sc_A, rv_A, la_A, ia_A, sc_B, rv_B, ia_B, la_B, sc_R, ia_R, la_R, rv_R, ia_w, la_w, rv_w, sc_w, if_true, if_false]
  · simp (config := {decide := true}) only [sc_S, ia_S, la_S, rv_S, sc_I, rv_I, la_I, ia_I, sc_L, rv_L, ia_L, la_L, sc_A, rv_A, la_A, ia_A, sc_B, rv_B, ia_B, la_B, sc_R, ia_R, la_R, rv_R, ia_w, la_w, rv_w, sc_w, if_true, if_false]
  · simp (config := {decide := true}) only [sc_S, ia_S, la_S, rv_S, sc_I, rv_I, la_I, ia_I, sc_L, rv_L, ia_L, la_L, sc_A, rv_A, la_A, ia_A, sc_B, rv_B, ia_B, la_B, sc_R, ia_R, la_R, rv_R, ia_w, la_w, rv_w, sc_w, if_true, if_false]
  · simp (config := {decide := true}) only [sc_S, ia_S, la_S, rv_S, sc_I, rv_I, la_I, ia_I, sc_L, rv_L, ia_L, la_L, sc_A, rv_A, la_A, ia_A, sc_B, rv_B, ia_B, la_B, sc_R, ia_R, la_R, rv_R, ia_w, la_w, rv_w, sc_w, if_true, if_false]
  · simp (config := {decide := true}) only [sc_S, ia_S, la_S, rv_S, sc_I, rv_I, la_I, ia_I, sc_L, rv_L, ia_L, la_L, sc_A, rv_A, la_A, ia_A, sc_B, rv_B, ia_B, la_B, sc_R, ia_R, la_R, rv_R, ia_w, la_w, rv_w, sc_w, if_true, if_false]
/-- the ways that are known so far -/
def WAY (s : SG) (m : Int → Int) : Prop := ∃ R Q, QA s s m Q ∧ RA s m R ∧ Ws m R Q []
theorem w_bring {x : Int} (hk : isK k) (hB : WB σ m0 m k) (hW : WF m) (hw : WAY σ m) (hx : 0 ≤ x ∧ x ≤ 29) (hS : SR σ) (hd : 5 ≤ d) : Eb g ad d mX9_bring 0 0 [.ref (ad 63), vi x] σ (Kv fun s => ∃ R Q, QA s s m Q ∧ RA s m R ∧ Ws m R Q [] ∧ (x < R.length ∨ Q = []) ∧ Fr Wcl σ s) := by
  have ix_ : iR x := iR_of (by omega) (by omega)
  refine EbS rfl pl_X9 rfl rfl (bX9_bring_0 ix_ hS ?_)
  intro _ _ hS0
  have key : ∀ (n : Nat) (τ : SG) (R : List Wy) (Q : List En), n ≤ 210 → SR τ → Fr Wcl σ τ → QA τ τ m Q → RA τ m R → Ws m R Q [] → (Q = [] ∨ x < R.length ∨ ∃ e Q', Q = e :: Q' ∧ 7 * (x + 1 - R.length) ≤ n + e.p.length) → aX9_bring_4 g ad d (Kv fun s => ∃ R Q, QA s s m Q ∧ RA s m R ∧ Ws m R Q [] ∧ (x < R.length ∨ Q = []) ∧ Fr Wcl σ s) 0 0 τ x n := by
    intro n
    induction n with
    | zero =>
      intro τ R Q _ hSt hF hQ hR hws hm
      refine bX9_bring_4 ix_ (iR_lit rfl) hSt ⟨fun _ => re_v ⟨R, Q, hQ, hR, hws, ?_, hF⟩, fun z => absurd (Int.le_refl _) z⟩
      rcases hm with z | z | ⟨e, Q', rfl, z⟩
      · exact Or.inr z
      · exact Or.inl z
      · have := (hws.vq e (List.mem_cons_self ..)).ln
        exact Or.inl (by omega)
    | succ n ih =>
      intro τ R Q hn hSt hF hQ hR hws hm
      refine bX9_bring_4 ix_ (iR_of (by omega) (by omega)) hSt ⟨fun z => absurd z (by omega), fun _ => ?_⟩
      rw [hR.1, hQ.1]
      refine ⟨fun c => re_v ⟨R, Q, hQ, hR, hws, Or.inl c, hF⟩, fun c => ⟨fun c2 => re_v ⟨R, Q, hQ, hR, hws, Or.inr (List.eq_nil_of_length_eq_zero (by omega)), hF⟩, fun c2 => ?_⟩⟩
      cases Q with
      | nil => exact absurd (by show ((0 : Nat) : Int) ≤ 0; omega) c2
      | cons e Q =>
        have hBt := hB.fr hk hF
        have hm' : 7 * (x + 1 - R.length) ≤ ((n + 1 : Nat) : Int) + e.p.length := by
          rcases hm with z | z | ⟨e', Q', z, z2⟩
          · cases z
          · exact absurd z c
          · injection z with z3 z4
            rw [z3]
            exact z2
        have hle := (hws.vq e (List.mem_cons_self ..)).ln
        refine Cl.vo (w_take (d := d - 1) hk hBt hW hQ hR hws hSt (by omega)) (by omega) (fun s9 hS9 h9 => ?_)
        obtain ⟨R', Q', hQ', hR', hws', hF', hpr⟩ := h9
        have e60 : ia s9 60 = ia τ 60 := hF'.ia 60 (fun z => by unfold Wcl at z; omega)
        have e5 : kN s9 = kN τ := hF'.sc 58 5 (fun z => by unfold Wcl at z; omega)
        have en : ((n + 1 : Nat) : Int) + (-1) = n := by omega
        rw [en]
        refine ⟨iR_of (by omega) (by omega), fun _ _ hS' => ih s9 R' Q' (by omega) hS' (hF.trans hF') (QA.cv e60 e5 hQ') hR' hws' ?_⟩
        rcases hpr with z | ⟨rfl, e', Q'', rfl, z⟩
        · cases Q' with
          | nil => exact Or.inl rfl
          | cons e' Q'' => exact Or.inr (Or.inr ⟨e', Q'', rfl, by omega⟩)
        · exact Or.inr (Or.inr ⟨e', Q'', rfl, by omega⟩)
  obtain ⟨R, Q, hQ, hR, hws⟩ := hw
  refine key 210 σ R Q (Nat.le_refl _) hS0 (Fr.refl σ) hQ hR hws ?_
  cases Q with
  | nil => exact Or.inl rfl
  | cons e Q => exact Or.inr (Or.inr ⟨e, Q, rfl, by omega⟩)
theorem Ws.way (hW : WF m) {R : List Wy} {Q : List En} {x : Int} (h : Ws m R Q []) (hx : 0 ≤ x ∧ x ≤ 29) (hq : x < R.length ∨ Q = []) : (∀ w, R[x.toNat]? = some w → wayK m x = some w) ∧ (¬ x < R.length → wayK m x = none) := by
  refine ⟨fun w hw => ?_, fun c => ?_⟩
  · have := h.rd _ w hw
    exact way_rk hW this.1 (by omega)
  · rcases hq with z | z
    · exact absurd z c
    · subst z
      cases hk : wayK m x with
      | none => rfl
      | some w =>
        exfalso
        have h1 := rk_way hW hk
        rcases h.al w h1.1 (by omega) with z | ⟨_, hf, _⟩ | ⟨_, hf, _⟩
        · have := (h.rd.mem z).2
          omega
        · cases hf
        · cases hf
end TAK
