section IW
variable {g : AG} {ad : Nat → Nat} {d : Nat} {σ : SG} {m : Int → Int}
theorem wy_mem (hW : WF m) : ∀ (n : Nat) (x : Nd), nd m x → mu x ≤ n → ∀ w ∈ wy m x, w.2.length ≤ mu x ∧ ∀ q ∈ w.2, q ∈ sr m 0 := by
  intro n
  induction n with
  | zero =>
    intro x hx hn w hw
    rw [wy_eq hW hx] at hw
    unfold wyG at hw
    by_cases c : x.1 = fullM m
    · rw [if_pos c] at hw
      rw [List.mem_singleton.mp hw]
      exact ⟨Nat.zero_le _, fun q hq => by cases hq⟩
    · rw [if_neg c] at hw
      obtain ⟨p, hp, hw⟩ := List.mem_flatMap.mp hw
      by_cases c2 : myB m x p = true
      · have hs := stp_nd hW hx hp c2
        omega
      · rw [if_neg c2] at hw
        cases hw
  | succ n ih =>
    intro x hx hn w hw
    rw [wy_eq hW hx] at hw
    unfold wyG at hw
    by_cases c : x.1 = fullM m
    · rw [if_pos c] at hw
      rw [List.mem_singleton.mp hw]
      exact ⟨Nat.zero_le _, fun q hq => by cases hq⟩
    · rw [if_neg c] at hw
      obtain ⟨p, hp, hw⟩ := List.mem_flatMap.mp hw
      by_cases c2 : myB m x p = true
      · rw [if_pos c2] at hw
        obtain ⟨w', hw', rfl⟩ := List.mem_map.mp hw
        have hs := stp_nd hW hx hp c2
        have h := ih _ hs.1 (by omega) w' hw'
        refine ⟨?_, fun q hq => ?_⟩
        · show w'.2.length + 1 ≤ _
          omega
        · rcases List.mem_cons.mp hq with rfl | hq
          · exact hp
          · exact h.2 q hq
      · rw [if_neg c2] at hw
        cases hw
/-- an array holds a row, from a place on -/
def hl (f : Int → Int) (b : Int) (l : List Int) : Prop := ∀ (i : Nat) (v : Int), l[i]? = some v → f (b + i) = v
theorem hl_nil {f : Int → Int} {b : Int} : hl f b [] := fun i v h => by cases h
theorem hl_snoc {f : Int → Int} {b : Int} {l : List Int} {v : Int} (h : hl f b l) : hl (up f (b + l.length) v) b (l ++ [v]) := by
  intro i u hu
  by_cases c : i < l.length
  · rw [List.getElem?_append_left c] at hu
    rw [up_ne (by omega)]
    exact h i u hu
  · rw [List.getElem?_append_right (by omega)] at hu
    have hi : i - l.length < 1 := (List.getElem?_eq_some_iff.mp hu).1
    have e : i = l.length := by omega
    subst e
    rw [Nat.sub_self] at hu
    rw [up_at]
    exact Option.some.inj hu
/-- the target of a step -/
def tgl (m : Int → Int) (q : Op) : List Int := (ir 0 (tgN m q.2)).map (fun k => tgt m q.2 q.1 k)
def txt (m : Int → Int) (p : List Op) : List Int := p.flatMap (tgl m)
theorem tgl_len (hW : WF m) {q : Op} (hq : isO m q.2) : ((tgl m q).length : Int) = tgN m q.2 ∧ tgN m q.2 ≤ 3 := by
  have h := tgN_b hW.2.1 hq
  unfold tgl
  rw [List.length_map, ir_length]
  omega
theorem txt_len (hW : WF m) : ∀ (p : List Op), (∀ q ∈ p, isO m q.2) → (txt m p).length ≤ 3 * p.length
  | [], _ => Nat.le_refl _
  | q :: p, h => by
    have h1 := tgl_len hW (h q (List.mem_cons_self ..))
    have h2 := txt_len hW p (fun r hr => h r (List.mem_cons_of_mem _ hr))
    show (tgl m q ++ txt m p).length ≤ 3 * (p.length + 1)
    rw [List.length_append]
    omega
theorem txt_take {p : List Op} {i : Nat} {q : Op} (h : p[i]? = some q) : txt m (p.take (i + 1)) = txt m (p.take i) ++ tgl m q := by
  have hi := (List.getElem?_eq_some_iff.mp h).1
  have e : p.take (i + 1) = p.take i ++ [q] := by
    rw [List.take_add_one, h]
    rfl
  rw [e]
  unfold txt
  rw [List.flatMap_append]
  simp
theorem e_spells {p : List Op} (em : ia σ 103 = m) (hW : WF m) (hS : SR σ) (hd : 2 ≤ d) (hp6 : p.length ≤ 6) (hp : ∀ q ∈ p, q ∈ sr m 0) (hst : sc σ 102 26 = p.length) (har : ∀ (i : Nat) (q : Op), p[i]? = some q → ia σ 114 i = q.1 ∧ ia σ 115 i = q.2) :
    Eb g ad d mX11_spells 0 0 [.ref (ad 102)] σ (Kv fun s => sc s 102 32 = (txt m p).length ∧ hl (ia s 116) 0 (txt m p) ∧ Fm [116] [32] σ s) := by
  have hW0 := hW.1
  have h3 := hW.1.2.2.2.1
  have hO : ∀ q ∈ p, isO m q.2 := fun q hq => (mem_sr.mp (hp q hq)).2
  have hl18 := txt_len hW p hO
  refine EbS rfl pl_X11 rfl rfl (bX11_spells_0 hS ?_)
  intro _ hS0
  refine up_loop (P := fun n => ∀ τ, SR τ → Fm [116] [32] σ τ → sc τ 102 32 = (txt m (p.take n.toNat)).length → hl (ia τ 116) 0 (txt m (p.take n.toNat)) → aX11_spells_7 g ad d (Kv fun s => sc s 102 32 = (txt m p).length ∧ hl (ia s 116) 0 (txt m p) ∧ Fm [116] [32] σ s) 0 0 τ n) (hi := (p.length : Int)) 0 (by omega) ?_ ?_ _ hS0 (Fm.setS (Fm.refl σ) (by decide)) (by simp (config := {decide := true}) only [sc_S, ia_S, la_S, rv_S, sc_I, rv_I, la_I, ia_I, sc_L, rv_L, ia_L, la_L, sc_A, rv_A, la_A, ia_A, sc_B, rv_B, ia_B, la_B, sc_R, ia_R, la_R, rv_R, ia_w, la_w, rv_w, sc_w, if_true, if_false]; rfl) (by intro i v h; cases h)
  · intro τ hSt hF h1 h2
    have e26 : sc τ 102 26 = (p.length : Int) := (hF.s 26 rfl).trans hst
    rw [show ((p.length : Int)).toNat = p.length by omega, List.take_length] at h1 h2
    exact bX11_spells_7 (iR_of (by omega) (by omega)) hSt ⟨fun _ => re_v ⟨h1, h2, hF⟩, fun q => absurd (by omega) q⟩
  · intro n hn0 hn1 ih τ hSt hF h1 h2
    have e26 : sc τ 102 26 = (p.length : Int) := (hF.s 26 rfl).trans hst
    have in_ : iR n := iR_of (by omega) (by omega)
    have hlt : n.toNat < p.length := by omega
    obtain ⟨q, hq⟩ : ∃ q, p[n.toNat]? = some q := ⟨_, List.getElem?_eq_getElem hlt⟩
    have hqm : q ∈ p := List.mem_of_getElem? hq
    have hqs := mem_sr.mp (hp q hqm)
    have hqO := hqs.2
    have hob := isO_b hW0 hqO
    have htb := tgN_b hW.2.1 hqO
    have hqa := har _ q hq
    rw [show ((n.toNat : Nat) : Int) = n by omega] at hqa
    have htk : txt m (p.take (n + 1).toNat) = txt m (p.take n.toNat) ++ tgl m q := by
      rw [show (n + 1).toNat = n.toNat + 1 by omega]
      exact txt_take hq
    have hln : (txt m (p.take n.toNat)).length ≤ 3 * n.toNat := by
      have := txt_len hW (p.take n.toNat) (fun r hr => hO r (List.mem_of_mem_take hr))
      rw [List.length_take] at this
      omega
    refine bX11_spells_7 in_ hSt ⟨fun q => absurd q (by omega), fun _ => ?_⟩
    intros
    refine up_loop (P := fun k => ∀ τ, SR τ → Fm [116] [32] σ τ → sc τ 102 32 = ((txt m (p.take n.toNat) ++ (ir 0 k).map (fun k => tgt m q.2 q.1 k)).length : Int) → hl (ia τ 116) 0 (txt m (p.take n.toNat) ++ (ir 0 k).map (fun k => tgt m q.2 q.1 k)) → aX11_spells_17 g ad d (Kv fun s => sc s 102 32 = (txt m p).length ∧ hl (ia s 116) 0 (txt m p) ∧ Fm [116] [32] σ s) 0 0 τ n k) (hi := tgN m q.2) 0 htb.1 ?_ ?_ τ hSt hF (by rw [ir_nil (Int.le_refl _)]; simpa using h1) (by rw [ir_nil (Int.le_refl _)]; simpa using h2)
    · intro τ hSt hF h1 h2
      have et : ia τ 103 = m := (hF.a 103 rfl).trans em
      have e5 : ia τ 115 n = q.2 := by rw [hF.a 115 rfl]; exact hqa.2
      refine bX11_spells_17 in_ (iR_of (by omega) (by omega)) hSt ⟨⟨hn0, by omega⟩, ?_⟩
      rw [e5]
      refine EI.k (by apply w_targetMany <;> (first | with_reducible assumption | with_reducible exact iR_of (by omega) (by omega) | omega | with_reducible (exact bi_01) | assumption)) (by omega) (fun _ _ => ?_)
      refine ⟨fun _ => ⟨iR_of (by omega) (by omega), fun _ _ => ?_⟩, fun q => absurd (Int.le_refl _) q⟩
      refine ih τ hSt hF ?_ ?_
      · rw [htk]; exact h1
      · rw [htk]; exact h2
    · intro k hk0 hk1 ihk τ hSt hF h1 h2
      have et : ia τ 103 = m := (hF.a 103 rfl).trans em
      have e5 : ia τ 115 n = q.2 := by rw [hF.a 115 rfl]; exact hqa.2
      have e4 : ia τ 114 n = q.1 := by rw [hF.a 114 rfl]; exact hqa.1
      refine bX11_spells_17 in_ (iR_of (by omega) (by omega)) hSt ⟨⟨hn0, by omega⟩, ?_⟩
      rw [e5]
      refine EI.k (by apply w_targetMany <;> (first | with_reducible assumption | with_reducible exact iR_of (by omega) (by omega) | omega | with_reducible (exact bi_01) | assumption)) (by omega) (fun _ _ => ?_)
      refine ⟨fun q => absurd q (by omega), fun _ => ?_⟩
      rw [e5, e4]
      have hlen : ((txt m (p.take n.toNat) ++ (ir 0 k).map (fun k => tgt m q.2 q.1 k)).length : Int) = (txt m (p.take n.toNat)).length + k := by
        rw [List.length_append, List.length_map, ir_length]
        omega
      have hs6 := hqs.1
      refine EI.k (by apply w_targetOf <;> (first | with_reducible assumption | with_reducible exact iR_of (by omega) (by omega) | omega | with_reducible (exact bi_01) | assumption)) (by omega) (fun _ _ => ?_)
      refine ⟨⟨by omega, by omega⟩, by simp (config := {decide := true}) only [sc_S, ia_S, la_S, rv_S, sc_I, rv_I, la_I, ia_I, sc_L, rv_L, ia_L, la_L, sc_A, rv_A, la_A, ia_A, sc_B, rv_B, ia_B, la_B, sc_R, ia_R, la_R, rv_R, ia_w, la_w, rv_w, sc_w, if_true, if_false]; exact iR_of (by omega) (by omega), iR_of (by omega) (by omega), fun _ _ hS' => ?_⟩
      refine ihk _ hS' (Fm.setS (Fm.setI hF (by decide)) (by decide)) ?_ ?_
      · simp (config := {decide := true}) only [sc_S, ia_S, la_S, rv_S, sc_I, rv_I, la_I, ia_I, sc_L, rv_L, ia_L, la_L, sc_A, rv_A, la_A, ia_A, sc_B, rv_B, ia_B, la_B, sc_R, ia_R, la_R, rv_R, ia_w, la_w, rv_w, sc_w, if_true, if_false]
        rw [ir_snoc hk0, List.map_append, ← List.append_assoc, List.length_append, h1]
        rfl
      · simp (config := {decide := true}) only [sc_S, ia_S, la_S, rv_S, sc_I, rv_I, la_I, ia_I, sc_L, rv_L, ia_L, la_L, sc_A, rv_A, la_A, ia_A, sc_B, rv_B, ia_B, la_B, sc_R, ia_R, la_R, rv_R, ia_w, la_w, rv_w, sc_w, if_true, if_false]
        rw [ir_snoc hk0, List.map_append, ← List.append_assoc]
        have := hl_snoc (v := tgt m q.2 q.1 k) h2
        rw [Int.zero_add, ← h1] at this
        exact this
/-- of the k-th way: whether it is there, and what is then known of it -/
def IsW (m : Int → Int) (k : Nat) (r : Int) (s : SG) : Prop :=
  (∃ w, KW (wy m (0, 0, -1)) k w ∧ r = 1 ∧ sc s 102 26 = w.2.length ∧ sc s 102 27 = w.1 ∧ (∀ (i : Nat) (q : Op), w.2[i]? = some q → ia s 114 i = q.1 ∧ ia s 115 i = q.2) ∧ sc s 102 32 = (txt m w.2).length ∧ hl (ia s 116) 0 (txt m w.2)) ∨ (r = 0 ∧ (wy m (0, 0, -1)).length ≤ k)
theorem nd0 (hW : WF m) : nd m (0, 0, -1) := by
  have h := hW.1.1
  exact ⟨⟨by decide, by decide⟩, ⟨by decide, by decide⟩, Int.le_refl _, by show -1 < m 0; omega⟩
theorem wyc0 {x : Nd} : wyc m 0 x = wy m x := by
  unfold wyc
  have : (fun w : Wy => ((0 : Int) + w.1, w.2)) = id := by
    funext w
    rw [Int.zero_add]
    rfl
  rw [this, List.map_id]
theorem cLt_bey {L : List Wy} {b : Int} (hb : 0 ≤ b) (a : Int) (ha : ∀ w ∈ L, w.1 < a) : b < a → b < bey b a L ∧ cLt (bey b a L) L = cLt b L + (cEq b L).length ∧ (bey b a L = a ∨ ∃ w ∈ L, w.1 = bey b a L) := by
  intro hba
  have h1 : ∀ (L : List Wy) (a : Int), b < a → b < bey b a L ∧ bey b a L ≤ a ∧ (∀ w ∈ L, b < w.1 → bey b a L ≤ w.1) ∧ (bey b a L = a ∨ ∃ w ∈ L, w.1 = bey b a L) := by
    intro L
    induction L with
    | nil => intro a h; exact ⟨h, Int.le_refl _, fun w hw => (by cases hw), Or.inl rfl⟩
    | cons v L ih =>
      intro a h
      have e : bey b a (v :: L) = bey b (if b < v.1 then min a v.1 else a) L := rfl
      rw [e]
      by_cases c : b < v.1
      · rw [if_pos c]
        obtain ⟨i1, i2, i3, i4⟩ := ih (min a v.1) (by omega)
        refine ⟨i1, by omega, fun w hw hbw => ?_, ?_⟩
        · rcases List.mem_cons.mp hw with rfl | hw
          · omega
          · exact i3 w hw hbw
        · rcases i4 with h | ⟨w, hw, h⟩
          · by_cases c2 : a ≤ v.1
            · left; omega
            · right; exact ⟨v, List.mem_cons_self .., by omega⟩
          · exact Or.inr ⟨w, List.mem_cons_of_mem _ hw, h⟩
      · rw [if_neg c]
        obtain ⟨i1, i2, i3, i4⟩ := ih a h
        refine ⟨i1, i2, fun w hw hbw => ?_, ?_⟩
        · rcases List.mem_cons.mp hw with rfl | hw
          · exact absurd hbw c
          · exact i3 w hw hbw
        · rcases i4 with h | ⟨w, hw, h⟩
          · exact Or.inl h
          · exact Or.inr ⟨w, List.mem_cons_of_mem _ hw, h⟩
  obtain ⟨i1, i2, i3, i4⟩ := h1 L a hba
  refine ⟨i1, ?_, i4⟩
  generalize bey b a L = c at i1 i2 i3
  have h2 : ∀ (L : List Wy), (∀ w ∈ L, b < w.1 → c ≤ w.1) → cLt c L = cLt b L + (cEq b L).length := by
    intro L
    induction L with
    | nil => intro _; rfl
    | cons v L ih =>
      intro h
      have hv := h v (List.mem_cons_self ..)
      have := ih (fun w hw => h w (List.mem_cons_of_mem _ hw))
      unfold cLt cEq at this ⊢
      rw [List.filter_cons, List.filter_cons, List.filter_cons]
      by_cases c1 : v.1 < b
      · rw [if_pos (decide_eq_true (by omega : v.1 < c)), if_pos (decide_eq_true c1), if_neg (by rw [decide_eq_true_eq]; omega), List.length_cons, List.length_cons]
        omega
      · by_cases c2 : v.1 = b
        · rw [if_pos (decide_eq_true (by omega : v.1 < c)), if_neg (by rw [decide_eq_true_eq]; omega), if_pos (decide_eq_true c2), List.length_cons, List.length_cons]
          omega
        · rw [if_neg (by rw [decide_eq_true_eq]; omega), if_neg (by rw [decide_eq_true_eq]; omega), if_neg (by rw [decide_eq_true_eq]; omega)]
          exact this
  exact h2 L i3
theorem e_isWay {k : Int} (em : ia σ 103 = m) (hW : WF m) (hS : SR σ) (hI : LI σ) (hk : 0 ≤ k) (hk2 : k < 100) (hd : 20 ≤ d) :
    Eb g ad d mX11_isWay 0 0 [.ref (ad 102), vi k] σ (Ki fun r s => IsW m k.toNat r s ∧ (LV m (ia s 112) ∧ ¬ sc s 102 20 = 0) ∧ Fm [112, 114, 115, 116] [20, 22, 23, 26, 27, 28, 29, 30, 32] σ s) := by
  have h0 := nd0 hW
  have hW0 := hW.1
  have ik : iR k := iR_of (by omega) (by omega)
  have hwr := wy_rest hW 6 (0, 0, -1) h0 (by decide)
  have hwm := wy_mem hW 6 (0, 0, -1) h0 (by decide)
  have hmu : mu (0, 0, -1) = 6 := by decide
  rw [hmu] at hwr hwm
  have hrb := restM_b hW (set := 0) (place := 0) (last := -1) (by omega) h0.2.2
  refine EbS rfl pl_X11 rfl rfl (bX11_isWay_0 ik hS ?_)
  refine Cl.i (e_exact0 (σ := σ) (d := d - 1) (em ▸ hW) hS hI (by omega)) (by omega) (fun r1 s1 hr1 hS1 h1 => ?_)
  rw [em] at h1
  obtain ⟨e1, hL1, hn1, hF1⟩ := h1
  intro _ hS1'
  have key : ∀ (n : Nat) (τ : SG), SR τ → Fm [112, 114, 115, 116] [20, 22, 23, 26, 27, 28, 29, 30, 32] σ τ → (LV m (ia τ 112) ∧ ¬ sc τ 102 20 = 0) → 0 ≤ sc τ 102 28 → (sc τ 102 28 = 1000000000 ∨ 4000 - sc τ 102 28 < n) → (sc τ 102 28 = 1000000000 ∨ sc τ 102 28 < 4000) → cLt (sc τ 102 28) (wy m (0, 0, -1)) ≤ k.toNat → sc τ 102 30 = k - cLt (sc τ 102 28) (wy m (0, 0, -1)) → aX11_isWay_13 g ad d (Ki fun r s => IsW m k.toNat r s ∧ (LV m (ia s 112) ∧ ¬ sc s 102 20 = 0) ∧ Fm [112, 114, 115, 116] [20, 22, 23, 26, 27, 28, 29, 30, 32] σ s) 0 0 τ k := by
    intro n
    induction n with
    | zero =>
      intro τ hSt hF hLt hb0 hn hb1 hc hne
      refine bX11_isWay_13 ik hSt ⟨fun c => re_i ⟨Or.inr ⟨rfl, ?_⟩, hLt, hF⟩, fun c => by omega⟩
      refine Nat.le_trans (Nat.le_of_eq ?_) hc
      unfold cLt
      rw [List.filter_eq_self.mpr]
      intro w hw
      have := (hwr.1 w hw).2
      exact decide_eq_true (by omega)
    | succ n ih =>
      intro τ hSt hF hLt hb0 hn hb1 hc hne
      refine bX11_isWay_13 ik hSt ⟨fun c => re_i ⟨Or.inr ⟨rfl, ?_⟩, hLt, hF⟩, fun c => ?_⟩
      · refine Nat.le_trans (Nat.le_of_eq ?_) hc
        unfold cLt
        rw [List.filter_eq_self.mpr]
        intro w hw
        have := (hwr.1 w hw).2
        exact decide_eq_true (by omega)
      · have et : ia τ 103 = m := (hF.a 103 rfl).trans em
        have hS2 : SR (setS τ 102 29 1000000000) := SR_setS hSt (iR_lit rfl)
        refine Cl.i (e_goes hW 7 (d := d - 1) (σ := setS τ 102 29 1000000000) (x := (0, 0, -1)) (c := 0) (n := 0) (by rw [hmu]; omega) (by omega) h0 (by simp (config := {decide := true}) only [sc_S, ia_S, la_S, rv_S, sc_I, rv_I, la_I, ia_I, sc_L, rv_L, ia_L, la_L, sc_A, rv_A, la_A, ia_A, sc_B, rv_B, ia_B, la_B, sc_R, ia_R, la_R, rv_R, ia_w, la_w, rv_w, sc_w, if_true, if_false]; exact et) hS2 (by simp (config := {decide := true}) only [sc_S, ia_S, la_S, rv_S, sc_I, rv_I, la_I, ia_I, sc_L, rv_L, ia_L, la_L, sc_A, rv_A, la_A, ia_A, sc_B, rv_B, ia_B, la_B, sc_R, ia_R, la_R, rv_R, ia_w, la_w, rv_w, sc_w, if_true, if_false]; exact hLt.1) (by omega) (by omega) (by omega) (by omega) (by simp (config := {decide := true}) only [sc_S, ia_S, la_S, rv_S, sc_I, rv_I, la_I, ia_I, sc_L, rv_L, ia_L, la_L, sc_A, rv_A, la_A, ia_A, sc_B, rv_B, ia_B, la_B, sc_R, ia_R, la_R, rv_R, ia_w, la_w, rv_w, sc_w, if_true, if_false]; omega) (by simp (config := {decide := true}) only [sc_S, ia_S, la_S, rv_S, sc_I, rv_I, la_I, ia_I, sc_L, rv_L, ia_L, la_L, sc_A, rv_A, la_A, ia_A, sc_B, rv_B, ia_B, la_B, sc_R, ia_R, la_R, rv_R, ia_w, la_w, rv_w, sc_w, if_true, if_false]; omega) (by simp (config := {decide := true}) only [sc_S, ia_S, la_S, rv_S, sc_I, rv_I, la_I, ia_I, sc_L, rv_L, ia_L, la_L, sc_A, rv_A, la_A, ia_A, sc_B, rv_B, ia_B, la_B, sc_R, ia_R, la_R, rv_R, ia_w, la_w, rv_w, sc_w, if_true, if_false]; omega) (by simp (config := {decide := true}) only [sc_S, ia_S, la_S, rv_S, sc_I, rv_I, la_I, ia_I, sc_L, rv_L, ia_L, la_L, sc_A, rv_A, la_A, ia_A, sc_B, rv_B, ia_B, la_B, sc_R, ia_R, la_R, rv_R, ia_w, la_w, rv_w, sc_w, if_true, if_false] <;> omega) (by simp (config := {decide := true}) only [sc_S, ia_S, la_S, rv_S, sc_I, rv_I, la_I, ia_I, sc_L, rv_L, ia_L, la_L, sc_A, rv_A, la_A, ia_A, sc_B, rv_B, ia_B, la_B, sc_R, ia_R, la_R, rv_R, ia_w, la_w, rv_w, sc_w, if_true, if_false] <;> omega)) (by omega) (fun r3 s3 hr3 hS3 h3' => ?_)
        simp (config := {decide := true}) only [sc_S, ia_S, la_S, rv_S, sc_I, rv_I, la_I, ia_I, sc_L, rv_L, ia_L, la_L, sc_A, rv_A, la_A, ia_A, sc_B, rv_B, ia_B, la_B, sc_R, ia_R, la_R, rv_R, ia_w, la_w, rv_w, sc_w, if_true, if_false] at h3'
        rw [wyc0] at h3'
        obtain ⟨hP, hG⟩ := h3'
        have hF3 : Fm [112, 114, 115, 116] [20, 22, 23, 26, 27, 28, 29, 30, 32] σ s3 := (hF.setS (by decide)).trans (hG.2.1.mono (by decide) (by decide))
        have hn3 : ¬ sc s3 102 20 = 0 := by
          rw [hG.2.1.s 20 rfl]
          simp (config := {decide := true}) only [sc_S, ia_S, la_S, rv_S, sc_I, rv_I, la_I, ia_I, sc_L, rv_L, ia_L, la_L, sc_A, rv_A, la_A, ia_A, sc_B, rv_B, ia_B, la_B, sc_R, ia_R, la_R, rv_R, ia_w, la_w, rv_w, sc_w, if_true, if_false]
          exact hLt.2
        have h28 : sc s3 102 28 = sc τ 102 28 := by
          rw [hG.2.1.s 28 rfl]
          simp (config := {decide := true}) only [sc_S, ia_S, la_S, rv_S, sc_I, rv_I, la_I, ia_I, sc_L, rv_L, ia_L, la_L, sc_A, rv_A, la_A, ia_A, sc_B, rv_B, ia_B, la_B, sc_R, ia_R, la_R, rv_R, ia_w, la_w, rv_w, sc_w, if_true, if_false]
        refine ⟨fun c3 => ?_, fun c3 => ?_⟩
        · intro _ hS4
          rw [c3] at hP
          rcases hP with ⟨w, q1, q2, -⟩ | ⟨q1, -, q3, q4⟩
          · exact absurd q2 (by decide)
          · have hcb := cLt_bey (L := wy m (0, 0, -1)) hb0 1000000000 (fun w hw => by have := (hwr.1 w hw).2; omega) (by omega)
            refine ih _ hS4 (hF3.setS (by decide)) ⟨by simp (config := {decide := true}) only [sc_S, ia_S, la_S, rv_S, sc_I, rv_I, la_I, ia_I, sc_L, rv_L, ia_L, la_L, sc_A, rv_A, la_A, ia_A, sc_B, rv_B, ia_B, la_B, sc_R, ia_R, la_R, rv_R, ia_w, la_w, rv_w, sc_w, if_true, if_false]; exact hG.1, by simp (config := {decide := true}) only [sc_S, ia_S, la_S, rv_S, sc_I, rv_I, la_I, ia_I, sc_L, rv_L, ia_L, la_L, sc_A, rv_A, la_A, ia_A, sc_B, rv_B, ia_B, la_B, sc_R, ia_R, la_R, rv_R, ia_w, la_w, rv_w, sc_w, if_true, if_false]; exact hn3⟩ (by simp (config := {decide := true}) only [sc_S, ia_S, la_S, rv_S, sc_I, rv_I, la_I, ia_I, sc_L, rv_L, ia_L, la_L, sc_A, rv_A, la_A, ia_A, sc_B, rv_B, ia_B, la_B, sc_R, ia_R, la_R, rv_R, ia_w, la_w, rv_w, sc_w, if_true, if_false]; omega) (by simp (config := {decide := true}) only [sc_S, ia_S, la_S, rv_S, sc_I, rv_I, la_I, ia_I, sc_L, rv_L, ia_L, la_L, sc_A, rv_A, la_A, ia_A, sc_B, rv_B, ia_B, la_B, sc_R, ia_R, la_R, rv_R, ia_w, la_w, rv_w, sc_w, if_true, if_false]; omega) ?_ ?_ ?_
            · simp (config := {decide := true}) only [sc_S, ia_S, la_S, rv_S, sc_I, rv_I, la_I, ia_I, sc_L, rv_L, ia_L, la_L, sc_A, rv_A, la_A, ia_A, sc_B, rv_B, ia_B, la_B, sc_R, ia_R, la_R, rv_R, ia_w, la_w, rv_w, sc_w, if_true, if_false]
              rw [q4]
              rcases hcb.2.2 with h | ⟨w, hw, h⟩
              · exact Or.inl h
              · have := (hwr.1 w hw).2
                right
                omega
            · simp (config := {decide := true}) only [sc_S, ia_S, la_S, rv_S, sc_I, rv_I, la_I, ia_I, sc_L, rv_L, ia_L, la_L, sc_A, rv_A, la_A, ia_A, sc_B, rv_B, ia_B, la_B, sc_R, ia_R, la_R, rv_R, ia_w, la_w, rv_w, sc_w, if_true, if_false]
              rw [q4, hcb.2.1]
              omega
            · simp (config := {decide := true}) only [sc_S, ia_S, la_S, rv_S, sc_I, rv_I, la_I, ia_I, sc_L, rv_L, ia_L, la_L, sc_A, rv_A, la_A, ia_A, sc_B, rv_B, ia_B, la_B, sc_R, ia_R, la_R, rv_R, ia_w, la_w, rv_w, sc_w, if_true, if_false]
              rw [q3, q4, hcb.2.1]
              omega
        · rcases hP with ⟨w, q1, q2, q3, q4, q5⟩ | ⟨q1, q2, -⟩
          · have hwB : w.1 = sc τ 102 28 := by
              have := List.mem_of_getElem? q1
              unfold cEq at this
              exact of_decide_eq_true (List.mem_filter.mp this).2
            have hwm' : w ∈ wy m (0, 0, -1) := by
              have := List.mem_of_getElem? q1
              unfold cEq at this
              exact (List.mem_filter.mp this).1
            have hww := hwm w hwm'
            refine Cl.vo (e_spells (d := d - 1) (m := m) (p := w.2) ((hF3.a 103 rfl).trans em) hW hS3 (by omega) hww.1 hww.2 (by omega) (fun i q hq => by have := q5 i q hq; rw [Int.zero_add] at this; exact this)) (by omega) (fun s5 hS5 h5 => ?_)
            obtain ⟨f1, f2, f3⟩ := h5
            refine re_i ⟨Or.inl ⟨w, ⟨?_, ?_⟩, rfl, ?_, ?_, ?_, f1, f2⟩, ⟨?_, ?_⟩, hF3.trans (f3.mono (by decide) (by decide))⟩
            · rw [hwB]; exact hc
            · rw [hwB, ← q1]
              congr 1
              omega
            · rw [f3.s 26 rfl]; omega
            · rw [f3.s 27 rfl, q4, hwB]
            · intro i q hq
              rw [f3.a 114 rfl, f3.a 115 rfl]
              have := q5 i q hq
              rw [Int.zero_add] at this
              exact this
            · rw [f3.a 112 rfl]; exact hG.1
            · rw [f3.s 20 rfl]; exact hn3
          · exact absurd q2 c3
  have hlt0 : cLt r1 (wy m (0, 0, -1)) = 0 := by
    unfold cLt
    rw [List.filter_eq_nil_iff.mpr, List.length_nil]
    intro w hw q
    have := of_decide_eq_true q
    have := (hwr.1 w hw).1
    show False
    have e : restM m 0 0 (-1) ≤ w.1 := this
    omega
  refine key 4001 _ hS1' (((hF1.mono (by decide) (by decide)).setS (by decide)).setS (by decide)) ⟨by simp (config := {decide := true}) only [sc_S, ia_S, la_S, rv_S, sc_I, rv_I, la_I, ia_I, sc_L, rv_L, ia_L, la_L, sc_A, rv_A, la_A, ia_A, sc_B, rv_B, ia_B, la_B, sc_R, ia_R, la_R, rv_R, ia_w, la_w, rv_w, sc_w, if_true, if_false]; exact hL1, by simp (config := {decide := true}) only [sc_S, ia_S, la_S, rv_S, sc_I, rv_I, la_I, ia_I, sc_L, rv_L, ia_L, la_L, sc_A, rv_A, la_A, ia_A, sc_B, rv_B, ia_B, la_B, sc_R, ia_R, la_R, rv_R, ia_w, la_w, rv_w, sc_w, if_true, if_false]; exact hn1⟩ (by simp (config := {decide := true}) only [sc_S, ia_S, la_S, rv_S, sc_I, rv_I, la_I, ia_I, sc_L, rv_L, ia_L, la_L, sc_A, rv_A, la_A, ia_A, sc_B, rv_B, ia_B, la_B, sc_R, ia_R, la_R, rv_R, ia_w, la_w, rv_w, sc_w, if_true, if_false]; omega) ?_ ?_ ?_ ?_
  · simp (config := {decide := true}) only [sc_S, ia_S, la_S, rv_S, sc_I, rv_I, la_I, ia_I, sc_L, rv_L, ia_L, la_L, sc_A, rv_A, la_A, ia_A, sc_B, rv_B, ia_B, la_B, sc_R, ia_R, la_R, rv_R, ia_w, la_w, rv_w, sc_w, if_true, if_false]
    rcases hwr.2 with h | ⟨w, hw, h⟩
    · left; rw [e1]; exact h.1
    · right; omega
  · simp (config := {decide := true}) only [sc_S, ia_S, la_S, rv_S, sc_I, rv_I, la_I, ia_I, sc_L, rv_L, ia_L, la_L, sc_A, rv_A, la_A, ia_A, sc_B, rv_B, ia_B, la_B, sc_R, ia_R, la_R, rv_R, ia_w, la_w, rv_w, sc_w, if_true, if_false]
    rcases hwr.2 with h | ⟨w, hw, h⟩
    · left; rw [e1]; exact h.1
    · right
      have := (hwr.1 w hw).2
      have e : w.1 = restM m 0 0 (-1) := h
      omega
  · simp (config := {decide := true}) only [sc_S, ia_S, la_S, rv_S, sc_I, rv_I, la_I, ia_I, sc_L, rv_L, ia_L, la_L, sc_A, rv_A, la_A, ia_A, sc_B, rv_B, ia_B, la_B, sc_R, ia_R, la_R, rv_R, ia_w, la_w, rv_w, sc_w, if_true, if_false]
    rw [hlt0]
    omega
  · simp (config := {decide := true}) only [sc_S, ia_S, la_S, rv_S, sc_I, rv_I, la_I, ia_I, sc_L, rv_L, ia_L, la_L, sc_A, rv_A, la_A, ia_A, sc_B, rv_B, ia_B, la_B, sc_R, ia_R, la_R, rv_R, ia_w, la_w, rv_w, sc_w, if_true, if_false]
    rw [hlt0]
    omega
end IW
