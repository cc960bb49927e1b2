section LES
variable {g : AG} {ad : Nat → Nat} {d : Nat} {σ : SG} {m t : Int → Int} {k : Nat} {e f : Int}
/-! the links of a lesson are in range -/
theorem numV_nn {p : Int} : ∀ (n : Nat) (q : Int), q = p + n → (∀ j, p ≤ j → j < q → dgt t j = true) → 0 ≤ numV t p q
  | 0, q, hq, _ => by
    unfold numV
    rw [ir_nil (by omega)]
    exact Int.le_refl _
  | n + 1, q, hq, h => by
    have h1 := numV_nn (p := p) n (q - 1) (by omega) (fun j a b => h j a (by omega))
    have h2 := h (q - 1) (by omega) (by omega)
    have := numV_snoc (t := t) (p := p) (a := q - 1) (by omega)
    rw [show q - 1 + 1 = q by omega] at this
    unfold dgt at h2
    have h3 := of_decide_eq_true h2
    omega
theorem pNum_v {most p p' v : Int} {m' : Int → Int} (hp : p ≤ e) (hok : pNum t e most p m = .ok v p' m') : 0 ≤ v ∧ v ≤ most := by
  have hsc := scn_b (b := dgt t) (e := e) (e - p).toNat p hp (Nat.le_refl _)
  unfold pNum at hok
  by_cases c : scn (dgt t) e p - p = 0 ∨ 3 < scn (dgt t) e p - p ∨ most < numV t p (scn (dgt t) e p)
  · rw [if_pos c] at hok; cases hok
  · rw [if_neg c] at hok
    obtain ⟨q1, q2, q3⟩ := PR.inj hok
    subst q1
    exact ⟨numV_nn (scn (dgt t) e p - p).toNat _ (by omega) hsc.2.2.2, by omega⟩
def LIn (na nb : Int) (ls : List Lk) : Prop := ∀ l ∈ ls, (0 ≤ l.1 ∧ l.1 < na) ∧ (0 ≤ l.2 ∧ l.2 < nb)
theorem pLink_in {na nb p p' : Int} {ls ls' : List Lk} {m' : Int → Int} (hl : LIn na nb ls) (hp : p ≤ e) (hok : pLink t e na nb ls p m = .ok ls' p' m') : LIn na nb ls' := by
  unfold pLink at hok
  split at hok
  · cases hok
  · cases h1 : pNum t e (na - 1) p m with
    | error f => rw [h1] at hok; cases hok
    | ok rr_ =>
      obtain ⟨a, p1, m1⟩ := rr_
      rw [h1] at hok
      have k1 := pNum_ok hp h1
      have v1 := pNum_v hp h1
      have hok1 : ((pNum t e (nb - 1) p1 m1).bind fun b p2 m2 => if (a, b) ∈ ls then PR.bad p else .ok (ls ++ [(a, b)]) p2 m2) = PR.ok ls' p' m' := hok
      cases h2 : pNum t e (nb - 1) p1 m1 with
      | error f => rw [h2] at hok1; cases hok1
      | ok rr_ =>
        obtain ⟨b, p2, m2⟩ := rr_
        rw [h2] at hok1
        have v2 := pNum_v k1.2.2 h2
        have hok2 : (if (a, b) ∈ ls then PR.bad p else PR.ok (ls ++ [(a, b)]) p2 m2) = PR.ok ls' p' m' := hok1
        split at hok2
        · cases hok2
        · obtain ⟨q1, q2, q3⟩ := PR.inj hok2
          subst q1
          intro l hm
          rcases List.mem_append.mp hm with z | z
          · exact hl l z
          · rw [List.mem_singleton.mp z]
            exact ⟨⟨v1.1, by show a < na; omega⟩, v2.1, by show b < nb; omega⟩
theorem pLinks_in {na nb : Int} : ∀ (n : Nat) (ls : List Lk) (p : Int) (m : Int → Int) {ls' : List Lk} {p' : Int} {m' : Int → Int}, LIn na nb ls → p ≤ e → pLinks t e na nb n ls p m = .ok ls' p' m' → LIn na nb ls'
  | 0, ls, p, m, ls', p', m', _, hp, hok => by
    unfold pLinks at hok
    cases hok
  | n + 1, ls, p, m, ls', p', m', hl, hp, hok => by
    rw [pLinks] at hok
    cases h1 : pLink t e na nb ls p m with
    | error f => rw [h1] at hok; cases hok
    | ok rr_ =>
      obtain ⟨l1, p1, m1⟩ := rr_
      rw [h1] at hok
      have k1 := pLink_in hl hp h1
      have hok1 : (if e ≤ p1 then PR.ok l1 p1 m1 else (pSign t e 59 p1 m1).bind fun _ p2 m2 => pLinks t e na nb n l1 p2 m2) = PR.ok ls' p' m' := hok
      split at hok1
      · obtain ⟨q1, q2, q3⟩ := PR.inj hok1
        rw [← q1]
        exact k1
      · cases h2 : pSign t e 59 p1 m1 with
        | error f => rw [h2] at hok1; cases hok1
        | ok rr_ =>
          obtain ⟨u, p2, m2⟩ := rr_
          rw [h2] at hok1
          have k2 := pSign_ok h2
          exact pLinks_in n l1 p2 m2 k1 k2.2.2 hok1
theorem lessP_in {p p' : Int} {x : Les} {m' : Int → Int} (hok : lessP t e p m = .ok x p' m') : LIn x.1.length x.2.1.length x.2.2 := by
  unfold lessP at hok
  cases h1 : pWs t e true 6 p m with
  | error f => rw [h1] at hok; cases hok
  | ok rr_ =>
    obtain ⟨a, p1, m1⟩ := rr_
    rw [h1] at hok
    have hok1 : (if a = [] then PR.bad p1 else (pSign t e 61 p1 m1).bind fun _ p2 m2 => (pWs t e true 6 p2 m2).bind fun b p3 m3 => if b = [] then .bad p3 else (pSign t e 47 p3 m3).bind fun _ p4 m4 => (pLinks t e a.length b.length 13 [] p4 m4).bind fun ls p5 m5 => .ok (a, b, ls) p5 m5) = PR.ok x p' m' := hok
    split at hok1
    · cases hok1
    · cases h2 : pSign t e 61 p1 m1 with
      | error f => rw [h2] at hok1; cases hok1
      | ok rr_ =>
        obtain ⟨u, p2, m2⟩ := rr_
        rw [h2] at hok1
        have hok2 : ((pWs t e true 6 p2 m2).bind fun b p3 m3 => if b = [] then .bad p3 else (pSign t e 47 p3 m3).bind fun _ p4 m4 => (pLinks t e a.length b.length 13 [] p4 m4).bind fun ls p5 m5 => .ok (a, b, ls) p5 m5) = PR.ok x p' m' := hok1
        cases h3 : pWs t e true 6 p2 m2 with
        | error f => rw [h3] at hok2; cases hok2
        | ok rr_ =>
          obtain ⟨b, p3, m3⟩ := rr_
          rw [h3] at hok2
          have hok3 : (if b = [] then PR.bad p3 else (pSign t e 47 p3 m3).bind fun _ p4 m4 => (pLinks t e a.length b.length 13 [] p4 m4).bind fun ls p5 m5 => .ok (a, b, ls) p5 m5) = PR.ok x p' m' := hok2
          split at hok3
          · cases hok3
          · cases h4 : pSign t e 47 p3 m3 with
            | error f => rw [h4] at hok3; cases hok3
            | ok rr_ =>
              obtain ⟨u, p4, m4⟩ := rr_
              rw [h4] at hok3
              have k4 := pSign_ok h4
              have hok4 : ((pLinks t e a.length b.length 13 [] p4 m4).bind fun ls p5 m5 => .ok (a, b, ls) p5 m5) = PR.ok x p' m' := hok3
              cases h5 : pLinks t e a.length b.length 13 [] p4 m4 with
              | error f => rw [h5] at hok4; cases hok4
              | ok rr_ =>
                obtain ⟨ls, p5, m5⟩ := rr_
                rw [h5] at hok4
                have k5 := pLinks_in 13 [] p4 m4 (fun l hl => by cases hl) k4.2.2 h5
                have hok5 : PR.ok (a, b, ls) p5 m5 = PR.ok x p' m' := hok4
                obtain ⟨q1, q2, q3⟩ := PR.inj hok5
                subst q1
                exact k5
/-! masks -/
def mkB (p q : Int) : Int := bShl 1 (q + 1) - bShl 1 p
theorem mk_all : ∀ (p q : Fin 6), p.val ≤ q.val → 0 ≤ mkB (p.val : Int) (q.val : Int) ∧ mkB (p.val : Int) (q.val : Int) ≤ 63 := by decide +kernel
theorem mk_bits : ∀ (a : Fin 64) (p q : Fin 6), p.val ≤ q.val → (bAnd (a.val : Int) (bXor (mkB (p.val : Int) (q.val : Int)) (-1)) = 0 ↔ ∀ j : Fin 6, bitB (a.val : Int) (j.val : Int) = true → p.val ≤ j.val ∧ j.val ≤ q.val) ∧ (bAnd (a.val : Int) (mkB (p.val : Int) (q.val : Int)) = 0 ↔ ∀ j : Fin 6, bitB (a.val : Int) (j.val : Int) = true → ¬ (p.val ≤ j.val ∧ j.val ≤ q.val)) ∧ (0 ≤ bAnd (mkB (p.val : Int) (q.val : Int)) (bXor (a.val : Int) (-1)) ∧ bAnd (mkB (p.val : Int) (q.val : Int)) (bXor (a.val : Int) (-1)) ≤ 63 ∧ (pc (bAnd (mkB (p.val : Int) (q.val : Int)) (bXor (a.val : Int) (-1))) : Int) = (ir (p.val : Int) ((q.val : Int) + 1)).foldl (fun n w => n + if bitB (a.val : Int) w = true then 0 else 1) 0) := by decide +kernel
theorem bit_zero : ∀ (a : Fin 64), ((a.val : Int) = 0 ↔ ∀ j : Fin 6, ¬ bitB (a.val : Int) (j.val : Int) = true) := by decide +kernel
theorem bit_or2 : ∀ (a b : Fin 64), (0 ≤ bOr (a.val : Int) (b.val : Int) ∧ bOr (a.val : Int) (b.val : Int) ≤ 63) ∧ ∀ i : Fin 6, (bitB (bOr (a.val : Int) (b.val : Int)) (i.val : Int) = true ↔ bitB (a.val : Int) (i.val : Int) = true ∨ bitB (b.val : Int) (i.val : Int) = true) := by decide +kernel
theorem f6 {P : Int → Prop} : (∀ j : Fin 6, P (j.val : Int)) ↔ ∀ j, 0 ≤ j → j < 6 → P j := by
  constructor
  · intro h j h0 h1
    have h2 : j.toNat < 6 := by omega
    have := h ⟨j.toNat, h2⟩
    rw [show (((⟨j.toNat, h2⟩ : Fin 6).val : Nat) : Int) = j from by show ((j.toNat : Nat) : Int) = j; omega] at this
    exact this
  · intro h j
    exact h _ (by omega) (by have := j.isLt; omega)
theorem mk_b {p q : Int} (hp : 0 ≤ p) (hpq : p ≤ q) (hq : q < 6) : 0 ≤ mkB p q ∧ mkB p q ≤ 63 := by
  have h1 : p.toNat < 6 := by omega
  have h2 : q.toNat < 6 := by omega
  have := mk_all ⟨p.toNat, h1⟩ ⟨q.toNat, h2⟩ (by show p.toNat ≤ q.toNat; omega)
  rw [show (((⟨p.toNat, h1⟩ : Fin 6).val : Nat) : Int) = p from by show ((p.toNat : Nat) : Int) = p; omega, show (((⟨q.toNat, h2⟩ : Fin 6).val : Nat) : Int) = q from by show ((q.toNat : Nat) : Int) = q; omega] at this
  exact this
theorem mk_s {a p q : Int} (ha : 0 ≤ a ∧ a ≤ 63) (hp : 0 ≤ p) (hpq : p ≤ q) (hq : q < 6) : (bAnd a (bXor (mkB p q) (-1)) = 0 ↔ ∀ j, 0 ≤ j → j < 6 → bitB a j = true → p ≤ j ∧ j ≤ q) ∧ (bAnd a (mkB p q) = 0 ↔ ∀ j, 0 ≤ j → j < 6 → bitB a j = true → ¬ (p ≤ j ∧ j ≤ q)) ∧ (0 ≤ bAnd (mkB p q) (bXor a (-1)) ∧ bAnd (mkB p q) (bXor a (-1)) ≤ 63 ∧ (pc (bAnd (mkB p q) (bXor a (-1))) : Int) = (ir p (q + 1)).foldl (fun n w => n + if bitB a w = true then 0 else 1) 0) := by
  have h1 : p.toNat < 6 := by omega
  have h2 : q.toNat < 6 := by omega
  have h3 : a.toNat < 64 := by omega
  obtain ⟨k1, k2, k3⟩ := mk_bits ⟨a.toNat, h3⟩ ⟨p.toNat, h1⟩ ⟨q.toNat, h2⟩ (by show p.toNat ≤ q.toNat; omega)
  have e1 : (((⟨p.toNat, h1⟩ : Fin 6).val : Nat) : Int) = p := by show ((p.toNat : Nat) : Int) = p; omega
  have e2 : (((⟨q.toNat, h2⟩ : Fin 6).val : Nat) : Int) = q := by show ((q.toNat : Nat) : Int) = q; omega
  have e3 : (((⟨a.toNat, h3⟩ : Fin 64).val : Nat) : Int) = a := by show ((a.toNat : Nat) : Int) = a; omega
  rw [e1, e2, e3] at k1 k2 k3
  refine ⟨k1.trans ?_, k2.trans ?_, k3⟩
  · rw [← f6 (P := fun j => bitB a j = true → p ≤ j ∧ j ≤ q)]
    constructor
    · intro h j hb
      have := h j hb
      have h4 : p.toNat ≤ j.val ∧ j.val ≤ q.toNat := this
      omega
    · intro h j hb
      have := h j hb
      show p.toNat ≤ j.val ∧ j.val ≤ q.toNat
      omega
  · rw [← f6 (P := fun j => bitB a j = true → ¬ (p ≤ j ∧ j ≤ q))]
    constructor
    · intro h j hb z
      refine h j hb ?_
      show p.toNat ≤ j.val ∧ j.val ≤ q.toNat
      omega
    · intro h j hb z
      have h4 : p.toNat ≤ j.val ∧ j.val ≤ q.toNat := z
      exact h j hb (by omega)
theorem bit_z {a : Int} (ha : 0 ≤ a ∧ a ≤ 63) : a = 0 ↔ ∀ j, 0 ≤ j → j < 6 → ¬ bitB a j = true := by
  have h3 : a.toNat < 64 := by omega
  have := bit_zero ⟨a.toNat, h3⟩
  rw [show (((⟨a.toNat, h3⟩ : Fin 64).val : Nat) : Int) = a from by show ((a.toNat : Nat) : Int) = a; omega] at this
  exact this.trans (f6 (P := fun j => ¬ bitB a j = true))
theorem bit_o {a b : Int} (ha : 0 ≤ a ∧ a ≤ 63) (hb : 0 ≤ b ∧ b ≤ 63) : (0 ≤ bOr a b ∧ bOr a b ≤ 63) ∧ ∀ i, 0 ≤ i → i < 6 → (bitB (bOr a b) i = true ↔ bitB a i = true ∨ bitB b i = true) := by
  have h3 : a.toNat < 64 := by omega
  have h4 : b.toNat < 64 := by omega
  have := bit_or2 ⟨a.toNat, h3⟩ ⟨b.toNat, h4⟩
  rw [show (((⟨a.toNat, h3⟩ : Fin 64).val : Nat) : Int) = a from by show ((a.toNat : Nat) : Int) = a; omega, show (((⟨b.toNat, h4⟩ : Fin 64).val : Nat) : Int) = b from by show ((b.toNat : Nat) : Int) = b; omega] at this
  exact ⟨this.1, f6.mp this.2⟩
/-- whether a place strays -/
def stD (f : Int → Int) (i j p q c : Int) : Prop := (i ≤ c ∧ c ≤ j → bAnd (f c) (bXor (mkB p q) (-1)) = 0) ∧ (¬ (i ≤ c ∧ c ≤ j) → bAnd (f c) (mkB p q) = 0)
theorem goT_iff {lf : Int → Int} {ls : List Lk} {na nb i j p q : Int} (hL : LkC lf ls) (hI : LIn na nb ls) (hna : na ≤ 6) (hnb : nb ≤ 6) (hi : 0 ≤ i ∧ j < na) (hp : 0 ≤ p) (hpq : p ≤ q) (hq : q < nb) : goT ls (i, j, p, q) = true ↔ (∀ c, 0 ≤ c → c < na → stD lf i j p q c) ∧ ∃ c, (i ≤ c ∧ c ≤ j) ∧ ¬ lf c = 0 := by
  unfold goT
  rw [Bool.and_eq_true, List.all_eq_true, List.any_eq_true]
  have in_ : ∀ a b c : Int, inB a b c = true ↔ b ≤ a ∧ a ≤ c := fun a b c => decide_eq_true_iff
  constructor
  · rintro ⟨h1, l, hm, h2⟩
    refine ⟨fun c h0 hc => ?_, l.1, (in_ _ _ _).mp h2, ?_⟩
    · obtain ⟨hb, hbit⟩ := hL c h0 (by omega)
      have hk := mk_s hb hp hpq (by omega)
      have hx : ∀ w, 0 ≤ w → w < 6 → bitB (lf c) w = true → (inB c i j = inB w p q) := fun w w0 w1 hw => by
        have := h1 _ ((hbit w w0 w1).mp hw)
        exact eq_of_beq this
      refine ⟨fun z => hk.1.mpr (fun w w0 w1 hw => ?_), fun z => hk.2.1.mpr (fun w w0 w1 hw z2 => ?_)⟩
      · have := hx w w0 w1 hw
        rw [(in_ _ _ _).mpr z] at this
        exact (in_ _ _ _).mp this.symm
      · have := hx w w0 w1 hw
        rw [(in_ _ _ _).mpr z2] at this
        exact z ((in_ _ _ _).mp this)
    · have hr := hI l hm
      obtain ⟨hb, hbit⟩ := hL l.1 hr.1.1 (by omega)
      intro z
      exact (bit_z hb).mp z l.2 hr.2.1 (by omega) ((hbit l.2 hr.2.1 (by omega)).mpr hm)
  · rintro ⟨h1, c, hc, hne⟩
    refine ⟨fun l hm => ?_, ?_⟩
    · have hr := hI l hm
      obtain ⟨hb, hbit⟩ := hL l.1 hr.1.1 (by omega)
      have hk := mk_s hb hp hpq (by omega)
      have hs := h1 l.1 hr.1.1 hr.1.2
      have hw := (hbit l.2 hr.2.1 (by omega)).mpr hm
      rw [beq_iff_eq, Bool.eq_iff_iff, in_, in_]
      by_cases z : i ≤ l.1 ∧ l.1 ≤ j
      · have := hk.1.mp (hs.1 z) l.2 hr.2.1 (by omega) hw
        exact ⟨fun _ => this, fun _ => z⟩
      · have := hk.2.1.mp (hs.2 z) l.2 hr.2.1 (by omega) hw
        exact ⟨fun z2 => absurd z2 z, fun z2 => absurd z2 this⟩
    · obtain ⟨hb, hbit⟩ := hL c (by omega) (by omega)
      have : ¬ ∀ w, 0 ≤ w → w < 6 → ¬ bitB (lf c) w = true := fun z => hne ((bit_z hb).mpr z)
      have hex : ∃ w, 0 ≤ w ∧ w < 6 ∧ bitB (lf c) w = true := by
        rcases Classical.em (∃ w, 0 ≤ w ∧ w < 6 ∧ bitB (lf c) w = true) with z | z
        · exact z
        · exact absurd (fun w w0 w1 hw => z ⟨w, w0, w1, hw⟩) this
      obtain ⟨w, w0, w1, hw⟩ := hex
      exact ⟨(c, w), (hbit w w0 w1).mp hw, (in_ _ _ _).mpr hc⟩
theorem c_bitsOf {p q : Int} (hp : 0 ≤ p) (hpq : p ≤ q) (hq : q < 6) (hS : SR σ) : EI g ad d mX3_bitsOf [vi p, vi q] σ (mkB p q) σ := by
  have := mk_b hp hpq hq
  refine EbS rfl pl_X3 rfl rfl (bX3_bitsOf_0 (iR_of (by omega) (by omega)) (iR_of (by omega) (by omega)) hS ?_)
  unfold mkB at this ⊢
  exact ⟨iR_of (by omega) (by omega), re_i ⟨rfl, rfl⟩⟩
theorem c_belong {ls : List Lk} {na nb i j p q : Int} (hL : LkC (ia σ 47) ls) (hI : LIn na nb ls) (h11 : sc σ 37 11 = na) (hna : na ≤ 6) (hnb : nb ≤ 6) (hi : 0 ≤ i ∧ i ≤ j ∧ j < na) (hp : 0 ≤ p ∧ p ≤ q ∧ q < nb) (hS : SR σ) (hd : 1 ≤ d) : EI g ad d mX3_belong [.ref (ad 37), vi i, vi j, vi p, vi q] σ (bi (goT ls (i, j, p, q) = true)) σ := by
  have hk0 := mk_b hp.1 hp.2.1 (show q < 6 by omega)
  have hgo := goT_iff hL hI hna hnb (i := i) (j := j) ⟨hi.1, hi.2.2⟩ hp.1 hp.2.1 hp.2.2
  have i1 : iR i := iR_of (by omega) (by omega)
  have i2 : iR j := iR_of (by omega) (by omega)
  have i3 : iR p := iR_of (by omega) (by omega)
  have i4 : iR q := iR_of (by omega) (by omega)
  refine EbS rfl pl_X3 rfl rfl (bX3_belong_0 i1 i2 i3 i4 hS ?_)
  refine EI.k (c_bitsOf (d := d - 1) hp.1 hp.2.1 (by omega) hS) (by omega) (fun ik _ => ?_)
  intro _ _ _ _ _ _ _ _
  refine up_loop (P := fun c => ∀ b : Int, (b = 0 ∨ b = 1) → (b = 0 ↔ ∀ c', i ≤ c' → c' ≤ j → c' < c → ia σ 47 c' = 0) → (∀ c', 0 ≤ c' → c' < c → stD (ia σ 47) i j p q c') → aX3_belong_14 g ad d (Ki fun r s => r = bi (goT ls (i, j, p, q) = true) ∧ s = σ) 0 0 σ i j p q (mkB p q) b c) (hi := na) 0 (by omega) ?_ ?_ 0 (Or.inl rfl) ⟨fun _ c' a b z => by omega, fun _ => rfl⟩ (fun c' a b => by omega)
  · intro b hb hbz hall
    refine bX3_belong_14 i1 i2 i3 i4 ik (iR01 hb) (iR_of (by omega) (by omega)) hS ⟨fun _ => ⟨hb, re_i ⟨?_, rfl⟩⟩, fun z => absurd (by rw [h11]; omega) z⟩
    rcases hb with hb | hb
    · rw [hb, bi_f]
      intro z
      obtain ⟨c, hc, hne⟩ := (hgo.mp z).2
      exact hne (hbz.mp hb c hc.1 hc.2 (by omega))
    · rw [hb, bi_t]
      refine hgo.mpr ⟨hall, ?_⟩
      rcases Classical.em (∃ c, (i ≤ c ∧ c ≤ j) ∧ ¬ ia σ 47 c = 0) with z | z
      · exact z
      · have : b = 0 := hbz.mpr (fun c' a b _ => by
          rcases Classical.em (ia σ 47 c' = 0) with z2 | z2
          · exact z2
          · exact absurd ⟨c', ⟨a, b⟩, z2⟩ z)
        omega
  · intro c hc0 hc1 ih b hb hbz hall
    have hbR : iR b := iR01 hb
    have ic : iR (c + 1) := iR_of (by omega) (by omega)
    have stop : ¬ stD (ia σ 47) i j p q c → (iR 0 → SR σ → Ki (fun r s => r = bi (goT ls (i, j, p, q) = true) ∧ s = σ) (.inl (some (vi 0))) σ) := fun z => re_i ⟨by
      rw [bi_f]
      intro z2
      exact z ((hgo.mp z2).1 c hc0 hc1), rfl⟩
    have next : stD (ia σ 47) i j p q c → ∀ b', (b' = 0 ∨ b' = 1) → (b' = 0 ↔ b = 0 ∧ (i ≤ c → c ≤ j → ia σ 47 c = 0)) → aX3_belong_14 g ad d (Ki fun r s => r = bi (goT ls (i, j, p, q) = true) ∧ s = σ) 0 0 σ i j p q (mkB p q) b' (c + 1) := by
      intro hst b' hb' he
      refine ih b' hb' (he.trans ?_) (fun c' a z => ?_)
      · rw [hbz]
        constructor
        · rintro ⟨z1, z2⟩ c' a1 a2 a3
          by_cases cc : c' = c
          · rw [cc]; rw [cc] at a1 a2; exact z2 a1 a2
          · exact z1 c' a1 a2 (by omega)
        · intro z
          exact ⟨fun c' a1 a2 a3 => z c' a1 a2 (by omega), fun a1 a2 => z c a1 a2 (by omega)⟩
      · by_cases cc : c' = c
        · rw [cc]; exact hst
        · exact hall c' a (by omega)
    have out : ¬ (i ≤ c ∧ c ≤ j) → (0 ≤ c ∧ c < 6) ∧ ((bAnd (ia σ 47 c) (mkB p q) = 0 → iR (c + 1) ∧ (iR i → iR j → iR p → iR q → iR (mkB p q) → iR (bOr b 0) → iR (c + 1) → SR σ → aX3_belong_14 g ad d (Ki fun r s => r = bi (goT ls (i, j, p, q) = true) ∧ s = σ) 0 0 σ i j p q (mkB p q) (bOr b 0) (c + 1))) ∧ (¬ bAnd (ia σ 47 c) (mkB p q) = 0 → (iR 0 → SR σ → Ki (fun r s => r = bi (goT ls (i, j, p, q) = true) ∧ s = σ) (.inl (some (vi 0))) σ))) := by
      intro hno
      refine ⟨⟨hc0, by omega⟩, fun z => ⟨ic, fun _ _ _ _ _ _ _ _ => ?_⟩, fun z => stop (fun z2 => z (z2.2 hno))⟩
      rw [bOr_0 hbR]
      exact next ⟨fun z2 => absurd z2 hno, fun _ => z⟩ b hb ⟨fun z2 => ⟨z2, fun a1 a2 => absurd ⟨a1, a2⟩ hno⟩, fun z2 => z2.1⟩
    refine bX3_belong_14 i1 i2 i3 i4 ik hbR (iR_of (by omega) (by omega)) hS ⟨fun z => absurd z (by rw [h11]; omega), fun _ => ⟨fun c1 => out (by omega), fun c1 => ⟨fun c2 => out (by omega), fun c2 => ⟨⟨hc0, by omega⟩, fun c3 => ⟨fun c4 => ⟨ic, fun _ _ _ _ _ _ _ _ => ?_⟩, fun c4 => ⟨ic, fun _ _ _ _ _ _ _ _ => ?_⟩⟩, fun c3 => stop (fun z2 => c3 (z2.1 ⟨by omega, by omega⟩))⟩⟩⟩⟩
    · rw [bOr_0 hbR]
      exact next ⟨fun _ => c3, fun z => absurd ⟨by omega, by omega⟩ z⟩ b hb ⟨fun z2 => ⟨z2, fun _ _ => c4⟩, fun z2 => z2.1⟩
    · have e1 : bOr b 1 = 1 := by
        rcases hb with hb | hb <;> rw [hb] <;> rfl
      rw [e1]
      exact next ⟨fun _ => c3, fun z => absurd ⟨by omega, by omega⟩ z⟩ 1 (Or.inr rfl) ⟨fun z => absurd z (by decide), fun z => absurd (z.2 (by omega) (by omega)) c4⟩
end LES
