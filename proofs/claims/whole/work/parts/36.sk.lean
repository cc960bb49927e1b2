section SKs
variable {m : Int → Int}
/-! sorted rows -/
def ins (rk : Int → Int) (x : Int) : List Int → List Int
  | [] => [x]
  | y :: l => if rk x ≤ rk y then x :: y :: l else y :: ins rk x l
def srt (rk : Int → Int) (l : List Int) : List Int := l.foldr (ins rk) []
theorem mem_ins {rk : Int → Int} {x z : Int} : ∀ {l : List Int}, z ∈ ins rk x l ↔ z = x ∨ z ∈ l
  | [] => by simp [ins]
  | y :: l => by
    rw [ins]
    split
    · simp
    · rw [List.mem_cons, mem_ins, List.mem_cons]
      constructor
      · rintro (h | h | h)
        · exact Or.inr (Or.inl h)
        · exact Or.inl h
        · exact Or.inr (Or.inr h)
      · rintro (h | h | h)
        · exact Or.inr (Or.inl h)
        · exact Or.inl h
        · exact Or.inr (Or.inr h)
theorem len_ins {rk : Int → Int} {x : Int} : ∀ {l : List Int}, (ins rk x l).length = l.length + 1
  | [] => rfl
  | y :: l => by
    rw [ins]
    split
    · rfl
    · rw [List.length_cons, len_ins, List.length_cons]
theorem mem_srt {rk : Int → Int} {z : Int} : ∀ {l : List Int}, z ∈ srt rk l ↔ z ∈ l
  | [] => Iff.rfl
  | y :: l => by
    show z ∈ ins rk y (srt rk l) ↔ _
    rw [mem_ins, mem_srt, List.mem_cons]
theorem len_srt {rk : Int → Int} : ∀ {l : List Int}, (srt rk l).length = l.length
  | [] => rfl
  | y :: l => by
    show (ins rk y (srt rk l)).length = _
    rw [len_ins, len_srt, List.length_cons]
/-- strictly upwards -/
def Up (rk : Int → Int) (l : List Int) : Prop := l.Pairwise (fun a b => rk a < rk b)
theorem up_ins {rk : Int → Int} {x : Int} : ∀ {l : List Int}, Up rk l → (∀ y ∈ l, rk x ≠ rk y) → Up rk (ins rk x l)
  | [], _, _ => List.pairwise_singleton ..
  | y :: l, h, hx => by
    rw [ins]
    have hy := hx y (List.mem_cons_self ..)
    have h1 := List.pairwise_cons.mp h
    split
    · rename_i c
      refine List.pairwise_cons.mpr ⟨fun z hz => ?_, h⟩
      rcases List.mem_cons.mp hz with rfl | hz
      · omega
      · have := h1.1 z hz
        omega
    · rename_i c
      refine List.pairwise_cons.mpr ⟨fun z hz => ?_, up_ins h1.2 (fun z hz => hx z (List.mem_cons_of_mem _ hz))⟩
      rcases mem_ins.mp hz with rfl | hz
      · omega
      · exact h1.1 z hz
theorem up_srt {rk : Int → Int} : ∀ {l : List Int}, l.Pairwise (fun a b => rk a ≠ rk b) → Up rk (srt rk l)
  | [], _ => List.Pairwise.nil
  | y :: l, h => by
    have h1 := List.pairwise_cons.mp h
    exact up_ins (up_srt h1.2) (fun z hz => h1.1 z (mem_srt.mp hz))
/-- two rows upwards of the same members are one -/
theorem up_uni {rk : Int → Int} : ∀ {l l' : List Int}, Up rk l → Up rk l' → (∀ z, z ∈ l ↔ z ∈ l') → l = l'
  | [], [], _, _, _ => rfl
  | [], y :: l', _, _, h => absurd ((h y).mpr (List.mem_cons_self ..)) (by simp)
  | x :: l, [], _, _, h => absurd ((h x).mp (List.mem_cons_self ..)) (by simp)
  | x :: l, y :: l', h1, h2, h => by
    have p1 := List.pairwise_cons.mp h1
    have p2 := List.pairwise_cons.mp h2
    have hx : x = y := by
      rcases List.mem_cons.mp ((h x).mp (List.mem_cons_self ..)) with e | e
      · exact e
      · rcases List.mem_cons.mp ((h y).mpr (List.mem_cons_self ..)) with e' | e'
        · exact e'.symm
        · have := p1.1 y e'
          have := p2.1 x e
          omega
    subst hx
    congr 1
    refine up_uni p1.2 p2.2 (fun z => ⟨fun hz => ?_, fun hz => ?_⟩)
    · rcases List.mem_cons.mp ((h z).mp (List.mem_cons_of_mem _ hz)) with e | e
      · have := p1.1 z hz
        rw [e] at this
        omega
      · exact e
    · rcases List.mem_cons.mp ((h z).mpr (List.mem_cons_of_mem _ hz)) with e | e
      · have := p2.1 z hz
        rw [e] at this
        omega
      · exact e
theorem up_at' {rk : Int → Int} {l : List Int} (h : Up rk l) {i j : Nat} {a b : Int} (hi : l[i]? = some a) (hj : l[j]? = some b) (hij : i < j) : rk a < rk b := by
  obtain ⟨h1, rfl⟩ := List.getElem?_eq_some_iff.mp hi
  obtain ⟨h2, rfl⟩ := List.getElem?_eq_some_iff.mp hj
  exact List.pairwise_iff_getElem.mp h i j h1 h2 hij
/-! halves -/
abbrev SK : Type := (Int → Int) × (Int → Int) × (Int → Int) × (Int → Int) × (Int → Int) × (Int → Int) × (Int) × (Int)
abbrev SK.ls (x_ : SK) : Int → Int := x_.1
abbrev SK.cs (x_ : SK) : Int → Int := x_.2.1
abbrev SK.md (x_ : SK) : Int → Int := x_.2.2.1
abbrev SK.fr (x_ : SK) : Int → Int := x_.2.2.2.1
abbrev SK.bs (x_ : SK) : Int → Int := x_.2.2.2.2.1
abbrev SK.bo (x_ : SK) : Int → Int := x_.2.2.2.2.2.1
abbrev SK.mn (x_ : SK) : Int := x_.2.2.2.2.2.2.1
abbrev SK.mg (x_ : SK) : Int := x_.2.2.2.2.2.2.2
/-- a half is laid -/
def lieS (S : SK) (k c by_ s o : Int) : SK :=
  if ¬ S.ls k = 0 ∧ S.cs k ≤ c then (S.ls, S.cs, S.md, S.fr, S.bs, S.bo, S.mn + 1, S.mg + 1)
  else (up S.ls k 1, up S.cs k c, up S.md k (S.mn + 1), up S.fr k by_, up S.bs k s, up S.bo k o, S.mn + 1, S.mg + (if S.ls k = 0 then 0 else 1))
/-- the knot of a key -/
def ndK (k : Int) : Nd := (k / 294, k / 42 % 7, k % 42 - 1)
def keyN (x : Nd) : Int := (x.1 * 7 + x.2.1) * 42 + x.2.2 + 1
theorem ndK_keyN {x : Nd} (h : nd m x) (h0 : W0 m) : ndK (keyN x) = x := by
  have h1 := h.1
  have h2 := h.2.1
  have h3 := h.2.2
  have h4 := h0.1
  unfold ndK keyN
  refine Prod.ext ?_ (Prod.ext ?_ ?_)
  · show ((x.1 * 7 + x.2.1) * 42 + x.2.2 + 1) / 294 = x.1
    omega
  · show ((x.1 * 7 + x.2.1) * 42 + x.2.2 + 1) / 42 % 7 = x.2.1
    omega
  · show ((x.1 * 7 + x.2.1) * 42 + x.2.2 + 1) % 42 - 1 = x.2.2
    omega
theorem keyN_b {x : Nd} (h : nd m x) (h0 : W0 m) : 0 ≤ keyN x ∧ keyN x < 18816 := by
  have h1 := h.1
  have h2 := h.2.1
  have h3 := h.2.2
  have h4 := h0.1
  unfold keyN
  omega
theorem keyN_ndK {k : Int} : keyN (ndK k) = k := by
  unfold keyN ndK
  show (k / 294 * 7 + k / 42 % 7) * 42 + (k % 42 - 1) + 1 = k
  omega
def goS1 (m : Int → Int) (k : Int) (S : SK) (p : Op) : SK := if myB m (ndK k) p = true then lieS S (keyN (stp m (ndK k) p)) (S.cs k + wgt m (ndK k) p) k p.1 p.2 else S
def goS (m : Int → Int) (S : SK) (k : Int) : SK := (sr m 0).foldl (goS1 m k) S
/-- what holds of the halves laid -/
def IS (m : Int → Int) (S : SK) : Prop := (∀ k, ¬ S.ls k = 0 → 0 ≤ k ∧ k < 18816 ∧ nd m (ndK k)) ∧ (∀ k, S.ls k = 0 ∨ S.ls k = 1) ∧ (∀ k, ¬ S.ls k = 0 → 0 ≤ S.cs k ∧ S.cs k ≤ 516 * pc (k / 294)) ∧ (∀ k, ¬ S.ls k = 0 → 0 ≤ S.md k ∧ S.md k ≤ S.mn) ∧ (∀ k j, ¬ S.ls k = 0 → ¬ S.ls j = 0 → S.md k = S.md j → k = j) ∧ (0 ≤ S.mg ∧ S.mg ≤ S.mn + 1) ∧ (∀ k, ¬ S.ls k = 0 → (S.fr k = -1 ∧ k = 0) ∨ (¬ S.ls (S.fr k) = 0 ∧ pc (S.fr k / 294) < pc (k / 294) ∧ (S.bs k, S.bo k) ∈ sr m 0 ∧ isOpt m (S.bo k) (S.bs k) = true))
theorem IS.rng {m : Int → Int} {S : SK} (h_ : IS m S) : ∀ k, ¬ S.ls k = 0 → 0 ≤ k ∧ k < 18816 ∧ nd m (ndK k) := h_.1
theorem IS.one {m : Int → Int} {S : SK} (h_ : IS m S) : ∀ k, S.ls k = 0 ∨ S.ls k = 1 := h_.2.1
theorem IS.cst {m : Int → Int} {S : SK} (h_ : IS m S) : ∀ k, ¬ S.ls k = 0 → 0 ≤ S.cs k ∧ S.cs k ≤ 516 * pc (k / 294) := h_.2.2.1
theorem IS.mad {m : Int → Int} {S : SK} (h_ : IS m S) : ∀ k, ¬ S.ls k = 0 → 0 ≤ S.md k ∧ S.md k ≤ S.mn := h_.2.2.2.1
theorem IS.dis {m : Int → Int} {S : SK} (h_ : IS m S) : ∀ k j, ¬ S.ls k = 0 → ¬ S.ls j = 0 → S.md k = S.md j → k = j := h_.2.2.2.2.1
theorem IS.mgb {m : Int → Int} {S : SK} (h_ : IS m S) : 0 ≤ S.mg ∧ S.mg ≤ S.mn + 1 := h_.2.2.2.2.2.1
theorem IS.par {m : Int → Int} {S : SK} (h_ : IS m S) : ∀ k, ¬ S.ls k = 0 → (S.fr k = -1 ∧ k = 0) ∨ (¬ S.ls (S.fr k) = 0 ∧ pc (S.fr k / 294) < pc (k / 294) ∧ (S.bs k, S.bo k) ∈ sr m 0 ∧ isOpt m (S.bo k) (S.bs k) = true) := h_.2.2.2.2.2.2
theorem IS.lie {S : SK} (h : IS m S) {k c by_ s o : Int} (hk : 0 ≤ k ∧ k < 18816 ∧ nd m (ndK k)) (hc : 0 ≤ c ∧ c ≤ 516 * pc (k / 294)) (hp : ¬ S.ls by_ = 0 ∧ pc (by_ / 294) < pc (k / 294) ∧ (s, o) ∈ sr m 0 ∧ isOpt m o s = true) : IS m (lieS S k c by_ s o) := by
  unfold lieS
  have hmg := h.mgb
  split
  · exact ⟨h.rng, h.one, h.cst, fun j hj => by have := h.mad j hj; exact ⟨this.1, by show S.md j ≤ S.mn + 1; omega⟩, h.dis, ⟨by show 0 ≤ S.mg + 1; omega, by show S.mg + 1 ≤ S.mn + 1 + 1; omega⟩, h.par⟩
  · have hls : ∀ j, ¬ up S.ls k 1 j = 0 → j = k ∨ ¬ j = k ∧ ¬ S.ls j = 0 := by
      intro j hj
      by_cases e : j = k
      · exact Or.inl e
      · rw [up_ne e] at hj
        exact Or.inr ⟨e, hj⟩
    have hne : ¬ by_ = k := fun e => by rw [e] at hp; omega
    refine ⟨fun j hj => ?_, fun j => ?_, fun j hj => ?_, fun j hj => ?_, fun i j hi hj e => ?_, ?_, fun j hj => ?_⟩
    · rcases hls j hj with rfl | ⟨e, q⟩
      · exact hk
      · exact h.rng j q
    · show up S.ls k 1 j = 0 ∨ up S.ls k 1 j = 1
      by_cases e : j = k
      · rw [e, up_at]; exact Or.inr rfl
      · rw [up_ne e]; exact h.one j
    · show 0 ≤ up S.cs k c j ∧ up S.cs k c j ≤ _
      rcases hls j hj with rfl | ⟨e, q⟩
      · rw [up_at]; exact hc
      · rw [up_ne e]; exact h.cst j q
    · show 0 ≤ up S.md k (S.mn + 1) j ∧ up S.md k (S.mn + 1) j ≤ S.mn + 1
      rcases hls j hj with rfl | ⟨e, q⟩
      · rw [up_at]; omega
      · rw [up_ne e]; have := h.mad j q; omega
    · have e' : up S.md k (S.mn + 1) i = up S.md k (S.mn + 1) j := e
      rcases hls i hi with rfl | ⟨ei, qi⟩
      · rcases hls j hj with rfl | ⟨ej, qj⟩
        · rfl
        · rw [up_at, up_ne ej] at e'
          have := h.mad j qj
          omega
      · rcases hls j hj with rfl | ⟨ej, qj⟩
        · rw [up_at, up_ne ei] at e'
          have := h.mad i qi
          omega
        · rw [up_ne ei, up_ne ej] at e'
          exact h.dis i j qi qj e'
    · show 0 ≤ S.mg + (if S.ls k = 0 then 0 else 1) ∧ S.mg + (if S.ls k = 0 then 0 else 1) ≤ S.mn + 1 + 1
      split <;> omega
    · show (up S.fr k by_ j = -1 ∧ j = 0) ∨ (¬ up S.ls k 1 (up S.fr k by_ j) = 0 ∧ pc (up S.fr k by_ j / 294) < pc (j / 294) ∧ (up S.bs k s j, up S.bo k o j) ∈ sr m 0 ∧ isOpt m (up S.bo k o j) (up S.bs k s j) = true)
      rcases hls j hj with rfl | ⟨e, q⟩
      · right
        rw [up_at, up_at, up_at, up_ne hne]
        exact hp
      · rw [up_ne e, up_ne e, up_ne e]
        rcases h.par j q with h1 | ⟨h1, h2, h3, h4⟩
        · exact Or.inl h1
        · right
          refine ⟨?_, h2, h3, h4⟩
          by_cases e2 : S.fr j = k
          · rw [e2, up_at]; decide
          · rw [up_ne e2]; exact h1
theorem lieS_mn {S : SK} {k c by_ s o : Int} : (lieS S k c by_ s o).mn = S.mn + 1 := by
  unfold lieS
  split <;> rfl
/-- a half elsewhere stays as it is -/
theorem lieS_ne {S : SK} {k c by_ s o j : Int} (h : ¬ j = k) : (lieS S k c by_ s o).ls j = S.ls j ∧ (lieS S k c by_ s o).cs j = S.cs j ∧ (lieS S k c by_ s o).md j = S.md j ∧ (lieS S k c by_ s o).fr j = S.fr j ∧ (lieS S k c by_ s o).bs j = S.bs j ∧ (lieS S k c by_ s o).bo j = S.bo j := by
  unfold lieS
  split
  · exact ⟨rfl, rfl, rfl, rfl, rfl, rfl⟩
  · exact ⟨up_ne h, up_ne h, up_ne h, up_ne h, up_ne h, up_ne h⟩
/-- going on touches only halves that cover more -/
theorem goS1_keep {S : SK} {k : Int} {p : Op} (hW : WF m) (hk : nd m (ndK k)) (hp : p ∈ sr m 0) {j : Int} (hj : pc (j / 294) ≤ pc (k / 294)) : (goS1 m k S p).ls j = S.ls j ∧ (goS1 m k S p).cs j = S.cs j ∧ (goS1 m k S p).md j = S.md j ∧ (goS1 m k S p).fr j = S.fr j ∧ (goS1 m k S p).bs j = S.bs j ∧ (goS1 m k S p).bo j = S.bo j := by
  unfold goS1
  by_cases c : myB m (ndK k) p = true
  · rw [if_pos c]
    have hs := stp_nd hW hk hp c
    refine lieS_ne (fun e => ?_)
    have e2 := ndK_keyN hs.1 hW.1
    rw [← e] at e2
    have e3 : j / 294 = (stp m (ndK k) p).1 := by rw [← e2]; rfl
    have h4 := hs.2.2.1
    rw [← e3] at h4
    have h5 : pc (k / 294) < pc (j / 294) := h4
    omega
  · rw [if_neg c]
    exact ⟨rfl, rfl, rfl, rfl, rfl, rfl⟩
theorem goS1_IS {S : SK} {k : Int} {p : Op} (hW : WF m) (h : IS m S) (hk : ¬ S.ls k = 0) (hp : p ∈ sr m 0) : IS m (goS1 m k S p) ∧ S.mn ≤ (goS1 m k S p).mn ∧ (goS1 m k S p).mn ≤ S.mn + 1 := by
  unfold goS1
  have hr := h.rng k hk
  by_cases c : myB m (ndK k) p = true
  · rw [if_pos c]
    have hs := stp_nd hW hr.2.2 hp c
    have hb := keyN_b hs.1 hW.1
    have e2 := ndK_keyN hs.1 hW.1
    have hc := h.cst k hk
    have hw := hs.2.2.2.2
    have e3 : keyN (stp m (ndK k) p) / 294 = (stp m (ndK k) p).1 := by
      have : (ndK (keyN (stp m (ndK k) p))).1 = (stp m (ndK k) p).1 := by rw [e2]
      exact this
    have h4 : pc (k / 294) < pc (stp m (ndK k) p).1 := hs.2.2.1
    refine ⟨h.lie ⟨hb.1, hb.2, by rw [e2]; exact hs.1⟩ ⟨by omega, by rw [e3]; omega⟩ ⟨hk, by rw [e3]; exact h4, hp, (mayB_s c).2.1⟩, ?_, ?_⟩
    · rw [lieS_mn]; omega
    · rw [lieS_mn]; omega
  · rw [if_neg c]
    exact ⟨h, Int.le_refl _, by omega⟩
theorem goSf_IS {k : Int} (hW : WF m) : ∀ (l : List Op) (S : SK), (∀ p ∈ l, p ∈ sr m 0) → IS m S → ¬ S.ls k = 0 → IS m (l.foldl (goS1 m k) S) ∧ (∀ j, pc (j / 294) ≤ pc (k / 294) → (l.foldl (goS1 m k) S).ls j = S.ls j ∧ (l.foldl (goS1 m k) S).cs j = S.cs j ∧ (l.foldl (goS1 m k) S).md j = S.md j ∧ (l.foldl (goS1 m k) S).fr j = S.fr j ∧ (l.foldl (goS1 m k) S).bs j = S.bs j ∧ (l.foldl (goS1 m k) S).bo j = S.bo j) ∧ S.mn ≤ (l.foldl (goS1 m k) S).mn ∧ (l.foldl (goS1 m k) S).mn ≤ S.mn + l.length
  | [], S, _, h, _ => ⟨h, fun j _ => ⟨rfl, rfl, rfl, rfl, rfl, rfl⟩, Int.le_refl _, by show S.mn ≤ S.mn + ((0 : Nat) : Int); omega⟩
  | p :: l, S, hl, h, hk => by
    have hp := hl p (List.mem_cons_self ..)
    have h1 := goS1_IS hW h hk hp
    have hr := (h.rng k hk).2.2
    have h2 := fun j hj => goS1_keep (S := S) hW hr hp (j := j) hj
    have hk' : ¬ (goS1 m k S p).ls k = 0 := by rw [(h2 k (Nat.le_refl _)).1]; exact hk
    have h3 := goSf_IS hW l (goS1 m k S p) (fun q hq => hl q (List.mem_cons_of_mem _ hq)) h1.1 hk'
    rw [List.foldl_cons, List.length_cons]
    refine ⟨h3.1, fun j hj => ?_, by omega, by omega⟩
    have a := h3.2.1 j hj
    have b := h2 j hj
    exact ⟨a.1.trans b.1, a.2.1.trans b.2.1, a.2.2.1.trans b.2.2.1, a.2.2.2.1.trans b.2.2.2.1, a.2.2.2.2.1.trans b.2.2.2.2.1, a.2.2.2.2.2.trans b.2.2.2.2.2⟩
theorem sr_len (h0 : W0 m) : (sr m 0).length ≤ 186 := by
  have h1 := h0.2.1
  have h3 := h0.2.2.2.1
  have key : ∀ (n : Nat) (s : Int), s + n = m 3 → (sr m s).length ≤ 31 * n := by
    intro n
    induction n with
    | zero => intro s hs; rw [sr_end (by omega)]; exact Nat.le_refl _
    | succ n ih =>
      intro s hs
      have e : sr m s = soS m s ++ sr m (s + 1) := by
        unfold sr
        rw [ir_cons (by omega), List.flatMap_cons]
      have := ih (s + 1) (by omega)
      rw [e, List.length_append]
      unfold soS
      rw [List.length_append, List.length_map, ir_length, List.length_singleton]
      omega
  have := key (m 3).toNat 0 (by omega)
  omega
/-- the stack of those that cover n places -/
def cand (m : Int → Int) (S : SK) (n : Int) : List Int := (ir 0 (294 * (fullM m + 1))).filter (fun k => decide ((pc (k / 294) : Int) = n) && decide (¬ S.ls k = 0))
def sco (m : Int → Int) (S : SK) (k : Int) : Int := S.cs k + ahM m (k / 294)
def rkS (m : Int → Int) (S : SK) (k : Int) : Int := sco m S k * 4294967296 + S.md k
def lowM (m : Int → Int) (S : SK) (n : Int) : Int := (cand m S n).foldl (fun b k => if b = -1 ∨ sco m S k < b then sco m S k else b) (-1)
def topM (m : Int → Int) (S : SK) (n w : Int) : List Int := (srt (rkS m S) (cand m S n)).take w.toNat
/-- after n stacks -/
abbrev SR_ : Type := (SK) × (Int)
abbrev SR_.S (x_ : SR_) : SK := x_.1
abbrev SR_.cut (x_ : SR_) : Int := x_.2
def emptyS : SK := (fun _ => 0, fun _ => 0, fun _ => 0, fun _ => 0, fun _ => 0, fun _ => 0, -1, 0)
def stage (m : Int → Int) (w : Int) (R : SR_) (n : Int) : SR_ := ((topM m R.S n w).foldl (goS m) R.S, R.cut + ((cand m R.S n).length - (topM m R.S n w).length))
def stk0 : SR_ := (lieS emptyS 0 0 (-1) (-1) (-1), 0)
/-- after the stacks ahead of n -/
def stkN (m : Int → Int) (w : Int) (n : Int) : SR_ := (ir 0 n).foldl (stage m w) stk0
theorem mem_cand {S : SK} {n k : Int} : k ∈ cand m S n ↔ (0 ≤ k ∧ k < 294 * (fullM m + 1)) ∧ (pc (k / 294) : Int) = n ∧ ¬ S.ls k = 0 := by
  unfold cand
  rw [List.mem_filter, mem_ir, Bool.and_eq_true, decide_eq_true_eq, decide_eq_true_eq]
theorem ir_nodup {a b : Int} : (ir a b).Pairwise (fun x y => x < y) := by
  unfold ir
  rw [List.pairwise_map]
  refine List.Pairwise.imp ?_ List.pairwise_lt_range
  intro x y h
  omega
theorem rkS_ne {S : SK} (h : IS m S) (hW : WF m) (hb : S.mn < 4294967296) {k j : Int} (hk : ¬ S.ls k = 0) (hj : ¬ S.ls j = 0) (hne : k ≠ j) : rkS m S k ≠ rkS m S j := by
  intro e
  have h1 := h.mad k hk
  have h2 := h.mad j hj
  unfold rkS at e
  have : S.md k = S.md j := by omega
  exact hne (h.dis k j hk hj this)
theorem cand_up {S : SK} (h : IS m S) (hW : WF m) (hb : S.mn < 4294967296) {n : Int} : Up (rkS m S) (srt (rkS m S) (cand m S n)) := by
  refine up_srt ?_
  unfold cand
  refine List.Pairwise.imp_of_mem ?_ (List.Pairwise.filter _ ir_nodup)
  intro a b ha hb' hab
  exact rkS_ne h hW hb (mem_cand.mp ha).2.2 (mem_cand.mp hb').2.2 (by omega)
end SKs
