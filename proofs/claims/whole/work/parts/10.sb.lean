section SB
def Qb (g : AG) (ad : Nat → Nat) (Q : AO → SG → Prop) : AO → va_W → Prop := fun o ws => ∃ σ, ws = lay g ad σ ∧ Q o σ
def Wb (g : AG) (ad : Nat → Nat) (d : Nat) (M : AM) (Q : AO → SG → Prop) (pc : Nat) (L : List (Option Value)) (st : List Value) (σ : SG) (rc rs : Nat) : Prop := Wp g d M (Qb g ad Q) pc L st (lay g ad σ) rc rs
def Eb (g : AG) (ad : Nat → Nat) (d : Nat) (M : AM) (mc ms : Nat) (as : List Value) (σ : SG) (Q : AO → SG → Prop) : Prop := Ev g d M mc ms as (lay g ad σ) (Qb g ad Q)
def iR (z : Int) : Prop := -2147483648 ≤ z ∧ z < 2147483648
theorem iR_ofInt {z : Int} (h : iR z) : (Int32.ofInt z).toInt = z := Int32.toInt_ofInt_of_le h.1 h.2
theorem i_lt {a b : Int} (ha : iR a) (hb : iR b) : Int32.ofInt a < Int32.ofInt b ↔ a < b := by rw [Int32.lt_iff_toInt_lt, iR_ofInt ha, iR_ofInt hb]
theorem i_le {a b : Int} (ha : iR a) (hb : iR b) : Int32.ofInt a ≤ Int32.ofInt b ↔ a ≤ b := by rw [Int32.le_iff_toInt_le, iR_ofInt ha, iR_ofInt hb]
theorem i_eq {a b : Int} (ha : iR a) (hb : iR b) : Int32.ofInt a = Int32.ofInt b ↔ a = b := by rw [← Int32.toInt_inj, iR_ofInt ha, iR_ofInt hb]
theorem iR_0 : iR 0 := ⟨by decide, by decide⟩
theorem i_in {i : Int} {n : Nat} (h0 : 0 ≤ i) (h1 : i < n) (hn : n < 2147483648) : vp_in (Int32.ofInt i) n ∧ (Int32.ofInt i).toNatClampNeg = i.toNat := by
  have hr : iR i := ⟨by omega, by omega⟩
  have e : (Int32.ofInt i).toNatClampNeg = i.toNat := by
    show (Int32.ofInt i).toInt.toNat = i.toNat
    rw [iR_ofInt hr]
  refine ⟨?_, e⟩
  rintro (h | h)
  · have := (i_lt hr iR_0).mp h
    omega
  · rw [e] at h
    omega
def bAnd (a b : Int) : Int := (Int32.ofInt a &&& Int32.ofInt b).toInt
def bOr (a b : Int) : Int := (Int32.ofInt a ||| Int32.ofInt b).toInt
def bXor (a b : Int) : Int := (Int32.ofInt a ^^^ Int32.ofInt b).toInt
def bShl (a b : Int) : Int := (Int32.ofInt a <<< (Int32.ofInt b &&& 31)).toInt
def bShr (a b : Int) : Int := (Int32.ofInt a >>> (Int32.ofInt b &&& 31)).toInt
def bUshr (a b : Int) : Int := ((Int32.ofInt a).toUInt32 >>> ((Int32.ofInt b).toUInt32 &&& Int32.toUInt32 31)).toInt32.toInt
def bDiv (a b : Int) : Int := (Int32.ofInt a / Int32.ofInt b).toInt
def bRem (a b : Int) : Int := (Int32.ofInt a - Int32.ofInt a / Int32.ofInt b * Int32.ofInt b).toInt
def lAnd (a b : Int) : Int := (Int64.ofInt a &&& Int64.ofInt b).toInt
def lOr (a b : Int) : Int := (Int64.ofInt a ||| Int64.ofInt b).toInt
def lShl (a b : Int) : Int := (Int64.ofInt a <<< ((Int32.ofInt b).toInt64 &&& 63)).toInt
def lUshr (a b : Int) : Int := ((Int64.ofInt a).toUInt64 >>> ((Int32.ofInt b).toInt64.toUInt64 &&& Int64.toUInt64 63)).toInt64.toInt
def lCmp (a b : Int) : Int := (lg_cmp (Int64.ofInt a) (Int64.ofInt b)).toInt
theorem oI (x : Int32) : Int32.ofInt x.toInt = x := Int32.ofInt_toInt x
theorem oL (x : Int64) : Int64.ofInt x.toInt = x := Int64.ofInt_toInt x
theorem Wb.eq {g : AG} {ad : Nat → Nat} {d : Nat} {M : AM} {Q : AO → SG → Prop} {pc : Nat} {L : List (Option Value)} {st st' : List Value} {σ : SG} {rc rs : Nat} (h : st = st') (k : Wb g ad d M Q pc L st' σ rc rs) : Wb g ad d M Q pc L st σ rc rs := h ▸ k
theorem sb_iadd {g : AG} {ad : Nat → Nat} {d : Nat} {M : AM} {Q : AO → SG → Prop} {pc : Nat} {L : List (Option Value)} {st : List Value} {σ : SG} {rc rs : Nat} {pc' : Nat} (hp : pc + 1 = pc') {a b : Int}  (dd : decode (am_c M) pc = .ok (.iadd, 1)) (kk : Wb g ad d M Q pc' L (vi (a + b) :: st) σ rc rs) : Wb g ad d M Q pc L (vi b :: vi a :: st) σ rc rs :=
  st_iadd hp  dd (Wb.eq (st' := vi (a + b) :: st) (by rw [vi, Int32.ofInt_add]) kk)
theorem sb_isub {g : AG} {ad : Nat → Nat} {d : Nat} {M : AM} {Q : AO → SG → Prop} {pc : Nat} {L : List (Option Value)} {st : List Value} {σ : SG} {rc rs : Nat} {pc' : Nat} (hp : pc + 1 = pc') {a b : Int}  (dd : decode (am_c M) pc = .ok (.isub, 1)) (kk : Wb g ad d M Q pc' L (vi (a - b) :: st) σ rc rs) : Wb g ad d M Q pc L (vi b :: vi a :: st) σ rc rs :=
  st_isub hp  dd (Wb.eq (st' := vi (a - b) :: st) (by rw [vi, Int32.ofInt_sub]) kk)
theorem sb_imul {g : AG} {ad : Nat → Nat} {d : Nat} {M : AM} {Q : AO → SG → Prop} {pc : Nat} {L : List (Option Value)} {st : List Value} {σ : SG} {rc rs : Nat} {pc' : Nat} (hp : pc + 1 = pc') {a b : Int}  (dd : decode (am_c M) pc = .ok (.imul, 1)) (kk : Wb g ad d M Q pc' L (vi (a * b) :: st) σ rc rs) : Wb g ad d M Q pc L (vi b :: vi a :: st) σ rc rs :=
  st_imul hp  dd (Wb.eq (st' := vi (a * b) :: st) (by rw [vi, Int32.ofInt_mul]) kk)
theorem sb_iand {g : AG} {ad : Nat → Nat} {d : Nat} {M : AM} {Q : AO → SG → Prop} {pc : Nat} {L : List (Option Value)} {st : List Value} {σ : SG} {rc rs : Nat} {pc' : Nat} (hp : pc + 1 = pc') {a b : Int}  (dd : decode (am_c M) pc = .ok (.iand, 1)) (kk : Wb g ad d M Q pc' L (vi (bAnd a b) :: st) σ rc rs) : Wb g ad d M Q pc L (vi b :: vi a :: st) σ rc rs :=
  st_iand hp  dd (Wb.eq (st' := vi (bAnd a b) :: st) (by rw [vi, bAnd, oI]) kk)
theorem sb_ior {g : AG} {ad : Nat → Nat} {d : Nat} {M : AM} {Q : AO → SG → Prop} {pc : Nat} {L : List (Option Value)} {st : List Value} {σ : SG} {rc rs : Nat} {pc' : Nat} (hp : pc + 1 = pc') {a b : Int}  (dd : decode (am_c M) pc = .ok (.ior, 1)) (kk : Wb g ad d M Q pc' L (vi (bOr a b) :: st) σ rc rs) : Wb g ad d M Q pc L (vi b :: vi a :: st) σ rc rs :=
  st_ior hp  dd (Wb.eq (st' := vi (bOr a b) :: st) (by rw [vi, bOr, oI]) kk)
theorem sb_ixor {g : AG} {ad : Nat → Nat} {d : Nat} {M : AM} {Q : AO → SG → Prop} {pc : Nat} {L : List (Option Value)} {st : List Value} {σ : SG} {rc rs : Nat} {pc' : Nat} (hp : pc + 1 = pc') {a b : Int}  (dd : decode (am_c M) pc = .ok (.ixor, 1)) (kk : Wb g ad d M Q pc' L (vi (bXor a b) :: st) σ rc rs) : Wb g ad d M Q pc L (vi b :: vi a :: st) σ rc rs :=
  st_ixor hp  dd (Wb.eq (st' := vi (bXor a b) :: st) (by rw [vi, bXor, oI]) kk)
theorem sb_ishl {g : AG} {ad : Nat → Nat} {d : Nat} {M : AM} {Q : AO → SG → Prop} {pc : Nat} {L : List (Option Value)} {st : List Value} {σ : SG} {rc rs : Nat} {pc' : Nat} (hp : pc + 1 = pc') {a b : Int}  (dd : decode (am_c M) pc = .ok (.ishl, 1)) (kk : Wb g ad d M Q pc' L (vi (bShl a b) :: st) σ rc rs) : Wb g ad d M Q pc L (vi b :: vi a :: st) σ rc rs :=
  st_ishl hp  dd (Wb.eq (st' := vi (bShl a b) :: st) (by rw [vi, bShl, oI]) kk)
theorem sb_ishr {g : AG} {ad : Nat → Nat} {d : Nat} {M : AM} {Q : AO → SG → Prop} {pc : Nat} {L : List (Option Value)} {st : List Value} {σ : SG} {rc rs : Nat} {pc' : Nat} (hp : pc + 1 = pc') {a b : Int}  (dd : decode (am_c M) pc = .ok (.ishr, 1)) (kk : Wb g ad d M Q pc' L (vi (bShr a b) :: st) σ rc rs) : Wb g ad d M Q pc L (vi b :: vi a :: st) σ rc rs :=
  st_ishr hp  dd (Wb.eq (st' := vi (bShr a b) :: st) (by rw [vi, bShr, oI]) kk)
theorem sb_iushr {g : AG} {ad : Nat → Nat} {d : Nat} {M : AM} {Q : AO → SG → Prop} {pc : Nat} {L : List (Option Value)} {st : List Value} {σ : SG} {rc rs : Nat} {pc' : Nat} (hp : pc + 1 = pc') {a b : Int}  (dd : decode (am_c M) pc = .ok (.iushr, 1)) (kk : Wb g ad d M Q pc' L (vi (bUshr a b) :: st) σ rc rs) : Wb g ad d M Q pc L (vi b :: vi a :: st) σ rc rs :=
  st_iushr hp  dd (Wb.eq (st' := vi (bUshr a b) :: st) (by rw [vi, bUshr, oI]) kk)
theorem sb_idiv {g : AG} {ad : Nat → Nat} {d : Nat} {M : AM} {Q : AO → SG → Prop} {pc : Nat} {L : List (Option Value)} {st : List Value} {σ : SG} {rc rs : Nat} {pc' : Nat} (hp : pc + 1 = pc') {a b : Int} (hr : iR b) (hne : ¬ b = 0) (dd : decode (am_c M) pc = .ok (.idiv, 1)) (kk : Wb g ad d M Q pc' L (vi (bDiv a b) :: st) σ rc rs) : Wb g ad d M Q pc L (vi b :: vi a :: st) σ rc rs :=
  st_idiv hp (fun q => hne ((i_eq hr iR_0).mp q)) dd (Wb.eq (st' := vi (bDiv a b) :: st) (by rw [vi, bDiv, oI]) kk)
theorem sb_irem {g : AG} {ad : Nat → Nat} {d : Nat} {M : AM} {Q : AO → SG → Prop} {pc : Nat} {L : List (Option Value)} {st : List Value} {σ : SG} {rc rs : Nat} {pc' : Nat} (hp : pc + 1 = pc') {a b : Int} (hr : iR b) (hne : ¬ b = 0) (dd : decode (am_c M) pc = .ok (.irem, 1)) (kk : Wb g ad d M Q pc' L (vi (bRem a b) :: st) σ rc rs) : Wb g ad d M Q pc L (vi b :: vi a :: st) σ rc rs :=
  st_irem hp (fun q => hne ((i_eq hr iR_0).mp q)) dd (Wb.eq (st' := vi (bRem a b) :: st) (by rw [vi, bRem, oI]) kk)
theorem sb_ladd {g : AG} {ad : Nat → Nat} {d : Nat} {M : AM} {Q : AO → SG → Prop} {pc : Nat} {L : List (Option Value)} {st : List Value} {σ : SG} {rc rs : Nat} {pc' : Nat} (hp : pc + 1 = pc') {a b : Int} (dd : decode (am_c M) pc = .ok (.ladd, 1)) (kk : Wb g ad d M Q pc' L (vl (a + b) :: st) σ rc rs) : Wb g ad d M Q pc L (vl b :: vl a :: st) σ rc rs :=
  st_ladd hp dd (Wb.eq (st' := vl (a + b) :: st) (by rw [vl, Int64.ofInt_add]) kk)
theorem sb_land {g : AG} {ad : Nat → Nat} {d : Nat} {M : AM} {Q : AO → SG → Prop} {pc : Nat} {L : List (Option Value)} {st : List Value} {σ : SG} {rc rs : Nat} {pc' : Nat} (hp : pc + 1 = pc') {a b : Int} (dd : decode (am_c M) pc = .ok (.land, 1)) (kk : Wb g ad d M Q pc' L (vl (lAnd a b) :: st) σ rc rs) : Wb g ad d M Q pc L (vl b :: vl a :: st) σ rc rs :=
  st_land hp dd (Wb.eq (st' := vl (lAnd a b) :: st) (by rw [vl, lAnd, oL]) kk)
theorem sb_lor {g : AG} {ad : Nat → Nat} {d : Nat} {M : AM} {Q : AO → SG → Prop} {pc : Nat} {L : List (Option Value)} {st : List Value} {σ : SG} {rc rs : Nat} {pc' : Nat} (hp : pc + 1 = pc') {a b : Int} (dd : decode (am_c M) pc = .ok (.lor, 1)) (kk : Wb g ad d M Q pc' L (vl (lOr a b) :: st) σ rc rs) : Wb g ad d M Q pc L (vl b :: vl a :: st) σ rc rs :=
  st_lor hp dd (Wb.eq (st' := vl (lOr a b) :: st) (by rw [vl, lOr, oL]) kk)
theorem sb_lshl {g : AG} {ad : Nat → Nat} {d : Nat} {M : AM} {Q : AO → SG → Prop} {pc : Nat} {L : List (Option Value)} {st : List Value} {σ : SG} {rc rs : Nat} {pc' : Nat} (hp : pc + 1 = pc') {a b : Int} (dd : decode (am_c M) pc = .ok (.lshl, 1)) (kk : Wb g ad d M Q pc' L (vl (lShl a b) :: st) σ rc rs) : Wb g ad d M Q pc L (vi b :: vl a :: st) σ rc rs :=
  st_lshl hp dd (Wb.eq (st' := vl (lShl a b) :: st) (by rw [vl, lShl, oL]) kk)
theorem sb_lushr {g : AG} {ad : Nat → Nat} {d : Nat} {M : AM} {Q : AO → SG → Prop} {pc : Nat} {L : List (Option Value)} {st : List Value} {σ : SG} {rc rs : Nat} {pc' : Nat} (hp : pc + 1 = pc') {a b : Int} (dd : decode (am_c M) pc = .ok (.lushr, 1)) (kk : Wb g ad d M Q pc' L (vl (lUshr a b) :: st) σ rc rs) : Wb g ad d M Q pc L (vi b :: vl a :: st) σ rc rs :=
  st_lushr hp dd (Wb.eq (st' := vl (lUshr a b) :: st) (by rw [vl, lUshr, oL]) kk)
theorem sb_lcmp {g : AG} {ad : Nat → Nat} {d : Nat} {M : AM} {Q : AO → SG → Prop} {pc : Nat} {L : List (Option Value)} {st : List Value} {σ : SG} {rc rs : Nat} {pc' : Nat} (hp : pc + 1 = pc') {a b : Int} (dd : decode (am_c M) pc = .ok (.lcmp, 1)) (kk : Wb g ad d M Q pc' L (vi (lCmp a b) :: st) σ rc rs) : Wb g ad d M Q pc L (vl b :: vl a :: st) σ rc rs :=
  st_lcmp hp dd (Wb.eq (st' := vi (lCmp a b) :: st) (by rw [vi, lCmp, oI]) kk)
theorem i2l_eq {a : Int} (h : iR a) : (Int32.ofInt a).toInt64 = Int64.ofInt a := by
  rw [← Int64.toInt_inj, Int32.toInt_toInt64, iR_ofInt h, Int64.toInt_ofInt_of_le (by have := h.1; omega) (by have := h.2; omega)]
theorem l2i_eq {a : Int} : (Int64.ofInt a).toInt32 = Int32.ofInt a := by
  rw [← Int32.toInt_inj, Int64.toInt_toInt32, Int64.toInt_ofInt, Int32.toInt_ofInt]
  exact Int.bmod_bmod_of_dvd (by decide)
theorem sb_i2l {g : AG} {ad : Nat → Nat} {d : Nat} {M : AM} {Q : AO → SG → Prop} {pc : Nat} {L : List (Option Value)} {st : List Value} {σ : SG} {rc rs : Nat} {pc' : Nat} (hp : pc + 1 = pc') {a : Int} (h : iR a) (dd : decode (am_c M) pc = .ok (.i2l, 1)) (kk : Wb g ad d M Q pc' L (vl a :: st) σ rc rs) : Wb g ad d M Q pc L (vi a :: st) σ rc rs :=
  st_i2l hp dd (Wb.eq (st' := vl a :: st) (by rw [vl, i2l_eq h]) kk)
theorem sb_l2i {g : AG} {ad : Nat → Nat} {d : Nat} {M : AM} {Q : AO → SG → Prop} {pc : Nat} {L : List (Option Value)} {st : List Value} {σ : SG} {rc rs : Nat} {pc' : Nat} (hp : pc + 1 = pc') {a : Int} (dd : decode (am_c M) pc = .ok (.l2i, 1)) (kk : Wb g ad d M Q pc' L (vi a :: st) σ rc rs) : Wb g ad d M Q pc L (vl a :: st) σ rc rs :=
  st_l2i hp dd (Wb.eq (st' := vi a :: st) (by rw [vi, l2i_eq]) kk)
theorem sb_iconst {g : AG} {ad : Nat → Nat} {d : Nat} {M : AM} {Q : AO → SG → Prop} {pc : Nat} {L : List (Option Value)} {st : List Value} {σ : SG} {rc rs : Nat} {pc' : Nat} (hp : pc + 1 = pc') {z : Int}  (dd : decode (am_c M) pc = .ok (.iconst z, 1)) (kk : Wb g ad d M Q pc' L (vi z :: st) σ rc rs) : Wb g ad d M Q pc L st σ rc rs := st_iconst hp rfl dd kk
theorem sb_bipush {g : AG} {ad : Nat → Nat} {d : Nat} {M : AM} {Q : AO → SG → Prop} {pc : Nat} {L : List (Option Value)} {st : List Value} {σ : SG} {rc rs : Nat} {pc' : Nat} (hp : pc + 2 = pc') {n z : Int} (hv : (Int8.ofInt n).toInt32 = Int32.ofInt z) (dd : decode (am_c M) pc = .ok (.bipush n, 2)) (kk : Wb g ad d M Q pc' L (vi z :: st) σ rc rs) : Wb g ad d M Q pc L st σ rc rs := st_bipush hp hv dd kk
theorem sb_sipush {g : AG} {ad : Nat → Nat} {d : Nat} {M : AM} {Q : AO → SG → Prop} {pc : Nat} {L : List (Option Value)} {st : List Value} {σ : SG} {rc rs : Nat} {pc' : Nat} (hp : pc + 3 = pc') {n z : Int} (hv : (Int16.ofInt n).toInt32 = Int32.ofInt z) (dd : decode (am_c M) pc = .ok (.sipush n, 3)) (kk : Wb g ad d M Q pc' L (vi z :: st) σ rc rs) : Wb g ad d M Q pc L st σ rc rs := st_sipush hp hv dd kk
theorem sb_lconst {g : AG} {ad : Nat → Nat} {d : Nat} {M : AM} {Q : AO → SG → Prop} {pc : Nat} {L : List (Option Value)} {st : List Value} {σ : SG} {rc rs : Nat} {pc' : Nat} (hp : pc + 1 = pc') {n : Fin 2} {z : Int} (hv : Int64.ofNat (n : Nat) = Int64.ofInt z) (dd : decode (am_c M) pc = .ok (.lconst n, 1)) (kk : Wb g ad d M Q pc' L (vl z :: st) σ rc rs) : Wb g ad d M Q pc L st σ rc rs := st_lconst hp hv dd kk
theorem sb_ldc {g : AG} {ad : Nat → Nat} {d : Nat} {M : AM} {Q : AO → SG → Prop} {pc : Nat} {L : List (Option Value)} {st : List Value} {σ : SG} {rc rs : Nat} {pc' : Nat} (hp : pc + 2 = pc') {index : Nat} {z : Int} {v : Int32} (hv : v = Int32.ofInt z) (hw : Cond.constant (am_y M).cls index v ∈ lw_tbl) (dd : decode (am_c M) pc = .ok (.ldc index, 2)) (kk : Wb g ad d M Q pc' L (vi z :: st) σ rc rs) : Wb g ad d M Q pc L st σ rc rs := st_ldc hp hw dd (hv ▸ kk)
theorem sb_ldcw {g : AG} {ad : Nat → Nat} {d : Nat} {M : AM} {Q : AO → SG → Prop} {pc : Nat} {L : List (Option Value)} {st : List Value} {σ : SG} {rc rs : Nat} {pc' : Nat} (hp : pc + 3 = pc') {index : Nat} {z : Int} {v : Int32} (hv : v = Int32.ofInt z) (hw : Cond.constant (am_y M).cls index v ∈ lw_tbl) (dd : decode (am_c M) pc = .ok (.ldc_w index, 3)) (kk : Wb g ad d M Q pc' L (vi z :: st) σ rc rs) : Wb g ad d M Q pc L st σ rc rs := st_ldcw hp hw dd (hv ▸ kk)
theorem sb_ldc2 {g : AG} {ad : Nat → Nat} {d : Nat} {M : AM} {Q : AO → SG → Prop} {pc : Nat} {L : List (Option Value)} {st : List Value} {σ : SG} {rc rs : Nat} {pc' : Nat} (hp : pc + 3 = pc') {index : Nat} {z : Int} {v : Int64} (hv : v = Int64.ofInt z) (hw : Cond.constantLong (am_y M).cls index v ∈ lw_tbl) (dd : decode (am_c M) pc = .ok (.ldc2_w index, 3)) (kk : Wb g ad d M Q pc' L (vl z :: st) σ rc rs) : Wb g ad d M Q pc L st σ rc rs := st_ldc2 hp hw dd (hv ▸ kk)
theorem sb_dup {g : AG} {ad : Nat → Nat} {d : Nat} {M : AM} {Q : AO → SG → Prop} {pc : Nat} {L : List (Option Value)} {st : List Value} {σ : SG} {rc rs : Nat} {pc' : Nat} (hp : pc + 1 = pc') {va : Value} (hva : va.category = 1) (dd : decode (am_c M) pc = .ok (.dup, 1)) (kk : Wb g ad d M Q pc' L (va :: va :: st) σ rc rs) : Wb g ad d M Q pc L (va :: st) σ rc rs := st_dup hp hva dd kk
theorem sb_pop {g : AG} {ad : Nat → Nat} {d : Nat} {M : AM} {Q : AO → SG → Prop} {pc : Nat} {L : List (Option Value)} {st : List Value} {σ : SG} {rc rs : Nat} {pc' : Nat} (hp : pc + 1 = pc') {va : Value} (hva : va.category = 1) (dd : decode (am_c M) pc = .ok (.pop, 1)) (kk : Wb g ad d M Q pc' L (st) σ rc rs) : Wb g ad d M Q pc L (va :: st) σ rc rs := st_pop hp hva dd kk
theorem sb_dup2 {g : AG} {ad : Nat → Nat} {d : Nat} {M : AM} {Q : AO → SG → Prop} {pc : Nat} {L : List (Option Value)} {st : List Value} {σ : SG} {rc rs : Nat} {pc' : Nat} (hp : pc + 1 = pc') {va vb : Value} (hva : va.category = 1) (hvb : vb.category = 1) (dd : decode (am_c M) pc = .ok (.dup2, 1)) (kk : Wb g ad d M Q pc' L (va :: vb :: va :: vb :: st) σ rc rs) : Wb g ad d M Q pc L (va :: vb :: st) σ rc rs := st_dup2 hp hva hvb dd kk
theorem sb_iload {g : AG} {ad : Nat → Nat} {d : Nat} {M : AM} {Q : AO → SG → Prop} {pc : Nat} {L : List (Option Value)} {st : List Value} {σ : SG} {rc rs : Nat} {pc' : Nat} (hp : pc + 2 = pc') {i : Nat} {x : Int} (hi : L[i]? = some (some (vi x))) (dd : decode (am_c M) pc = .ok (.iload i, 2)) (kk : Wb g ad d M Q pc' L (vi x :: st) σ rc rs) : Wb g ad d M Q pc L st σ rc rs := st_iload hp hi dd kk
theorem sb_iload_n {g : AG} {ad : Nat → Nat} {d : Nat} {M : AM} {Q : AO → SG → Prop} {pc : Nat} {L : List (Option Value)} {st : List Value} {σ : SG} {rc rs : Nat} {pc' : Nat} (hp : pc + 1 = pc') {k : Fin 4} {x : Int} (hi : L[(k : Nat)]? = some (some (vi x))) (dd : decode (am_c M) pc = .ok (.iload_n k, 1)) (kk : Wb g ad d M Q pc' L (vi x :: st) σ rc rs) : Wb g ad d M Q pc L st σ rc rs := st_iload_n hp hi dd kk
theorem sb_aload {g : AG} {ad : Nat → Nat} {d : Nat} {M : AM} {Q : AO → SG → Prop} {pc : Nat} {L : List (Option Value)} {st : List Value} {σ : SG} {rc rs : Nat} {pc' : Nat} (hp : pc + 2 = pc') {i : Nat} {x : Nat} (hi : L[i]? = some (some (.ref x))) (dd : decode (am_c M) pc = .ok (.aload i, 2)) (kk : Wb g ad d M Q pc' L (.ref x :: st) σ rc rs) : Wb g ad d M Q pc L st σ rc rs := st_aload hp hi dd kk
theorem sb_aload_n {g : AG} {ad : Nat → Nat} {d : Nat} {M : AM} {Q : AO → SG → Prop} {pc : Nat} {L : List (Option Value)} {st : List Value} {σ : SG} {rc rs : Nat} {pc' : Nat} (hp : pc + 1 = pc') {k : Fin 4} {x : Nat} (hi : L[(k : Nat)]? = some (some (.ref x))) (dd : decode (am_c M) pc = .ok (.aload_n k, 1)) (kk : Wb g ad d M Q pc' L (.ref x :: st) σ rc rs) : Wb g ad d M Q pc L st σ rc rs := st_aload_n hp hi dd kk
theorem sb_lload {g : AG} {ad : Nat → Nat} {d : Nat} {M : AM} {Q : AO → SG → Prop} {pc : Nat} {L : List (Option Value)} {st : List Value} {σ : SG} {rc rs : Nat} {pc' : Nat} (hp : pc + 2 = pc') {i : Nat} {x : Int} (hi : L[i]? = some (some (vl x))) (dd : decode (am_c M) pc = .ok (.lload i, 2)) (kk : Wb g ad d M Q pc' L (vl x :: st) σ rc rs) : Wb g ad d M Q pc L st σ rc rs := st_lload hp hi dd kk
theorem sb_lload_n {g : AG} {ad : Nat → Nat} {d : Nat} {M : AM} {Q : AO → SG → Prop} {pc : Nat} {L : List (Option Value)} {st : List Value} {σ : SG} {rc rs : Nat} {pc' : Nat} (hp : pc + 1 = pc') {k : Fin 4} {x : Int} (hi : L[(k : Nat)]? = some (some (vl x))) (dd : decode (am_c M) pc = .ok (.lload_n k, 1)) (kk : Wb g ad d M Q pc' L (vl x :: st) σ rc rs) : Wb g ad d M Q pc L st σ rc rs := st_lload_n hp hi dd kk
theorem sb_istore {g : AG} {ad : Nat → Nat} {d : Nat} {M : AM} {Q : AO → SG → Prop} {pc : Nat} {L : List (Option Value)} {st : List Value} {σ : SG} {rc rs : Nat} {pc' : Nat} (hp : pc + 2 = pc') {i : Nat} {x : Int} {L' : List (Option Value)} (hL : sto1 L i (vi x) = L') (hn : i < am_n M) (dd : decode (am_c M) pc = .ok (.istore i, 2)) (kk : Wb g ad d M Q pc' L' st σ rc rs) : Wb g ad d M Q pc L (vi x :: st) σ rc rs := st_istore hp hL hn dd kk
theorem sb_istore_n {g : AG} {ad : Nat → Nat} {d : Nat} {M : AM} {Q : AO → SG → Prop} {pc : Nat} {L : List (Option Value)} {st : List Value} {σ : SG} {rc rs : Nat} {pc' : Nat} (hp : pc + 1 = pc') {k : Fin 4} {x : Int} {L' : List (Option Value)} (hL : sto1 L (k : Nat) (vi x) = L') (hn : (k : Nat) < am_n M) (dd : decode (am_c M) pc = .ok (.istore_n k, 1)) (kk : Wb g ad d M Q pc' L' st σ rc rs) : Wb g ad d M Q pc L (vi x :: st) σ rc rs := st_istore_n hp hL hn dd kk
theorem sb_astore {g : AG} {ad : Nat → Nat} {d : Nat} {M : AM} {Q : AO → SG → Prop} {pc : Nat} {L : List (Option Value)} {st : List Value} {σ : SG} {rc rs : Nat} {pc' : Nat} (hp : pc + 2 = pc') {i : Nat} {x : Nat} {L' : List (Option Value)} (hL : sto1 L i (.ref x) = L') (hn : i < am_n M) (dd : decode (am_c M) pc = .ok (.astore i, 2)) (kk : Wb g ad d M Q pc' L' st σ rc rs) : Wb g ad d M Q pc L (.ref x :: st) σ rc rs := st_astore hp hL hn dd kk
theorem sb_astore_n {g : AG} {ad : Nat → Nat} {d : Nat} {M : AM} {Q : AO → SG → Prop} {pc : Nat} {L : List (Option Value)} {st : List Value} {σ : SG} {rc rs : Nat} {pc' : Nat} (hp : pc + 1 = pc') {k : Fin 4} {x : Nat} {L' : List (Option Value)} (hL : sto1 L (k : Nat) (.ref x) = L') (hn : (k : Nat) < am_n M) (dd : decode (am_c M) pc = .ok (.astore_n k, 1)) (kk : Wb g ad d M Q pc' L' st σ rc rs) : Wb g ad d M Q pc L (.ref x :: st) σ rc rs := st_astore_n hp hL hn dd kk
theorem sb_lstore {g : AG} {ad : Nat → Nat} {d : Nat} {M : AM} {Q : AO → SG → Prop} {pc : Nat} {L : List (Option Value)} {st : List Value} {σ : SG} {rc rs : Nat} {pc' : Nat} (hp : pc + 2 = pc') {i : Nat} {x : Int} {L' : List (Option Value)} (hL : sto2 L i (vl x) = L') (hn : i + 1 < am_n M) (dd : decode (am_c M) pc = .ok (.lstore i, 2)) (kk : Wb g ad d M Q pc' L' st σ rc rs) : Wb g ad d M Q pc L (vl x :: st) σ rc rs := st_lstore hp hL hn dd kk
theorem sb_lstore_n {g : AG} {ad : Nat → Nat} {d : Nat} {M : AM} {Q : AO → SG → Prop} {pc : Nat} {L : List (Option Value)} {st : List Value} {σ : SG} {rc rs : Nat} {pc' : Nat} (hp : pc + 1 = pc') {k : Fin 4} {x : Int} {L' : List (Option Value)} (hL : sto2 L (k : Nat) (vl x) = L') (hn : (k : Nat) + 1 < am_n M) (dd : decode (am_c M) pc = .ok (.lstore_n k, 1)) (kk : Wb g ad d M Q pc' L' st σ rc rs) : Wb g ad d M Q pc L (vl x :: st) σ rc rs := st_lstore_n hp hL hn dd kk
theorem sb_iinc {g : AG} {ad : Nat → Nat} {d : Nat} {M : AM} {Q : AO → SG → Prop} {pc : Nat} {L : List (Option Value)} {st : List Value} {σ : SG} {rc rs : Nat} {pc' : Nat} (hp : pc + 3 = pc') {i : Nat} {n x : Int} {L' : List (Option Value)} (hi : L[i]? = some (some (vi x))) (hL : sto1 L i (vi (x + n)) = L') (hn : i < am_n M) (dd : decode (am_c M) pc = .ok (.iinc i n, 3)) (kk : Wb g ad d M Q pc' L' st σ rc rs) : Wb g ad d M Q pc L st σ rc rs := st_iinc hp hi (Int32.ofInt_add x n).symm hL hn dd kk
theorem sb_goto {g : AG} {ad : Nat → Nat} {d : Nat} {M : AM} {Q : AO → SG → Prop} {pc : Nat} {L : List (Option Value)} {st : List Value} {σ : SG} {rc rs : Nat} {off : Int} {tgt : Nat} (ht : (pc : Int) + off = (tgt : Int)) (dd : decode (am_c M) pc = .ok (.goto off, 3)) (kk : Wb g ad d M Q tgt L st σ rc rs) : Wb g ad d M Q pc L st σ rc rs := st_goto ht dd kk
theorem sb_icmp_eq {g : AG} {ad : Nat → Nat} {d : Nat} {M : AM} {Q : AO → SG → Prop} {pc : Nat} {L : List (Option Value)} {st : List Value} {σ : SG} {rc rs : Nat} {off : Int} {tgt pc' : Nat} {a b : Int} (hp : pc + 3 = pc') (ht : (pc : Int) + off = (tgt : Int)) (ha : iR a) (hb : iR b) (dd : decode (am_c M) pc = .ok (.if_icmp .eq off, 3)) (kt : a = b → Wb g ad d M Q tgt L st σ rc rs) (kf : ¬ a = b → Wb g ad d M Q pc' L st σ rc rs) : Wb g ad d M Q pc L (vi b :: vi a :: st) σ rc rs := st_icmp_eq hp ht dd (fun q => kt ((i_eq ha hb).mp q)) (fun q => kf (fun z => q ((i_eq ha hb).mpr z)))
theorem sb_icmp_ne {g : AG} {ad : Nat → Nat} {d : Nat} {M : AM} {Q : AO → SG → Prop} {pc : Nat} {L : List (Option Value)} {st : List Value} {σ : SG} {rc rs : Nat} {off : Int} {tgt pc' : Nat} {a b : Int} (hp : pc + 3 = pc') (ht : (pc : Int) + off = (tgt : Int)) (ha : iR a) (hb : iR b) (dd : decode (am_c M) pc = .ok (.if_icmp .ne off, 3)) (kt : ¬ a = b → Wb g ad d M Q tgt L st σ rc rs) (kf : a = b → Wb g ad d M Q pc' L st σ rc rs) : Wb g ad d M Q pc L (vi b :: vi a :: st) σ rc rs := st_icmp_ne hp ht dd (fun q => kt (fun z => q ((i_eq ha hb).mpr z))) (fun q => kf ((i_eq ha hb).mp q))
theorem sb_icmp_lt {g : AG} {ad : Nat → Nat} {d : Nat} {M : AM} {Q : AO → SG → Prop} {pc : Nat} {L : List (Option Value)} {st : List Value} {σ : SG} {rc rs : Nat} {off : Int} {tgt pc' : Nat} {a b : Int} (hp : pc + 3 = pc') (ht : (pc : Int) + off = (tgt : Int)) (ha : iR a) (hb : iR b) (dd : decode (am_c M) pc = .ok (.if_icmp .lt off, 3)) (kt : a < b → Wb g ad d M Q tgt L st σ rc rs) (kf : ¬ a < b → Wb g ad d M Q pc' L st σ rc rs) : Wb g ad d M Q pc L (vi b :: vi a :: st) σ rc rs := st_icmp_lt hp ht dd (fun q => kt ((i_lt ha hb).mp q)) (fun q => kf (fun z => q ((i_lt ha hb).mpr z)))
theorem sb_icmp_ge {g : AG} {ad : Nat → Nat} {d : Nat} {M : AM} {Q : AO → SG → Prop} {pc : Nat} {L : List (Option Value)} {st : List Value} {σ : SG} {rc rs : Nat} {off : Int} {tgt pc' : Nat} {a b : Int} (hp : pc + 3 = pc') (ht : (pc : Int) + off = (tgt : Int)) (ha : iR a) (hb : iR b) (dd : decode (am_c M) pc = .ok (.if_icmp .ge off, 3)) (kt : b ≤ a → Wb g ad d M Q tgt L st σ rc rs) (kf : ¬ b ≤ a → Wb g ad d M Q pc' L st σ rc rs) : Wb g ad d M Q pc L (vi b :: vi a :: st) σ rc rs := st_icmp_ge hp ht dd (fun q => kt ((i_le hb ha).mp q)) (fun q => kf (fun z => q ((i_le hb ha).mpr z)))
theorem sb_icmp_gt {g : AG} {ad : Nat → Nat} {d : Nat} {M : AM} {Q : AO → SG → Prop} {pc : Nat} {L : List (Option Value)} {st : List Value} {σ : SG} {rc rs : Nat} {off : Int} {tgt pc' : Nat} {a b : Int} (hp : pc + 3 = pc') (ht : (pc : Int) + off = (tgt : Int)) (ha : iR a) (hb : iR b) (dd : decode (am_c M) pc = .ok (.if_icmp .gt off, 3)) (kt : b < a → Wb g ad d M Q tgt L st σ rc rs) (kf : ¬ b < a → Wb g ad d M Q pc' L st σ rc rs) : Wb g ad d M Q pc L (vi b :: vi a :: st) σ rc rs := st_icmp_gt hp ht dd (fun q => kt ((i_lt hb ha).mp q)) (fun q => kf (fun z => q ((i_lt hb ha).mpr z)))
theorem sb_icmp_le {g : AG} {ad : Nat → Nat} {d : Nat} {M : AM} {Q : AO → SG → Prop} {pc : Nat} {L : List (Option Value)} {st : List Value} {σ : SG} {rc rs : Nat} {off : Int} {tgt pc' : Nat} {a b : Int} (hp : pc + 3 = pc') (ht : (pc : Int) + off = (tgt : Int)) (ha : iR a) (hb : iR b) (dd : decode (am_c M) pc = .ok (.if_icmp .le off, 3)) (kt : a ≤ b → Wb g ad d M Q tgt L st σ rc rs) (kf : ¬ a ≤ b → Wb g ad d M Q pc' L st σ rc rs) : Wb g ad d M Q pc L (vi b :: vi a :: st) σ rc rs := st_icmp_le hp ht dd (fun q => kt ((i_le ha hb).mp q)) (fun q => kf (fun z => q ((i_le ha hb).mpr z)))
theorem sb_if_eq {g : AG} {ad : Nat → Nat} {d : Nat} {M : AM} {Q : AO → SG → Prop} {pc : Nat} {L : List (Option Value)} {st : List Value} {σ : SG} {rc rs : Nat} {off : Int} {tgt pc' : Nat} {a : Int} (hp : pc + 3 = pc') (ht : (pc : Int) + off = (tgt : Int)) (ha : iR a) (dd : decode (am_c M) pc = .ok (.ifCond .eq off, 3)) (kt : a = 0 → Wb g ad d M Q tgt L st σ rc rs) (kf : ¬ a = 0 → Wb g ad d M Q pc' L st σ rc rs) : Wb g ad d M Q pc L (vi a :: st) σ rc rs := st_if_eq hp ht dd (fun q => kt ((i_eq ha iR_0).mp q)) (fun q => kf (fun z => q ((i_eq ha iR_0).mpr z)))
theorem sb_if_ne {g : AG} {ad : Nat → Nat} {d : Nat} {M : AM} {Q : AO → SG → Prop} {pc : Nat} {L : List (Option Value)} {st : List Value} {σ : SG} {rc rs : Nat} {off : Int} {tgt pc' : Nat} {a : Int} (hp : pc + 3 = pc') (ht : (pc : Int) + off = (tgt : Int)) (ha : iR a) (dd : decode (am_c M) pc = .ok (.ifCond .ne off, 3)) (kt : ¬ a = 0 → Wb g ad d M Q tgt L st σ rc rs) (kf : a = 0 → Wb g ad d M Q pc' L st σ rc rs) : Wb g ad d M Q pc L (vi a :: st) σ rc rs := st_if_ne hp ht dd (fun q => kt (fun z => q ((i_eq ha iR_0).mpr z))) (fun q => kf ((i_eq ha iR_0).mp q))
theorem sb_if_lt {g : AG} {ad : Nat → Nat} {d : Nat} {M : AM} {Q : AO → SG → Prop} {pc : Nat} {L : List (Option Value)} {st : List Value} {σ : SG} {rc rs : Nat} {off : Int} {tgt pc' : Nat} {a : Int} (hp : pc + 3 = pc') (ht : (pc : Int) + off = (tgt : Int)) (ha : iR a) (dd : decode (am_c M) pc = .ok (.ifCond .lt off, 3)) (kt : a < 0 → Wb g ad d M Q tgt L st σ rc rs) (kf : ¬ a < 0 → Wb g ad d M Q pc' L st σ rc rs) : Wb g ad d M Q pc L (vi a :: st) σ rc rs := st_if_lt hp ht dd (fun q => kt ((i_lt ha iR_0).mp q)) (fun q => kf (fun z => q ((i_lt ha iR_0).mpr z)))
theorem sb_if_ge {g : AG} {ad : Nat → Nat} {d : Nat} {M : AM} {Q : AO → SG → Prop} {pc : Nat} {L : List (Option Value)} {st : List Value} {σ : SG} {rc rs : Nat} {off : Int} {tgt pc' : Nat} {a : Int} (hp : pc + 3 = pc') (ht : (pc : Int) + off = (tgt : Int)) (ha : iR a) (dd : decode (am_c M) pc = .ok (.ifCond .ge off, 3)) (kt : 0 ≤ a → Wb g ad d M Q tgt L st σ rc rs) (kf : ¬ 0 ≤ a → Wb g ad d M Q pc' L st σ rc rs) : Wb g ad d M Q pc L (vi a :: st) σ rc rs := st_if_ge hp ht dd (fun q => kt ((i_le iR_0 ha).mp q)) (fun q => kf (fun z => q ((i_le iR_0 ha).mpr z)))
theorem sb_if_gt {g : AG} {ad : Nat → Nat} {d : Nat} {M : AM} {Q : AO → SG → Prop} {pc : Nat} {L : List (Option Value)} {st : List Value} {σ : SG} {rc rs : Nat} {off : Int} {tgt pc' : Nat} {a : Int} (hp : pc + 3 = pc') (ht : (pc : Int) + off = (tgt : Int)) (ha : iR a) (dd : decode (am_c M) pc = .ok (.ifCond .gt off, 3)) (kt : 0 < a → Wb g ad d M Q tgt L st σ rc rs) (kf : ¬ 0 < a → Wb g ad d M Q pc' L st σ rc rs) : Wb g ad d M Q pc L (vi a :: st) σ rc rs := st_if_gt hp ht dd (fun q => kt ((i_lt iR_0 ha).mp q)) (fun q => kf (fun z => q ((i_lt iR_0 ha).mpr z)))
theorem sb_if_le {g : AG} {ad : Nat → Nat} {d : Nat} {M : AM} {Q : AO → SG → Prop} {pc : Nat} {L : List (Option Value)} {st : List Value} {σ : SG} {rc rs : Nat} {off : Int} {tgt pc' : Nat} {a : Int} (hp : pc + 3 = pc') (ht : (pc : Int) + off = (tgt : Int)) (ha : iR a) (dd : decode (am_c M) pc = .ok (.ifCond .le off, 3)) (kt : a ≤ 0 → Wb g ad d M Q tgt L st σ rc rs) (kf : ¬ a ≤ 0 → Wb g ad d M Q pc' L st σ rc rs) : Wb g ad d M Q pc L (vi a :: st) σ rc rs := st_if_le hp ht dd (fun q => kt ((i_le ha iR_0).mp q)) (fun q => kf (fun z => q ((i_le ha iR_0).mpr z)))
theorem sb_swIn {g : AG} {ad : Nat → Nat} {d : Nat} {M : AM} {Q : AO → SG → Prop} {pc : Nat} {L : List (Option Value)} {st : List Value} {σ : SG} {rc rs : Nat} {dflt lo hi off : Int} {offs : Array Int} {len tgt : Nat} {x : Int} (hx : iR x) (h1 : ¬ x < lo) (h2 : ¬ hi < x) (ho : offs[(x - lo).toNat]? = some off) (ht : (pc : Int) + off = (tgt : Int)) (dd : decode (am_c M) pc = .ok (.tableswitch dflt lo hi offs, len)) (kk : Wb g ad d M Q tgt L st σ rc rs) : Wb g ad d M Q pc L (vi x :: st) σ rc rs := st_swIn (by rw [iR_ofInt hx]; exact h1) (by rw [iR_ofInt hx]; exact h2) (by rw [iR_ofInt hx]; exact ho) ht dd kk
theorem sb_swOut {g : AG} {ad : Nat → Nat} {d : Nat} {M : AM} {Q : AO → SG → Prop} {pc : Nat} {L : List (Option Value)} {st : List Value} {σ : SG} {rc rs : Nat} {dflt lo hi : Int} {offs : Array Int} {len tgt : Nat} {x : Int} (hx : iR x) (h : x < lo ∨ hi < x) (ht : (pc : Int) + dflt = (tgt : Int)) (dd : decode (am_c M) pc = .ok (.tableswitch dflt lo hi offs, len)) (kk : Wb g ad d M Q tgt L st σ rc rs) : Wb g ad d M Q pc L (vi x :: st) σ rc rs := st_swOut (by rw [iR_ofInt hx]; exact h) ht dd kk
/-- cell i's field k (name nm, type ds) of class C: the cell r for good / a number / a cell that may change; may be written -/
def fC (i k r : Nat) (C nm ds : String) : Prop := ∃ (ci N : Nat) (T : u_T) (ty : Nat → FieldType) (fl : List (Nat × Nat)), ae_cl ci C T N ty ∧ shp i = (4, ci, fl) ∧ k < N ∧ (T k).1 = C ∧ (T k).2.1 = nm ∧ (T k).2.2.1 = ds ∧ fl[k]? = some (0, r)
def fI (i k : Nat) (C nm ds : String) : Prop := ∃ (ci N : Nat) (T : u_T) (ty : Nat → FieldType) (fl : List (Nat × Nat)), ae_cl ci C T N ty ∧ shp i = (4, ci, fl) ∧ k < N ∧ (T k).1 = C ∧ (T k).2.1 = nm ∧ (T k).2.2.1 = ds ∧ fl[k]? = some (1, 0) ∧ (T k).2.2.2 = false ∧ (ty k = .int ∨ ty k = .boolean)
def fR (i k : Nat) (C nm ds : String) : Prop := ∃ (ci N : Nat) (T : u_T) (ty : Nat → FieldType) (fl : List (Nat × Nat)), ae_cl ci C T N ty ∧ shp i = (4, ci, fl) ∧ k < N ∧ (T k).1 = C ∧ (T k).2.1 = nm ∧ (T k).2.2.1 = ds ∧ fl[k]? = some (2, 0) ∧ (T k).2.2.2 = false ∧ ty k = .object RX2
def oF (b : Nat) (C : String) : Prop := ∃ (ci N : Nat) (T : u_T) (ty : Nat → FieldType) (fl : List (Nat × Nat)), ae_cl ci C T N ty ∧ shp b = (4, ci, fl)
def aI (c n : Nat) : Prop := shp c = (0, n, []) ∧ n < 2147483648
def aL (c n : Nat) : Prop := shp c = (1, n, []) ∧ n < 2147483648
def aZ (c n : Nat) : Prop := shp c = (2, n, []) ∧ n < 2147483648
def aA (c n : Nat) : Prop := shp c = (3, n, []) ∧ n < 2147483648
theorem nar_z {v : Int} (h : v = 0 ∨ v = 1) : vp_nar .boolean (Int32.ofInt v) = Int32.ofInt v := by rcases h with rfl | rfl <;> decide
theorem nar_z2 {v : Int} (h : v = 0 ∨ v = 1) : narrow .boolean (vi v) = vi v := by rcases h with rfl | rfl <;> decide
theorem iR_lit {z : Int} (h : decide (-2147483648 ≤ z ∧ z < 2147483648) = true) : iR z := (of_decide_eq_true h : -2147483648 ≤ z ∧ z < 2147483648)
theorem nar_o {t : FieldType} {v : Int} {ds : String} (h : t = .int ∨ t = .boolean) (hz : ds = "I" ∨ v = 0 ∨ v = 1) (hd : parseFieldDescriptor ds = some t) : narrow t (vi v) = vi v ∧ fits t (vi v) = true := by
  rcases h with rfl | rfl
  · exact ⟨rfl, rfl⟩
  · rcases hz with rfl | h | h
    · cases hd
    · exact ⟨nar_z2 (Or.inl h), by subst h; decide⟩
    · exact ⟨nar_z2 (Or.inr h), by subst h; decide⟩
theorem sb_getI {g : AG} {ad : Nat → Nat} {d : Nat} {M : AM} {Q : AO → SG → Prop} {pc : Nat} {L : List (Option Value)} {st : List Value} {σ : SG} {rc rs : Nat} {pc' : Nat} (hp : pc + 3 = pc')  {i k idx : Nat} {C nm ds : String} (hf : fI i k C nm ds) (hw : Cond.fieldLink (am_y M).cls idx C nm ds ∈ lw_tbl) (dd : decode (am_c M) pc = .ok (.getfield idx, 3)) (kk : Wb g ad d M Q pc' L (vi (sc σ i k) :: st) σ rc rs) : Wb g ad d M Q pc L (.ref (ad i) :: st) σ rc rs := by
  obtain ⟨ci, N, T, ty, fl, hcl, hs, hk, hrf, rfl, rfl, h1, -, -⟩ := hf
  exact st_get hp hcl (by rw [lay_at (shp_lt hs (by decide)), shO hs]) k hk hrf (by rw [List.getElem?_mapIdx, h1]; rfl) hw dd kk
theorem sb_getC {g : AG} {ad : Nat → Nat} {d : Nat} {M : AM} {Q : AO → SG → Prop} {pc : Nat} {L : List (Option Value)} {st : List Value} {σ : SG} {rc rs : Nat} {pc' : Nat} (hp : pc + 3 = pc')  {i k r idx : Nat} {C nm ds : String} (hf : fC i k r C nm ds) (hw : Cond.fieldLink (am_y M).cls idx C nm ds ∈ lw_tbl) (dd : decode (am_c M) pc = .ok (.getfield idx, 3)) (kk : Wb g ad d M Q pc' L (.ref (ad r) :: st) σ rc rs) : Wb g ad d M Q pc L (.ref (ad i) :: st) σ rc rs := by
  obtain ⟨ci, N, T, ty, fl, hcl, hs, hk, hrf, rfl, rfl, h1⟩ := hf
  exact st_get hp hcl (by rw [lay_at (shp_lt hs (by decide)), shO hs]) k hk hrf (by rw [List.getElem?_mapIdx, h1]; rfl) hw dd kk
theorem sb_getR {g : AG} {ad : Nat → Nat} {d : Nat} {M : AM} {Q : AO → SG → Prop} {pc : Nat} {L : List (Option Value)} {st : List Value} {σ : SG} {rc rs : Nat} {pc' : Nat} (hp : pc + 3 = pc')  {i k idx : Nat} {C nm ds : String} (hf : fR i k C nm ds) (hw : Cond.fieldLink (am_y M).cls idx C nm ds ∈ lw_tbl) (dd : decode (am_c M) pc = .ok (.getfield idx, 3)) (kk : Wb g ad d M Q pc' L (.ref (ad (rv σ i k)) :: st) σ rc rs) : Wb g ad d M Q pc L (.ref (ad i) :: st) σ rc rs := by
  obtain ⟨ci, N, T, ty, fl, hcl, hs, hk, hrf, rfl, rfl, h1, -, -⟩ := hf
  exact st_get hp hcl (by rw [lay_at (shp_lt hs (by decide)), shO hs]) k hk hrf (by rw [List.getElem?_mapIdx, h1]; rfl) hw dd kk
theorem sb_putI {g : AG} {ad : Nat → Nat} {d : Nat} {M : AM} {Q : AO → SG → Prop} {pc : Nat} {L : List (Option Value)} {st : List Value} {σ : SG} {rc rs : Nat} {pc' : Nat} (hp : pc + 3 = pc')  {i k idx : Nat} {C nm ds : String} {v : Int} (hf : fI i k C nm ds) (hz : ds = "I" ∨ v = 0 ∨ v = 1) (hw : Cond.fieldLink (am_y M).cls idx C nm ds ∈ lw_tbl) (dd : decode (am_c M) pc = .ok (.putfield idx, 3)) (kk : Wb g ad d M Q pc' L st (setS σ i k v) rc rs) : Wb g ad d M Q pc L (vi v :: .ref (ad i) :: st) σ rc rs := by
  obtain ⟨ci, N, T, ty, fl, hcl, hs, hk, hrf, rfl, rfl, h1, h2, h3⟩ := hf
  obtain ⟨n1, n2⟩ := nar_o (v := v) h3 hz (hcl.2.2.2 k hk)
  refine st_put hp hcl (by rw [lay_at (shp_lt hs (by decide)), shO hs]) k hk hrf (by rw [List.length_mapIdx]; exact (List.getElem?_eq_some_iff.mp h1).1) h2 n1 n2 hw dd ?_
  rw [lay_S hs h1]
  exact kk
theorem sb_putR {g : AG} {ad : Nat → Nat} {d : Nat} {M : AM} {Q : AO → SG → Prop} {pc : Nat} {L : List (Option Value)} {st : List Value} {σ : SG} {rc rs : Nat} {pc' : Nat} (hp : pc + 3 = pc')  {i k idx v : Nat} {C nm ds : String} (hf : fR i k C nm ds) (hw : Cond.fieldLink (am_y M).cls idx C nm ds ∈ lw_tbl) (dd : decode (am_c M) pc = .ok (.putfield idx, 3)) (kk : Wb g ad d M Q pc' L st (setR σ i k v) rc rs) : Wb g ad d M Q pc L (.ref (ad v) :: .ref (ad i) :: st) σ rc rs := by
  obtain ⟨ci, N, T, ty, fl, hcl, hs, hk, hrf, rfl, rfl, h1, h2, h3⟩ := hf
  refine st_put hp hcl (by rw [lay_at (shp_lt hs (by decide)), shO hs]) k hk hrf (by rw [List.length_mapIdx]; exact (List.getElem?_eq_some_iff.mp h1).1) h2 (by rw [h3]; rfl) (by rw [h3]; rfl) hw dd ?_
  rw [lay_R hs h1]
  exact kk
theorem sb_getIN {g : AG} {ad : Nat → Nat} {d : Nat} {M : AM} {Q : AO → SG → Prop} {pc : Nat} {L : List (Option Value)} {st : List Value} {σ : SG} {rc rs : Nat} {pc' : Nat} (hp : pc + 3 = pc') {host : String} {i k idx : Nat} {C nm ds : String} (hf : fI i k C nm ds) (hw : Cond.fieldLinkNest (am_y M).cls idx C nm ds host ∈ lw_tbl) (dd : decode (am_c M) pc = .ok (.getfield idx, 3)) (kk : Wb g ad d M Q pc' L (vi (sc σ i k) :: st) σ rc rs) : Wb g ad d M Q pc L (.ref (ad i) :: st) σ rc rs := by
  obtain ⟨ci, N, T, ty, fl, hcl, hs, hk, hrf, rfl, rfl, h1, -, -⟩ := hf
  exact st_getN hp hcl (by rw [lay_at (shp_lt hs (by decide)), shO hs]) k hk hrf (by rw [List.getElem?_mapIdx, h1]; rfl) hw dd kk
theorem sb_getCN {g : AG} {ad : Nat → Nat} {d : Nat} {M : AM} {Q : AO → SG → Prop} {pc : Nat} {L : List (Option Value)} {st : List Value} {σ : SG} {rc rs : Nat} {pc' : Nat} (hp : pc + 3 = pc') {host : String} {i k r idx : Nat} {C nm ds : String} (hf : fC i k r C nm ds) (hw : Cond.fieldLinkNest (am_y M).cls idx C nm ds host ∈ lw_tbl) (dd : decode (am_c M) pc = .ok (.getfield idx, 3)) (kk : Wb g ad d M Q pc' L (.ref (ad r) :: st) σ rc rs) : Wb g ad d M Q pc L (.ref (ad i) :: st) σ rc rs := by
  obtain ⟨ci, N, T, ty, fl, hcl, hs, hk, hrf, rfl, rfl, h1⟩ := hf
  exact st_getN hp hcl (by rw [lay_at (shp_lt hs (by decide)), shO hs]) k hk hrf (by rw [List.getElem?_mapIdx, h1]; rfl) hw dd kk
theorem sb_getRN {g : AG} {ad : Nat → Nat} {d : Nat} {M : AM} {Q : AO → SG → Prop} {pc : Nat} {L : List (Option Value)} {st : List Value} {σ : SG} {rc rs : Nat} {pc' : Nat} (hp : pc + 3 = pc') {host : String} {i k idx : Nat} {C nm ds : String} (hf : fR i k C nm ds) (hw : Cond.fieldLinkNest (am_y M).cls idx C nm ds host ∈ lw_tbl) (dd : decode (am_c M) pc = .ok (.getfield idx, 3)) (kk : Wb g ad d M Q pc' L (.ref (ad (rv σ i k)) :: st) σ rc rs) : Wb g ad d M Q pc L (.ref (ad i) :: st) σ rc rs := by
  obtain ⟨ci, N, T, ty, fl, hcl, hs, hk, hrf, rfl, rfl, h1, -, -⟩ := hf
  exact st_getN hp hcl (by rw [lay_at (shp_lt hs (by decide)), shO hs]) k hk hrf (by rw [List.getElem?_mapIdx, h1]; rfl) hw dd kk
theorem sb_putIN {g : AG} {ad : Nat → Nat} {d : Nat} {M : AM} {Q : AO → SG → Prop} {pc : Nat} {L : List (Option Value)} {st : List Value} {σ : SG} {rc rs : Nat} {pc' : Nat} (hp : pc + 3 = pc') {host : String} {i k idx : Nat} {C nm ds : String} {v : Int} (hf : fI i k C nm ds) (hz : ds = "I" ∨ v = 0 ∨ v = 1) (hw : Cond.fieldLinkNest (am_y M).cls idx C nm ds host ∈ lw_tbl) (dd : decode (am_c M) pc = .ok (.putfield idx, 3)) (kk : Wb g ad d M Q pc' L st (setS σ i k v) rc rs) : Wb g ad d M Q pc L (vi v :: .ref (ad i) :: st) σ rc rs := by
  obtain ⟨ci, N, T, ty, fl, hcl, hs, hk, hrf, rfl, rfl, h1, h2, h3⟩ := hf
  obtain ⟨n1, n2⟩ := nar_o (v := v) h3 hz (hcl.2.2.2 k hk)
  refine st_putN hp hcl (by rw [lay_at (shp_lt hs (by decide)), shO hs]) k hk hrf (by rw [List.length_mapIdx]; exact (List.getElem?_eq_some_iff.mp h1).1) h2 n1 n2 hw dd ?_
  rw [lay_S hs h1]
  exact kk
theorem sb_putRN {g : AG} {ad : Nat → Nat} {d : Nat} {M : AM} {Q : AO → SG → Prop} {pc : Nat} {L : List (Option Value)} {st : List Value} {σ : SG} {rc rs : Nat} {pc' : Nat} (hp : pc + 3 = pc') {host : String} {i k idx v : Nat} {C nm ds : String} (hf : fR i k C nm ds) (hw : Cond.fieldLinkNest (am_y M).cls idx C nm ds host ∈ lw_tbl) (dd : decode (am_c M) pc = .ok (.putfield idx, 3)) (kk : Wb g ad d M Q pc' L st (setR σ i k v) rc rs) : Wb g ad d M Q pc L (.ref (ad v) :: .ref (ad i) :: st) σ rc rs := by
  obtain ⟨ci, N, T, ty, fl, hcl, hs, hk, hrf, rfl, rfl, h1, h2, h3⟩ := hf
  refine st_putN hp hcl (by rw [lay_at (shp_lt hs (by decide)), shO hs]) k hk hrf (by rw [List.length_mapIdx]; exact (List.getElem?_eq_some_iff.mp h1).1) h2 (by rw [h3]; rfl) (by rw [h3]; rfl) hw dd ?_
  rw [lay_R hs h1]
  exact kk
theorem sb_iald {g : AG} {ad : Nat → Nat} {d : Nat} {M : AM} {Q : AO → SG → Prop} {pc : Nat} {L : List (Option Value)} {st : List Value} {σ : SG} {rc rs : Nat} {pc' : Nat} (hp : pc + 1 = pc') {c n : Nat} {i : Int} (hA : aI c n) (h0 : 0 ≤ i) (h1 : i < n) (dd : decode (am_c M) pc = .ok (.iaload, 1)) (kk : Wb g ad d M Q pc' L (vi (ia σ c i) :: st) σ rc rs) : Wb g ad d M Q pc L (vi i :: .ref (ad c) :: st) σ rc rs := by
  obtain ⟨hs, hn⟩ := hA
  refine st_iald hp (by rw [lay_at (shp_lt hs (by decide)), sh0 hs]) (i_in h0 h1 hn).1 dd ?_
  rw [(i_in h0 h1 hn).2, Int.toNat_of_nonneg h0]
  exact kk
theorem sb_zald {g : AG} {ad : Nat → Nat} {d : Nat} {M : AM} {Q : AO → SG → Prop} {pc : Nat} {L : List (Option Value)} {st : List Value} {σ : SG} {rc rs : Nat} {pc' : Nat} (hp : pc + 1 = pc') {c n : Nat} {i : Int} (hA : aZ c n) (h0 : 0 ≤ i) (h1 : i < n) (dd : decode (am_c M) pc = .ok (.baload, 1)) (kk : Wb g ad d M Q pc' L (vi (ia σ c i) :: st) σ rc rs) : Wb g ad d M Q pc L (vi i :: .ref (ad c) :: st) σ rc rs := by
  obtain ⟨hs, hn⟩ := hA
  refine st_zald hp (by rw [lay_at (shp_lt hs (by decide)), sh2 hs]) (i_in h0 h1 hn).1 dd ?_
  rw [(i_in h0 h1 hn).2, Int.toNat_of_nonneg h0]
  exact kk
theorem sb_lald {g : AG} {ad : Nat → Nat} {d : Nat} {M : AM} {Q : AO → SG → Prop} {pc : Nat} {L : List (Option Value)} {st : List Value} {σ : SG} {rc rs : Nat} {pc' : Nat} (hp : pc + 1 = pc') {c n : Nat} {i : Int} (hA : aL c n) (h0 : 0 ≤ i) (h1 : i < n) (dd : decode (am_c M) pc = .ok (.laload, 1)) (kk : Wb g ad d M Q pc' L (vl (la σ c i) :: st) σ rc rs) : Wb g ad d M Q pc L (vi i :: .ref (ad c) :: st) σ rc rs := by
  obtain ⟨hs, hn⟩ := hA
  refine st_lald hp (by rw [lay_at (shp_lt hs (by decide)), sh1 hs]) (i_in h0 h1 hn).1 dd ?_
  rw [(i_in h0 h1 hn).2, Int.toNat_of_nonneg h0]
  exact kk
theorem sb_iast {g : AG} {ad : Nat → Nat} {d : Nat} {M : AM} {Q : AO → SG → Prop} {pc : Nat} {L : List (Option Value)} {st : List Value} {σ : SG} {rc rs : Nat} {pc' : Nat} (hp : pc + 1 = pc') {c n : Nat} {i v : Int} (hA : aI c n) (h0 : 0 ≤ i) (h1 : i < n) (dd : decode (am_c M) pc = .ok (.iastore, 1)) (kk : Wb g ad d M Q pc' L st (setI σ c i v) rc rs) : Wb g ad d M Q pc L (vi v :: vi i :: .ref (ad c) :: st) σ rc rs := by
  obtain ⟨hs, hn⟩ := hA
  refine st_iast hp (by rw [lay_at (shp_lt hs (by decide)), sh0 hs]) (i_in h0 h1 hn).1 dd ?_
  rw [(i_in h0 h1 hn).2, lay_I 0 (Or.inl rfl) hs h0 v]
  exact kk
theorem sb_last {g : AG} {ad : Nat → Nat} {d : Nat} {M : AM} {Q : AO → SG → Prop} {pc : Nat} {L : List (Option Value)} {st : List Value} {σ : SG} {rc rs : Nat} {pc' : Nat} (hp : pc + 1 = pc') {c n : Nat} {i v : Int} (hA : aL c n) (h0 : 0 ≤ i) (h1 : i < n) (dd : decode (am_c M) pc = .ok (.lastore, 1)) (kk : Wb g ad d M Q pc' L st (setL σ c i v) rc rs) : Wb g ad d M Q pc L (vl v :: vi i :: .ref (ad c) :: st) σ rc rs := by
  obtain ⟨hs, hn⟩ := hA
  refine st_last hp (by rw [lay_at (shp_lt hs (by decide)), sh1 hs]) (i_in h0 h1 hn).1 dd ?_
  rw [(i_in h0 h1 hn).2, lay_L hs h0 v]
  exact kk
theorem sb_zast {g : AG} {ad : Nat → Nat} {d : Nat} {M : AM} {Q : AO → SG → Prop} {pc : Nat} {L : List (Option Value)} {st : List Value} {σ : SG} {rc rs : Nat} {pc' : Nat} (hp : pc + 1 = pc') {c n : Nat} {i v : Int} (hA : aZ c n) (h0 : 0 ≤ i) (h1 : i < n) (hv : v = 0 ∨ v = 1) (dd : decode (am_c M) pc = .ok (.bastore, 1)) (kk : Wb g ad d M Q pc' L st (setI σ c i v) rc rs) : Wb g ad d M Q pc L (vi v :: vi i :: .ref (ad c) :: st) σ rc rs := by
  obtain ⟨hs, hn⟩ := hA
  refine st_zast hp (by rw [lay_at (shp_lt hs (by decide)), sh2 hs]) (i_in h0 h1 hn).1 dd ?_
  rw [(i_in h0 h1 hn).2, nar_z hv, lay_I 2 (Or.inr rfl) hs h0 v]
  exact kk
theorem sb_alen {g : AG} {ad : Nat → Nat} {d : Nat} {M : AM} {Q : AO → SG → Prop} {pc : Nat} {L : List (Option Value)} {st : List Value} {σ : SG} {rc rs : Nat} {pc' : Nat} (hp : pc + 1 = pc') {c n t : Nat} {z : Int} (ht : t = 0 ∨ t = 1) (hs : shp c = (t, n, [])) (hz : Int32.ofNat n = Int32.ofInt z) (dd : decode (am_c M) pc = .ok (.arraylength, 1)) (kk : Wb g ad d M Q pc' L (vi z :: st) σ rc rs) : Wb g ad d M Q pc L (.ref (ad c) :: st) σ rc rs := by
  rcases ht with rfl | rfl
  · exact st_alen hp (x := (n, .inl _)) (by rw [lay_at (shp_lt hs (by decide)), sh0 hs]) rfl hz dd kk
  · exact st_alen hp (x := (n, .inr (.inl _))) (by rw [lay_at (shp_lt hs (by decide)), sh1 hs]) rfl hz dd kk
theorem sb_aald {g : AG} {ad : Nat → Nat} {d : Nat} {M : AM} {Q : AO → SG → Prop} {pc : Nat} {L : List (Option Value)} {st : List Value} {σ : SG} {rc rs : Nat} {pc' : Nat} (hp : pc + 1 = pc') {c n : Nat} {i : Int} (hA : aA c n) (h0 : 0 ≤ i) (h1 : i < n) (dd : decode (am_c M) pc = .ok (.aaload, 1)) (kk : Wb g ad d M Q pc' L (.ref (ad (c + 1 + i.toNat)) :: st) σ rc rs) : Wb g ad d M Q pc L (vi i :: .ref (ad c) :: st) σ rc rs := by
  obtain ⟨hs, hn⟩ := hA
  refine st_aald hp (by rw [lay_at (shp_lt hs (by decide)), sh3 hs]) (i_in h0 h1 hn).1 dd ?_
  rw [(i_in h0 h1 hn).2, if_pos (by omega)]
  exact kk
theorem sb_iret {g : AG} {ad : Nat → Nat} {d : Nat} {M : AM} {Q : AO → SG → Prop} {pc : Nat} {L : List (Option Value)} {σ : SG} {rc rs : Nat} {v : Int} {ty : FieldType} (hty : am_r M = some ty) (hn : narrow ty (vi v) = vi v) (dd : decode (am_c M) pc = .ok (.ireturn, 1)) (kk : Q (.inl (some (vi v))) σ) : Wb g ad d M Q pc L [vi v] σ rc rs := st_iret (st := []) hty hn dd ⟨σ, rfl, kk⟩
theorem sb_lret {g : AG} {ad : Nat → Nat} {d : Nat} {M : AM} {Q : AO → SG → Prop} {pc : Nat} {L : List (Option Value)} {σ : SG} {rc rs : Nat} {v : Int} (hty : am_r M = some .long) (dd : decode (am_c M) pc = .ok (.lreturn, 1)) (kk : Q (.inl (some (vl v))) σ) : Wb g ad d M Q pc L [vl v] σ rc rs := st_lret (st := []) hty dd ⟨σ, rfl, kk⟩
theorem sb_vret {g : AG} {ad : Nat → Nat} {d : Nat} {M : AM} {Q : AO → SG → Prop} {pc : Nat} {L : List (Option Value)} {σ : SG} {rc rs : Nat} (hty : am_r M = none) (dd : decode (am_c M) pc = .ok (.return_, 1)) (kk : Q (.inl none) σ) : Wb g ad d M Q pc L [] σ rc rs := st_vret (st := []) hty dd ⟨σ, rfl, kk⟩
theorem Eb.of {g : AG} {ad : Nat → Nat} {d : Nat} {M : AM} {mc ms : Nat} {as : List Value} {σ : SG} {Q : AO → SG → Prop} {L : List (Option Value)} (hh : am_h M = []) (hy : plainName (am_y M).cls = true) (hn : (ent as).length ≤ am_n M) (hL : entL as (am_n M) = L) (kk : Wb g ad d M Q 0 L [] σ mc ms) : Eb g ad d M mc ms as σ Q := Ev.of hh hy hn (hL ▸ kk)
theorem Eb.mono {g : AG} {ad : Nat → Nat} {d : Nat} {M : AM} {mc ms : Nat} {as : List Value} {σ : SG} {Q Q' : AO → SG → Prop} (h : Eb g ad d M mc ms as σ Q) (hq : ∀ o w, Q o w → Q' o w) : Eb g ad d M mc ms as σ Q' := Ev.mono h (fun o w ⟨s, e, q⟩ => ⟨s, e, hq o s q⟩)
/-- what a callee's end must give: the caller goes on behind the call, or ends with the exception -/
abbrev Kb (g : AG) (ad : Nat → Nat) (d : Nat) (M : AM) (Q : AO → SG → Prop) (pc : Nat) (L : List (Option Value)) (st : List Value) (rc rs : Nat) : AO → SG → Prop := fun o σ => match o with
  | .inl v => Wb g ad d M Q pc L (v.toList ++ st) σ rc rs
  | .inr E => Q (.inr E) σ
theorem Kb.to {g : AG} {ad : Nat → Nat} {d : Nat} {M : AM} {Q : AO → SG → Prop} {pc : Nat} {L : List (Option Value)} {st : List Value} {rc rs : Nat} (o : AO) (ws : va_W) (h : Qb g ad (Kb g ad d M Q pc L st rc rs) o ws) : Kc g d M (Qb g ad Q) pc L st rc rs o ws := by
  obtain ⟨σ, rfl, h⟩ := h
  cases o with
  | inl v => exact h
  | inr E => exact ⟨σ, rfl, h⟩
theorem sb_callV {g : AG} {ad : Nat → Nat} {d : Nat} {M : AM} {Q : AO → SG → Prop} {pc : Nat} {L : List (Option Value)} {st : List Value} {σ : SG} {rc rs : Nat} {pc' : Nat} (hp : pc + 3 = pc') (hh : am_h M = []) {M' : AM} {n d' mc' ms' idx : Nat} {As st0 : List Value} {b : Nat} (ho : oF b (am_y M').cls) (hst : st0 = As.reverse ++ .ref (ad b) :: st) (hn : As.length = n) (hcat : (st.map fun v => v.category).sum ≤ 8) (hd : d' + 1 ≤ d) (hm : ae_m M' n) (hw : Cond.methodLink (am_y M).cls idx (am_y M') ∈ lw_tbl ∧ Cond.instanceMethod (am_y M') ∈ lw_tbl ∧ Cond.selects (am_y M').cls (am_y M') (am_y M') ∈ lw_tbl) (dd : decode (am_c M) pc = .ok (.invokevirtual idx, 3)) (hM : Eb g ad d' M' mc' ms' (.ref (ad b) :: As) σ (Kb g ad d M Q pc' L st rc rs)) : Wb g ad d M Q pc L st0 σ (rc + mc') (rs + ms') := by obtain ⟨ci, N, T, ty, fl, hcl, hs⟩ := ho; exact st_callV hp hh hcl (by rw [lay_at (shp_lt hs (by decide)), shO hs]) hst hn hcat hd hm hw dd (Ev.mono hM Kb.to)
theorem sb_callVN {g : AG} {ad : Nat → Nat} {d : Nat} {M : AM} {Q : AO → SG → Prop} {pc : Nat} {L : List (Option Value)} {st : List Value} {σ : SG} {rc rs : Nat} {pc' : Nat} (hp : pc + 3 = pc') (hh : am_h M = []) {M' : AM} {n d' mc' ms' idx : Nat} {As st0 : List Value} {host : String} {b : Nat} (ho : oF b (am_y M').cls) (hst : st0 = As.reverse ++ .ref (ad b) :: st) (hn : As.length = n) (hcat : (st.map fun v => v.category).sum ≤ 8) (hd : d' + 1 ≤ d) (hm : ae_m M' n) (hw : Cond.methodLinkNest (am_y M).cls idx (am_y M') host ∈ lw_tbl ∧ Cond.instanceMethod (am_y M') ∈ lw_tbl ∧ Cond.selects (am_y M').cls (am_y M') (am_y M') ∈ lw_tbl) (dd : decode (am_c M) pc = .ok (.invokevirtual idx, 3)) (hM : Eb g ad d' M' mc' ms' (.ref (ad b) :: As) σ (Kb g ad d M Q pc' L st rc rs)) : Wb g ad d M Q pc L st0 σ (rc + mc') (rs + ms') := by obtain ⟨ci, N, T, ty, fl, hcl, hs⟩ := ho; exact st_callVN hp hh hcl (by rw [lay_at (shp_lt hs (by decide)), shO hs]) hst hn hcat hd hm hw dd (Ev.mono hM Kb.to)
theorem sb_callS {g : AG} {ad : Nat → Nat} {d : Nat} {M : AM} {Q : AO → SG → Prop} {pc : Nat} {L : List (Option Value)} {st : List Value} {σ : SG} {rc rs : Nat} {pc' : Nat} (hp : pc + 3 = pc') (hh : am_h M = []) {M' : AM} {n d' mc' ms' idx : Nat} {As st0 : List Value}  (hst : st0 = As.reverse ++ st) (hn : As.length = n) (hcat : (st.map fun v => v.category).sum ≤ 8) (hd : d' + 1 ≤ d) (hm : ae_m M' n) (hw : Cond.methodLink (am_y M).cls idx (am_y M') ∈ lw_tbl ∧ Cond.static (am_y M') ∈ lw_tbl) (dd : decode (am_c M) pc = .ok (.invokestatic idx, 3)) (hM : Eb g ad d' M' mc' ms' As σ (Kb g ad d M Q pc' L st rc rs)) : Wb g ad d M Q pc L st0 σ (rc + mc') (rs + ms') := st_callS hp hh hst hn hcat hd hm hw dd (Ev.mono hM Kb.to)
theorem sb_callSN {g : AG} {ad : Nat → Nat} {d : Nat} {M : AM} {Q : AO → SG → Prop} {pc : Nat} {L : List (Option Value)} {st : List Value} {σ : SG} {rc rs : Nat} {pc' : Nat} (hp : pc + 3 = pc') (hh : am_h M = []) {M' : AM} {n d' mc' ms' idx : Nat} {As st0 : List Value} {host : String} (hst : st0 = As.reverse ++ st) (hn : As.length = n) (hcat : (st.map fun v => v.category).sum ≤ 8) (hd : d' + 1 ≤ d) (hm : ae_m M' n) (hw : Cond.methodLinkNest (am_y M).cls idx (am_y M') host ∈ lw_tbl ∧ Cond.static (am_y M') ∈ lw_tbl) (dd : decode (am_c M) pc = .ok (.invokestatic idx, 3)) (hM : Eb g ad d' M' mc' ms' As σ (Kb g ad d M Q pc' L st rc rs)) : Wb g ad d M Q pc L st0 σ (rc + mc') (rs + ms') := st_callSN hp hh hst hn hcat hd hm hw dd (Ev.mono hM Kb.to)
/-- a call, somewhat less deep -/
def Cl (g : AG) (ad : Nat → Nat) (d : Nat) (M : AM) (mc ms : Nat) (as : List Value) (σ : SG) (K : AO → SG → Prop) : Prop := ∃ d', d' + 1 ≤ d ∧ Eb g ad d' M mc ms as σ K
def lR (z : Int) : Prop := -9223372036854775808 ≤ z ∧ z < 9223372036854775808
/-- all that a world holds are ints and longs -/
def SR (σ : SG) : Prop := (∀ c i, iR (ia σ c i)) ∧ (∀ c k, iR (sc σ c k)) ∧ ∀ c i, lR (la σ c i)
abbrev Ki (K : Int → SG → Prop) : AO → SG → Prop := fun o σ => ∃ r, o = .inl (some (vi r)) ∧ iR r ∧ SR σ ∧ K r σ
abbrev Kl (K : Int → SG → Prop) : AO → SG → Prop := fun o σ => ∃ r, o = .inl (some (vl r)) ∧ lR r ∧ SR σ ∧ K r σ
abbrev Kv (K : SG → Prop) : AO → SG → Prop := fun o σ => o = .inl none ∧ SR σ ∧ K σ
abbrev Kx (K : AO → SG → Prop) (X : String → SG → Prop) : AO → SG → Prop := fun o σ => K o σ ∨ ∃ E, o = .inr E ∧ SR σ ∧ X E σ
theorem SR_ia {σ : SG} (h : SR σ) (c : Nat) (i : Int) : iR (ia σ c i) := h.1 c i
theorem SR_sc {σ : SG} (h : SR σ) (c k : Nat) : iR (sc σ c k) := h.2.1 c k
theorem SR_la {σ : SG} (h : SR σ) (c : Nat) (i : Int) : lR (la σ c i) := h.2.2 c i
theorem lR_lit {z : Int} (h : decide (-9223372036854775808 ≤ z ∧ z < 9223372036854775808) = true) : lR z := (of_decide_eq_true h : -9223372036854775808 ≤ z ∧ z < 9223372036854775808)
theorem iR.l {z : Int} (h : iR z) : lR z := ⟨by have := h.1; omega, by have := h.2; omega⟩
theorem iR_b (x : Int32) : iR x.toInt := ⟨x.le_toInt, x.toInt_lt⟩
theorem lR_b (x : Int64) : lR x.toInt := ⟨x.le_toInt, x.toInt_lt⟩
theorem SR_setS {σ : SG} (h : SR σ) {i k : Nat} {v : Int} (hv : iR v) : SR (setS σ i k v) := by
  refine ⟨h.1, fun c j => ?_, h.2.2⟩
  show iR (u2 (σ.1) i k v c j)
  unfold u2
  split
  · exact hv
  · exact h.2.1 c j
theorem SR_setR {σ : SG} (h : SR σ) {i k v : Nat} : SR (setR σ i k v) := h
theorem SR_setA {σ : SG} (h : SR σ) {i : Nat} {f : Int → Int} (hv : ∀ j, iR (f j)) : SR (setA σ i f) := by
  refine ⟨fun c j => ?_, h.2.1, h.2.2⟩
  show iR (u1 (σ.2.2.1) i f c j)
  unfold u1
  split
  · exact hv j
  · exact h.1 c j
theorem SR_setB {σ : SG} (h : SR σ) {i : Nat} {f : Int → Int} (hv : ∀ j, lR (f j)) : SR (setB σ i f) := by
  refine ⟨h.1, h.2.1, fun c j => ?_⟩
  show lR (u1 (σ.2.2.2) i f c j)
  unfold u1
  split
  · exact hv j
  · exact h.2.2 c j
theorem SR_setI {σ : SG} (h : SR σ) {i : Nat} {k v : Int} (hv : iR v) : SR (setI σ i k v) := SR_setA h (fun j => by unfold up; split; exact hv; exact h.1 i j)
theorem SR_setL {σ : SG} (h : SR σ) {i : Nat} {k v : Int} (hv : lR v) : SR (setL σ i k v) := SR_setB h (fun j => by unfold up; split; exact hv; exact h.2.2 i j)
def isK (k : Nat) : Prop := k = 1 ∨ k = 13 ∨ k = 25
end SB
