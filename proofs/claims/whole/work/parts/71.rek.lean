/-- the row otherwise: another JUMP, another FAR, without a phrase -/
def VA (m m' : Int → Int) (W : Int) : Prop := (WF m') ∧ (∀ j, ¬ j = 6 → ¬ j = 7 → ¬ (369 ≤ j ∧ j < 669 ∧ (j - 369) % 10 = 9) → m' j = m j) ∧ (∀ s o, isO m o → 0 ≤ s → s < m 3 → isOpt m' o s = (isOpt m o s && decide (¬ o = W)))
theorem VA.wf {m m' : Int → Int} {W : Int} (h_ : VA m m' W) : WF m' := h_.1
theorem VA.e_ {m m' : Int → Int} {W : Int} (h_ : VA m m' W) : ∀ j, ¬ j = 6 → ¬ j = 7 → ¬ (369 ≤ j ∧ j < 669 ∧ (j - 369) % 10 = 9) → m' j = m j := h_.2.1
theorem VA.op {m m' : Int → Int} {W : Int} (h_ : VA m m' W) : ∀ s o, isO m o → 0 ≤ s → s < m 3 → isOpt m' o s = (isOpt m o s && decide (¬ o = W)) := h_.2.2
def ndC (c : Int) : Nd := (c / 287, c / 41 % 7, wx (c % 41))
def rsM (m : Int → Int) (x : Nd) : Int := min (restM m x.1 x.2.1 x.2.2) 1000000
section REK
variable {g : AG} {ad : Nat → Nat} {d : Nat} {σ : SG} {m m' t : Int → Int} {k : Nat} {W : Int}
theorem VA.of (h : VA m m' W) {o w : Int} (ho : 0 ≤ o) (hw : 0 ≤ w ∧ w ≤ 8) : of_ m' o w = of_ m o w := by
  unfold of_
  exact h.e_ _ (by omega) (by omega) (by omega)
theorem VA.cov (h : VA m m' W) {o : Int} (ho : 0 ≤ o) : cov m' o = cov m o := by
  unfold Jvm.Pilot.Held.cov
  rw [h.of ho (by omega)]
end REK
