section TOP
/-! the first w of a sorted row, one more at a time -/
theorem ins_at {rk : Int → Int} {x : Int} : ∀ (l : List Int) (n : Nat), n ≤ l.length → (∀ y ∈ l.take n, rk y < rk x) → (∀ y ∈ l.drop n, rk x < rk y) → ins rk x l = l.take n ++ x :: l.drop n
  | [], n, _, _, _ => by rw [List.take_nil, List.drop_nil]; rfl
  | y :: l, 0, _, _, h => by
    have := h y (by rw [List.drop_zero]; exact List.mem_cons_self ..)
    rw [ins, if_pos (by omega), List.take_zero, List.drop_zero]
    rfl
  | y :: l, n + 1, hn, h1, h2 => by
    have := h1 y (by rw [List.take_succ_cons]; exact List.mem_cons_self ..)
    rw [ins, if_neg (by omega), List.take_succ_cons, List.drop_succ_cons, ins_at l n (by rw [List.length_cons] at hn; omega) (fun z hz => h1 z (by rw [List.take_succ_cons]; exact List.mem_cons_of_mem _ hz)) (fun z hz => h2 z (by rw [List.drop_succ_cons]; exact hz))]
    rfl
theorem take_ins {rk : Int → Int} {x : Int} : ∀ (l : List Int) (w : Nat), (ins rk x l).take w = (ins rk x (l.take w)).take w
  | [], w => by rw [List.take_nil]
  | y :: l, 0 => by rw [List.take_zero, List.take_zero]
  | y :: l, w + 1 => by
    rw [List.take_succ_cons, ins, ins]
    by_cases c : rk x ≤ rk y
    · rw [if_pos c, if_pos c, List.take_succ_cons, List.take_succ_cons]
      cases w with
      | zero => rfl
      | succ v => rw [List.take_succ_cons, List.take_succ_cons, List.take_take, show min v (v + 1) = v by omega]
    · rw [if_neg c, if_neg c, List.take_succ_cons, List.take_succ_cons, take_ins l w]
theorem top_step {rk : Int → Int} {x : Int} (P : List Int) (w : Nat) : (srt rk (x :: P)).take w = (ins rk x ((srt rk P).take w)).take w := take_ins (srt rk P) w
/-- one that comes behind all does not come in -/
theorem top_out {rk : Int → Int} {x : Int} {T : List Int} {w : Nat} (hl : T.length = w) (h : ∀ y ∈ T, rk y < rk x) : (ins rk x T).take w = T := by
  rw [ins_at T T.length (Nat.le_refl _) (fun y hy => h y (by rw [List.take_length] at hy; exact hy)) (fun y hy => by rw [List.drop_length] at hy; cases hy), List.take_length, ← hl, List.take_left']
  rfl
/-- one that comes ahead of the last takes the last one's room -/
theorem top_in {rk : Int → Int} {x z : Int} {T : List Int} (h : rk x < rk z) : (ins rk x (T ++ [z])).take (T.length + 1) = ins rk x T := by
  have key : ∀ T : List Int, ins rk x (T ++ [z]) = ins rk x T ++ [z] := by
    intro T
    induction T with
    | nil =>
      show ins rk x [z] = [x] ++ [z]
      rw [ins, if_pos (by omega)]
      rfl
    | cons y T ih =>
      show ins rk x (y :: (T ++ [z])) = ins rk x (y :: T) ++ [z]
      rw [ins, ins]
      by_cases c : rk x ≤ rk y
      · rw [if_pos c, if_pos c]; rfl
      · rw [if_neg c, if_neg c, ih]; rfl
  rw [key, List.take_left']
  exact len_ins
/-- sorted rows with the same numbers are the same -/
theorem srt_same {rk : Int → Int} {l l' : List Int} (h : l.Pairwise (fun a b => rk a ≠ rk b)) (h' : l'.Pairwise (fun a b => rk a ≠ rk b)) (he : ∀ z, z ∈ l ↔ z ∈ l') : srt rk l = srt rk l' := up_uni (up_srt h) (up_srt h') (fun z => by rw [mem_srt, mem_srt]; exact he z)
end TOP
