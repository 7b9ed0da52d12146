/-! WHAT A WORLD IS: rows of numbers. Row 0: rows, columns, hills (bits), people, delay, days; row 1 kinds, 2 figures, 3 how many steps the plan has, 4 the day of coming; row 10 + p the plan of p; row 20 + p where p was, by day -/
abbrev Wo : Type := Nat → Nat → Nat
def fre (w : Wo) (c : Nat) : Bool := decide (c < w 0 0 * w 0 1) && !(w 0 2).testBit c
/-- where a step leads on R rows of C, hills aside -/
def sq (R C c s : Nat) : Option Nat := match s with
  | 0 => if C ≤ c then some (c - C) else none
  | 1 => if c % C + 1 < C then some (c + 1) else none
  | 2 => if c + C < R * C then some (c + C) else none
  | 3 => if 0 < c % C then some (c - 1) else none
  | _ => some c
def stp (w : Wo) (c s : Nat) : Option Nat := match sq (w 0 0) (w 0 1) c s with
  | some t => if fre w t = true then some t else none
  | none => none
def oI (o : Option Nat) : Int32 := match o with
  | some k => nI k
  | none => -1
def oN (o : Option Nat) : Int32 := match o with
  | some k => nI k
  | none => -9
def dif (a b : Nat) : Nat := (a - b) + (b - a)
def way (w : Wo) (a b : Nat) : Nat := dif (a / w 0 1) (b / w 0 1) + dif (a % w 0 1) (b % w 0 1)
/-- the cell of p now -/
def cel (w : Wo) (p : Nat) : Nat := w (20 + p) (w 0 5)
/-- where p was d days ago -/
def ago (w : Wo) (p d : Nat) : Nat := w (20 + p) (w 0 5 - d)
def sWalk (w : Wo) (p : Nat) : Nat := if w 3 p = 0 then 4 else match stp w (cel w p) (w (10 + p) (w 0 5 % w 3 p)) with
  | none => 4
  | some _ => w (10 + p) (w 0 5 % w 3 p)
/-- the best step so far and how far it leaves one -/
def huF (w : Wo) (c aim : Nat) : Nat → Nat → Option (Nat × Nat) → Option (Nat × Nat)
  | 0, _, b => b
  | n + 1, s, b => match stp w c s with
    | none => huF w c aim n (s + 1) b
    | some to => match b with
      | none => huF w c aim n (s + 1) (some (s, way w to aim))
      | some (bs, bl) => if way w to aim < bl then huF w c aim n (s + 1) (some (s, way w to aim)) else huF w c aim n (s + 1) (some (bs, bl))
def sHunt (w : Wo) (p aim : Nat) : Nat := match huF w (cel w p) aim 5 0 none with
  | none => 4
  | some (s, _) => s
/-- the least way to the others, from number o on -/
def leF (w : Wo) (p to : Nat) : Nat → Nat → Nat → Nat
  | 0, _, a => a
  | n + 1, o, a => if o = p then leF w p to n (o + 1) a else leF w p to n (o + 1) (if way w to (ago w o (w 0 4)) < a then way w to (ago w o (w 0 4)) else a)
def flF (w : Wo) (p : Nat) : Nat → Nat → Option (Nat × Nat) → Option (Nat × Nat)
  | 0, _, b => b
  | n + 1, s, b => match stp w (cel w p) s with
    | none => flF w p n (s + 1) b
    | some to => match b with
      | none => flF w p n (s + 1) (some (s, leF w p to (w 0 3) 0 99))
      | some (bs, bm) => if bm < leF w p to (w 0 3) 0 99 then flF w p n (s + 1) (some (s, leF w p to (w 0 3) 0 99)) else flF w p n (s + 1) (some (bs, bm))
def sFlee (w : Wo) (p : Nat) : Nat := match flF w p 5 0 none with
  | none => 4
  | some (s, _) => s
/-- going on by d as from a to b, held within n -/
def onw (a b d n : Nat) : Nat := if b + d * b < d * a then 0 else if n ≤ b + d * b - d * a then n - 1 else b + d * b - d * a
def sReck (w : Wo) (q : Nat) : Nat :=
  onw (ago w q (w 0 4 + 1) / w 0 1) (ago w q (w 0 4) / w 0 1) (w 0 4) (w 0 0) * w 0 1 + onw (ago w q (w 0 4 + 1) % w 0 1) (ago w q (w 0 4) % w 0 1) (w 0 4) (w 0 1)
def sOf (w : Wo) (p : Nat) : Nat :=
  if w 1 p = 4 then 4 else if w 1 p = 2 then (if w 0 3 = 1 then sWalk w p else sFlee w p) else if w 1 p = 0 ∨ w 2 p % w 0 3 = p then sWalk w p else
    sHunt w p (if w 1 p = 5 then sReck w (w 2 p % w 0 3) else ago w (w 2 p % w 0 3) (if w 1 p = 3 then w 0 4 + 1 else w 0 4))
def nxt (w : Wo) (p : Nat) : Nat := match stp w (cel w p) (sOf w p) with
  | some t => t
  | none => cel w p
def dayW (w : Wo) : Wo := fun i j => if i = 0 ∧ j = 5 then w 0 5 + 1 else if 20 ≤ i ∧ i < 20 + w 0 3 ∧ j = w 0 5 + 1 then nxt w (i - 20) else w i j
/-- the world is as it must be; its day is at most d -/
def WOK (d : Nat) (w : Wo) : Prop := (2 ≤ w 0 0 ∧ w 0 0 ≤ 5) ∧ (2 ≤ w 0 1 ∧ w 0 1 ≤ 6) ∧ w 0 2 < 2 ^ (w 0 0 * w 0 1) ∧ w 0 3 ≤ 5 ∧ w 0 4 ≤ 3 ∧ w 0 5 ≤ d ∧
  (∀ p, p < w 0 3 → w 1 p ≤ 5 ∧ w 2 p ≤ 9 ∧ w 3 p ≤ 6 ∧ w 4 p ≤ w 0 5 ∧ (∀ k, k < w 3 p → w (10 + p) k ≤ 4) ∧ (∀ j, j ≤ w 0 5 → fre w (w (20 + p) j) = true) ∧ (∀ j, j ≤ w 4 p → w (20 + p) j = w (20 + p) (w 4 p)))
theorem cells_le {w : Wo} {d : Nat} (h : WOK d w) : 4 ≤ w 0 0 * w 0 1 ∧ w 0 0 * w 0 1 ≤ 30 := by
  obtain ⟨⟨h1, h2⟩, ⟨h3, h4⟩, -⟩ := h
  exact ⟨Nat.le_trans (by decide : 4 ≤ 2 * 2) (Nat.mul_le_mul h1 h3), Nat.le_trans (Nat.mul_le_mul h2 h4) (by decide)⟩
theorem hills_lt {w : Wo} {d : Nat} (h : WOK d w) : w 0 2 < 2 ^ 30 := Nat.lt_of_lt_of_le h.2.2.1 (Nat.pow_le_pow_right (by decide) (cells_le h).2)
theorem fre_lt {w : Wo} {c : Nat} (h : fre w c = true) : c < w 0 0 * w 0 1 := by
  simp only [fre, Bool.and_eq_true, decide_eq_true_eq] at h
  exact h.1
theorem stp_fre {w : Wo} {c s t : Nat} (h : stp w c s = some t) : fre w t = true := by
  unfold stp at h
  split at h
  · split at h
    · cases h; assumption
    · cases h
  · cases h
theorem stp_stay {w : Wo} {c s : Nat} (h : fre w c = true) (hs : 4 ≤ s) : stp w c s = some c := by
  unfold stp
  have : sq (w 0 0) (w 0 1) c s = some c := by
    unfold sq
    split <;> first | omega | rfl
  rw [this]
  simp [h]
