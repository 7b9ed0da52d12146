set_option maxRecDepth 20000 in
theorem x_700 : (∀  (w : Option Rf) (h : Hp), run 0 700 0 [some (vo w)] [] h = run 0 700 1 [some (vo w)] [vo w] h) ∧
  (∀ (l0 : Option AV) (w : Rf) (h : Hp), run 0 700 1 [l0] [vo (some w)] h = run 0 700 4 [l0] [] h) ∧
  (∀  (w : Option Rf) (h : Hp), run 0 700 4 [some (vo w)] [] h = run 0 700 5 [some (vo w)] [vo w] h) ∧
  (∀ (l0 : Option AV) (s0 : Option Rf) (h : Hp), run 0 700 5 [l0] [vo s0] h = run 0 700 6 [l0] [vi (0 : Int32), vo s0] h) ∧
  (∀ (l0 : Option AV) (s0 : Int32) (o z : Nat) (h : Hp), run 0 700 6 [l0] [vi s0, vo (some (o, 7, z))] h = run 0 700 9 [l0] [] (hsI h o 0 s0)) ∧
  (∀  (w : Option Rf) (h : Hp), run 0 700 9 [some (vo w)] [] h = run 0 700 10 [some (vo w)] [vo w] h) ∧
  (∀ (l0 : Option AV) (s0 : Option Rf) (h : Hp), run 0 700 10 [l0] [vo s0] h = run 0 700 12 [l0] [vi (6 : Int32), vo s0] h) ∧
  (∀ (l0 : Option AV) (s0 : Int32) (s1 : Option Rf) (h : Hp), run 0 700 12 [l0] [vi s0, vo s1] h = if s0 < 0 ∨ 100000 ≤ s0.toNatClampNeg then none else run 0 700 14 [l0] [vo (some (h.1.1, 13, s0.toNatClampNeg)), vo s1] (hmk h s0.toNatClampNeg)) ∧
  (∀ (l0 : Option AV) (s0 : Option Rf) (o z : Nat) (h : Hp), run 0 700 14 [l0] [vo s0, vo (some (o, 7, z))] h = run 0 700 17 [l0] [] (hsR h o 1 s0)) ∧
  (∀  (w : Option Rf) (h : Hp), run 0 700 17 [some (vo w)] [] h = run 0 700 18 [some (vo w)] [vo w] h) ∧
  (∀ (l0 : Option AV) (s0 : Option Rf) (h : Hp), run 0 700 18 [l0] [vo s0] h = run 0 700 20 [l0] [vi (6 : Int32), vo s0] h) ∧
  (∀ (l0 : Option AV) (s0 : Int32) (s1 : Option Rf) (h : Hp), run 0 700 20 [l0] [vi s0, vo s1] h = if s0 < 0 ∨ 100000 ≤ s0.toNatClampNeg then none else run 0 700 22 [l0] [vo (some (h.1.1, 13, s0.toNatClampNeg)), vo s1] (hmk h s0.toNatClampNeg)) ∧
  (∀ (l0 : Option AV) (s0 : Option Rf) (o z : Nat) (h : Hp), run 0 700 22 [l0] [vo s0, vo (some (o, 7, z))] h = run 0 700 25 [l0] [] (hsR h o 2 s0)) ∧
  (∀  (w : Option Rf) (h : Hp), run 0 700 25 [some (vo w)] [] h = run 0 700 26 [some (vo w)] [vo w] h) ∧
  (∀ (l0 : Option AV) (s0 : Option Rf) (h : Hp), run 0 700 26 [l0] [vo s0] h = run 0 700 28 [l0] [vi (30 : Int32), vo s0] h) ∧
  (∀ (l0 : Option AV) (s0 : Int32) (s1 : Option Rf) (h : Hp), run 0 700 28 [l0] [vi s0, vo s1] h = if s0 < 0 ∨ 100000 ≤ s0.toNatClampNeg then none else run 0 700 30 [l0] [vo (some (h.1.1, 13, s0.toNatClampNeg)), vo s1] (hmk h s0.toNatClampNeg)) ∧
  (∀ (l0 : Option AV) (s0 : Option Rf) (o z : Nat) (h : Hp), run 0 700 30 [l0] [vo s0, vo (some (o, 7, z))] h = run 0 700 33 [l0] [] (hsR h o 3 s0)) ∧
  (∀  (w : Option Rf) (h : Hp), run 0 700 33 [some (vo w)] [] h = run 0 700 34 [some (vo w)] [vo w] h) ∧
  (∀ (l0 : Option AV) (s0 : Option Rf) (h : Hp), run 0 700 34 [l0] [vo s0] h = run 0 700 36 [l0] [vi (30 : Int32), vo s0] h) ∧
  (∀ (l0 : Option AV) (s0 : Int32) (s1 : Option Rf) (h : Hp), run 0 700 36 [l0] [vi s0, vo s1] h = if s0 < 0 ∨ 100000 ≤ s0.toNatClampNeg then none else run 0 700 38 [l0] [vo (some (h.1.1, 13, s0.toNatClampNeg)), vo s1] (hmk h s0.toNatClampNeg)) ∧
  (∀ (l0 : Option AV) (s0 : Option Rf) (o z : Nat) (h : Hp), run 0 700 38 [l0] [vo s0, vo (some (o, 7, z))] h = run 0 700 41 [l0] [] (hsR h o 4 s0)) ∧
  (∀  (w : Option Rf) (h : Hp), run 0 700 41 [some (vo w)] [] h = run 0 700 42 [some (vo w)] [vo w] h) ∧
  (∀ (l0 : Option AV) (s0 : Option Rf) (h : Hp), run 0 700 42 [l0] [vo s0] h = run 0 700 44 [l0] [vi (30 : Int32), vo s0] h) ∧
  (∀ (l0 : Option AV) (s0 : Int32) (s1 : Option Rf) (h : Hp), run 0 700 44 [l0] [vi s0, vo s1] h = if s0 < 0 ∨ 100000 ≤ s0.toNatClampNeg then none else run 0 700 46 [l0] [vo (some (h.1.1, 13, s0.toNatClampNeg)), vo s1] (hmk h s0.toNatClampNeg)) ∧
  (∀ (l0 : Option AV) (s0 : Option Rf) (o z : Nat) (h : Hp), run 0 700 46 [l0] [vo s0, vo (some (o, 7, z))] h = run 0 700 49 [l0] [] (hsR h o 5 s0)) ∧
  (∀ (l0 : Option AV) (h : Hp), run 0 700 49 [l0] [] h = some (none, h)) := ⟨(fun _ _ => run_next rfl rfl),
  (fun _ _ _ => run_next rfl rfl),
  (fun _ _ => run_next rfl rfl),
  (fun _ s0 _ => run_next rfl rfl),
  (fun _ s0 _ _ _ => run_next rfl rfl),
  (fun _ _ => run_next rfl rfl),
  (fun _ s0 _ => run_next rfl rfl),
  (fun _ s0 _ _ => run_if rfl rfl (run_fail rfl) (run_next rfl)),
  (fun _ s0 _ _ _ => run_next rfl rfl),
  (fun _ _ => run_next rfl rfl),
  (fun _ s0 _ => run_next rfl rfl),
  (fun _ s0 _ _ => run_if rfl rfl (run_fail rfl) (run_next rfl)),
  (fun _ s0 _ _ _ => run_next rfl rfl),
  (fun _ _ => run_next rfl rfl),
  (fun _ s0 _ => run_next rfl rfl),
  (fun _ s0 _ _ => run_if rfl rfl (run_fail rfl) (run_next rfl)),
  (fun _ s0 _ _ _ => run_next rfl rfl),
  (fun _ _ => run_next rfl rfl),
  (fun _ s0 _ => run_next rfl rfl),
  (fun _ s0 _ _ => run_if rfl rfl (run_fail rfl) (run_next rfl)),
  (fun _ s0 _ _ _ => run_next rfl rfl),
  (fun _ _ => run_next rfl rfl),
  (fun _ s0 _ => run_next rfl rfl),
  (fun _ s0 _ _ => run_if rfl rfl (run_fail rfl) (run_next rfl)),
  (fun _ s0 _ _ _ => run_next rfl rfl),
  (fun _ _ => run_ret rfl rfl)⟩
theorem e_700 (v : Option Rf) (h : Hp) : call 700 [vo v] h = run 0 700 0 [some (vo v)] [] h := rfl
set_option maxRecDepth 20000 in
theorem x_701 : (∀  (w : Option Rf) (h : Hp), run 0 701 0 [some (vo w)] [] h = run 0 701 1 [some (vo w)] [vo w] h) ∧
  (∀ (l0 : Option AV) (o z : Nat) (h : Hp), run 0 701 1 [l0] [vo (some (o, 7, z))] h = run 0 701 4 [l0] [vi (hI h o 0)] h) ∧
  (∀ (l0 : Option AV) (s0 : Int32) (h : Hp), run 0 701 4 [l0] [vi s0] h = run 0 701 6 [l0] [vi (6 : Int32), vi s0] h) ∧
  (∀ (l0 : Option AV) (s0 : Int32) (s1 : Int32) (h : Hp), run 0 701 6 [l0] [vi s0, vi s1] h = if s1 < s0 then run 0 701 13 [l0] [] h else run 0 701 9 [l0] [] h) ∧
  (∀ (l0 : Option AV) (h : Hp), run 0 701 9 [l0] [] h = run 0 701 10 [l0] [vi (1 : Int32)] h) ∧
  (∀ (l0 : Option AV) (s0 : Int32) (h : Hp), run 0 701 10 [l0] [vi s0] h = run 0 701 14 [l0] [vi s0] h) ∧
  (∀ (l0 : Option AV) (h : Hp), run 0 701 13 [l0] [] h = run 0 701 14 [l0] [vi (0 : Int32)] h) ∧
  (∀ (l0 : Option AV) (s0 : Int32) (h : Hp), run 0 701 14 [l0] [vi s0] h = if am_isd s0 = true then some (some (vi s0), h) else none) := ⟨(fun _ _ => run_next rfl rfl),
  (fun _ _ _ _ => run_next rfl rfl),
  (fun _ s0 _ => run_next rfl rfl),
  (fun _ s0 _ _ => run_if rfl rfl (run_next rfl) (run_next rfl)),
  (fun _ _ => run_next rfl rfl),
  (fun _ s0 _ => run_next rfl rfl),
  (fun _ _ => run_next rfl rfl),
  (fun _ s0 _ => run_ifz rfl rfl (by simp) (run_ret rfl) (run_fail rfl))⟩
theorem e_701 (v : Option Rf) (h : Hp) : call 701 [vo v] h = run 0 701 0 [some (vo v)] [] h := rfl
set_option maxRecDepth 20000 in
theorem x_702 : (∀ (l1 l2 : Option AV) (w : Option Rf) (h : Hp), run 1 702 0 [some (vo w), l1, l2] [] h = run 1 702 1 [some (vo w), l1, l2] [vo w] h) ∧
  (∀ (l0 l1 l2 : Option AV) (o z : Nat) (h : Hp), run 1 702 1 [l0, l1, l2] [vo (some (o, 7, z))] h = (call 701 [vo (some (o, 7, z))] h).bind (fun z => run 1 702 4 [l0, l1, l2] (z.1.toList ++ []) z.2)) ∧
  (∀ (l0 l1 l2 : Option AV) (s0 : Int32) (h : Hp), run 1 702 4 [l0, l1, l2] [vi s0] h = if s0 = 0 then run 1 702 7 [l0, l1, l2] [] h else run 1 702 37 [l0, l1, l2] [] h) ∧
  (∀ (l1 l2 : Option AV) (w : Option Rf) (h : Hp), run 1 702 7 [some (vo w), l1, l2] [] h = run 1 702 8 [some (vo w), l1, l2] [vo w] h) ∧
  (∀ (l0 l1 l2 : Option AV) (o z : Nat) (h : Hp), run 1 702 8 [l0, l1, l2] [vo (some (o, 7, z))] h = run 1 702 11 [l0, l1, l2] [vo (hR h o 1)] h) ∧
  (∀ (l1 l2 : Option AV) (s0 : Option Rf) (w : Option Rf) (h : Hp), run 1 702 11 [some (vo w), l1, l2] [vo s0] h = run 1 702 12 [some (vo w), l1, l2] [vo w, vo s0] h) ∧
  (∀ (l0 l1 l2 : Option AV) (s1 : Option Rf) (o z : Nat) (h : Hp), run 1 702 12 [l0, l1, l2] [vo (some (o, 7, z)), vo s1] h = run 1 702 15 [l0, l1, l2] [vi (hI h o 0), vo s1] h) ∧
  (∀ (l0 l2 : Option AV) (s0 : Int32) (s1 : Option Rf) (w : Int32) (h : Hp), run 1 702 15 [l0, some (vi w), l2] [vi s0, vo s1] h = run 1 702 16 [l0, some (vi w), l2] [vi w, vi s0, vo s1] h) ∧
  (∀ (l0 l1 l2 : Option AV) (s0 : Int32) (s1 : Int32) (o z : Nat) (h : Hp), run 1 702 16 [l0, l1, l2] [vi s0, vi s1, vo (some (o, 13, z))] h = if s1 < 0 ∨ z ≤ s1.toNatClampNeg then none else run 1 702 17 [l0, l1, l2] [] (hsI h o s1.toNatClampNeg s0)) ∧
  (∀ (l1 l2 : Option AV) (w : Option Rf) (h : Hp), run 1 702 17 [some (vo w), l1, l2] [] h = run 1 702 18 [some (vo w), l1, l2] [vo w] h) ∧
  (∀ (l0 l1 l2 : Option AV) (o z : Nat) (h : Hp), run 1 702 18 [l0, l1, l2] [vo (some (o, 7, z))] h = run 1 702 21 [l0, l1, l2] [vo (hR h o 2)] h) ∧
  (∀ (l1 l2 : Option AV) (s0 : Option Rf) (w : Option Rf) (h : Hp), run 1 702 21 [some (vo w), l1, l2] [vo s0] h = run 1 702 22 [some (vo w), l1, l2] [vo w, vo s0] h) ∧
  (∀ (l0 l1 l2 : Option AV) (s1 : Option Rf) (o z : Nat) (h : Hp), run 1 702 22 [l0, l1, l2] [vo (some (o, 7, z)), vo s1] h = run 1 702 25 [l0, l1, l2] [vi (hI h o 0), vo s1] h) ∧
  (∀ (l0 l1 : Option AV) (s0 : Int32) (s1 : Option Rf) (w : Int32) (h : Hp), run 1 702 25 [l0, l1, some (vi w)] [vi s0, vo s1] h = run 1 702 26 [l0, l1, some (vi w)] [vi w, vi s0, vo s1] h) ∧
  (∀ (l0 l1 l2 : Option AV) (s0 : Int32) (s1 : Int32) (o z : Nat) (h : Hp), run 1 702 26 [l0, l1, l2] [vi s0, vi s1, vo (some (o, 13, z))] h = if s1 < 0 ∨ z ≤ s1.toNatClampNeg then none else run 1 702 27 [l0, l1, l2] [] (hsI h o s1.toNatClampNeg s0)) ∧
  (∀ (l1 l2 : Option AV) (w : Option Rf) (h : Hp), run 1 702 27 [some (vo w), l1, l2] [] h = run 1 702 28 [some (vo w), l1, l2] [vo w] h) ∧
  (∀ (l0 l1 l2 : Option AV) (s0 : Option Rf) (h : Hp), run 1 702 28 [l0, l1, l2] [vo s0] h = run 1 702 29 [l0, l1, l2] [vo s0, vo s0] h) ∧
  (∀ (l0 l1 l2 : Option AV) (s1 : Option Rf) (o z : Nat) (h : Hp), run 1 702 29 [l0, l1, l2] [vo (some (o, 7, z)), vo s1] h = run 1 702 32 [l0, l1, l2] [vi (hI h o 0), vo s1] h) ∧
  (∀ (l0 l1 l2 : Option AV) (s0 : Int32) (s1 : Option Rf) (h : Hp), run 1 702 32 [l0, l1, l2] [vi s0, vo s1] h = run 1 702 33 [l0, l1, l2] [vi (1 : Int32), vi s0, vo s1] h) ∧
  (∀ (l0 l1 l2 : Option AV) (s0 : Int32) (s1 : Int32) (s2 : Option Rf) (h : Hp), run 1 702 33 [l0, l1, l2] [vi s0, vi s1, vo s2] h = run 1 702 34 [l0, l1, l2] [vi (s1 + s0), vo s2] h) ∧
  (∀ (l0 l1 l2 : Option AV) (s0 : Int32) (o z : Nat) (h : Hp), run 1 702 34 [l0, l1, l2] [vi s0, vo (some (o, 7, z))] h = run 1 702 37 [l0, l1, l2] [] (hsI h o 0 s0)) ∧
  (∀ (l1 l2 : Option AV) (w : Option Rf) (h : Hp), run 1 702 37 [some (vo w), l1, l2] [] h = run 1 702 38 [some (vo w), l1, l2] [vo w] h) ∧
  (∀ (l0 l1 l2 : Option AV) (o z : Nat) (h : Hp), run 1 702 38 [l0, l1, l2] [vo (some (o, 7, z))] h = run 1 702 41 [l0, l1, l2] [vi (hI h o 0)] h) ∧
  (∀ (l0 l1 l2 : Option AV) (s0 : Int32) (h : Hp), run 1 702 41 [l0, l1, l2] [vi s0] h = some (some (vi s0), h)) := ⟨(fun _ _ _ _ => run_next rfl rfl),
  (fun _ _ _ _ _ _ => run_calx rfl rfl (Nat.le_of_ble_eq_true rfl) (Nat.le_of_ble_eq_true rfl) rfl),
  (fun _ _ _ s0 _ => run_if rfl rfl (run_next rfl) (run_next rfl)),
  (fun _ _ _ _ => run_next rfl rfl),
  (fun _ _ _ _ _ _ => run_next rfl rfl),
  (fun _ _ s0 _ _ => run_next rfl rfl),
  (fun _ _ _ _ _ _ _ => run_next rfl rfl),
  (fun _ _ s0 _ _ _ => run_next rfl rfl),
  (fun _ _ _ s0 _ _ _ _ => run_if rfl rfl (run_fail rfl) (run_next rfl)),
  (fun _ _ _ _ => run_next rfl rfl),
  (fun _ _ _ _ _ _ => run_next rfl rfl),
  (fun _ _ s0 _ _ => run_next rfl rfl),
  (fun _ _ _ _ _ _ _ => run_next rfl rfl),
  (fun _ _ s0 _ _ _ => run_next rfl rfl),
  (fun _ _ _ s0 _ _ _ _ => run_if rfl rfl (run_fail rfl) (run_next rfl)),
  (fun _ _ _ _ => run_next rfl rfl),
  (fun _ _ _ s0 _ => run_next rfl rfl),
  (fun _ _ _ _ _ _ _ => run_next rfl rfl),
  (fun _ _ _ s0 _ _ => run_next rfl rfl),
  (fun _ _ _ s0 _ _ _ => run_next rfl rfl),
  (fun _ _ _ s0 _ _ _ => run_next rfl rfl),
  (fun _ _ _ _ => run_next rfl rfl),
  (fun _ _ _ _ _ _ => run_next rfl rfl),
  (fun _ _ _ s0 _ => run_ret rfl rfl)⟩
theorem e_702 (v : Option Rf) (a0 : Int32) (a1 : Int32) (h : Hp) : call 702 [vo v, vi a0, vi a1] h = run 1 702 0 [some (vo v), some (vi a0), some (vi a1)] [] h := rfl
set_option maxRecDepth 20000 in
theorem x_703 : (∀ (l1 : Option AV) (w : Option Rf) (h : Hp), run 0 703 0 [some (vo w), l1] [] h = run 0 703 1 [some (vo w), l1] [vo w] h) ∧
  (∀ (l0 l1 : Option AV) (o z : Nat) (h : Hp), run 0 703 1 [l0, l1] [vo (some (o, 7, z))] h = run 0 703 4 [l0, l1] [vi (hI h o 0)] h) ∧
  (∀ (l1 : Option AV) (s0 : Int32) (h : Hp), run 0 703 4 [none, l1] [vi s0] h = run 0 703 5 [none, some (vi s0)] [] h) ∧
  (∀ (l1 : Option AV) (s0 : Int32) (w1 : Int32) (h : Hp), run 0 703 4 [some (vi w1), l1] [vi s0] h = run 0 703 5 [some (vi w1), some (vi s0)] [] h) ∧
  (∀ (l1 : Option AV) (s0 : Int32) (w1 : Option Rf) (h : Hp), run 0 703 4 [some (vo w1), l1] [vi s0] h = run 0 703 5 [some (vo w1), some (vi s0)] [] h) ∧
  (∀ (l1 : Option AV) (w : Option Rf) (h : Hp), run 0 703 5 [some (vo w), l1] [] h = run 0 703 6 [some (vo w), l1] [vo w] h) ∧
  (∀ (l0 l1 : Option AV) (s0 : Option Rf) (h : Hp), run 0 703 6 [l0, l1] [vo s0] h = run 0 703 7 [l0, l1] [vi (0 : Int32), vo s0] h) ∧
  (∀ (l0 l1 : Option AV) (s0 : Int32) (o z : Nat) (h : Hp), run 0 703 7 [l0, l1] [vi s0, vo (some (o, 7, z))] h = run 0 703 10 [l0, l1] [] (hsI h o 0 s0)) ∧
  (∀ (l0 : Option AV) (w : Int32) (h : Hp), run 0 703 10 [l0, some (vi w)] [] h = run 0 703 11 [l0, some (vi w)] [vi w] h) ∧
  (∀ (l0 l1 : Option AV) (s0 : Int32) (h : Hp), run 0 703 11 [l0, l1] [vi s0] h = some (some (vi s0), h)) := ⟨(fun _ _ _ => run_next rfl rfl),
  (fun _ _ _ _ _ => run_next rfl rfl),
  (fun _ s0 _ => run_next rfl rfl),
  (fun _ s0 _ _ => run_next rfl rfl),
  (fun _ s0 _ _ => run_next rfl rfl),
  (fun _ _ _ => run_next rfl rfl),
  (fun _ _ s0 _ => run_next rfl rfl),
  (fun _ _ s0 _ _ _ => run_next rfl rfl),
  (fun _ _ _ => run_next rfl rfl),
  (fun _ _ s0 _ => run_ret rfl rfl)⟩
theorem e_703 (v : Option Rf) (h : Hp) : call 703 [vo v] h = run 0 703 0 [some (vo v), none] [] h := rfl
set_option maxRecDepth 20000 in
theorem x_704 : (∀ (l0 l1 l2 : Option AV) (h : Hp), run 0 704 0 [l0, l1, l2] [] h = run 0 704 1 [l0, l1, l2] [vi (0 : Int32)] h) ∧
  (∀ (l1 l2 : Option AV) (s0 : Int32) (h : Hp), run 0 704 1 [none, l1, l2] [vi s0] h = run 0 704 2 [none, some (vi s0), l2] [] h) ∧
  (∀ (l1 l2 : Option AV) (s0 : Int32) (w1 : Int32) (h : Hp), run 0 704 1 [some (vi w1), l1, l2] [vi s0] h = run 0 704 2 [some (vi w1), some (vi s0), l2] [] h) ∧
  (∀ (l1 l2 : Option AV) (s0 : Int32) (w1 : Option Rf) (h : Hp), run 0 704 1 [some (vo w1), l1, l2] [vi s0] h = run 0 704 2 [some (vo w1), some (vi s0), l2] [] h) ∧
  (∀ (l0 l1 l2 : Option AV) (h : Hp), run 0 704 2 [l0, l1, l2] [] h = run 0 704 3 [l0, l1, l2] [vi (0 : Int32)] h) ∧
  (∀ (l0 l2 : Option AV) (s0 : Int32) (h : Hp), run 0 704 3 [l0, none, l2] [vi s0] h = run 0 704 4 [l0, none, some (vi s0)] [] h) ∧
  (∀ (l0 l2 : Option AV) (s0 : Int32) (w1 : Int32) (h : Hp), run 0 704 3 [l0, some (vi w1), l2] [vi s0] h = run 0 704 4 [l0, some (vi w1), some (vi s0)] [] h) ∧
  (∀ (l0 l2 : Option AV) (s0 : Int32) (w1 : Option Rf) (h : Hp), run 0 704 3 [l0, some (vo w1), l2] [vi s0] h = run 0 704 4 [l0, some (vo w1), some (vi s0)] [] h) ∧
  (∀ (l1 l2 : Option AV) (s0 : Int32) (w : Option Rf) (h : Hp), run 0 704 5 [some (vo w), l1, l2] [vi s0] h = run 0 704 6 [some (vo w), l1, l2] [vo w, vi s0] h) ∧
  (∀ (l0 l1 l2 : Option AV) (s1 : Int32) (o z : Nat) (h : Hp), run 0 704 6 [l0, l1, l2] [vo (some (o, 7, z)), vi s1] h = run 0 704 9 [l0, l1, l2] [vi (hI h o 0), vi s1] h) ∧
  (∀ (l0 l1 l2 : Option AV) (s0 : Int32) (s1 : Int32) (h : Hp), run 0 704 9 [l0, l1, l2] [vi s0, vi s1] h = if s0 ≤ s1 then run 0 704 29 [l0, l1, l2] [] h else run 0 704 12 [l0, l1, l2] [] h) ∧
  (∀ (l0 l2 : Option AV) (w : Int32) (h : Hp), run 0 704 12 [l0, some (vi w), l2] [] h = run 0 704 13 [l0, some (vi w), l2] [vi w] h) ∧
  (∀ (l1 l2 : Option AV) (s0 : Int32) (w : Option Rf) (h : Hp), run 0 704 13 [some (vo w), l1, l2] [vi s0] h = run 0 704 14 [some (vo w), l1, l2] [vo w, vi s0] h) ∧
  (∀ (l0 l1 l2 : Option AV) (s1 : Int32) (o z : Nat) (h : Hp), run 0 704 14 [l0, l1, l2] [vo (some (o, 7, z)), vi s1] h = run 0 704 17 [l0, l1, l2] [vo (hR h o 1), vi s1] h) ∧
  (∀ (l0 l1 : Option AV) (s0 : Option Rf) (s1 : Int32) (w : Int32) (h : Hp), run 0 704 17 [l0, l1, some (vi w)] [vo s0, vi s1] h = run 0 704 18 [l0, l1, some (vi w)] [vi w, vo s0, vi s1] h) ∧
  (∀ (l0 l1 l2 : Option AV) (s0 : Int32) (s2 : Int32) (o z : Nat) (h : Hp), run 0 704 18 [l0, l1, l2] [vi s0, vo (some (o, 13, z)), vi s2] h = if s0 < 0 ∨ z ≤ s0.toNatClampNeg then none else run 0 704 19 [l0, l1, l2] [vi (hI h o s0.toNatClampNeg), vi s2] h) ∧
  (∀ (l0 l1 l2 : Option AV) (s0 : Int32) (s1 : Int32) (h : Hp), run 0 704 19 [l0, l1, l2] [vi s0, vi s1] h = run 0 704 22 [l0, l1, l2] [vi (if s1 < s0 then s0 else s1)] h) ∧
  (∀ (l1 l2 : Option AV) (s0 : Int32) (h : Hp), run 0 704 22 [none, l1, l2] [vi s0] h = run 0 704 23 [none, some (vi s0), l2] [] h) ∧
  (∀ (l1 l2 : Option AV) (s0 : Int32) (w1 : Int32) (h : Hp), run 0 704 22 [some (vi w1), l1, l2] [vi s0] h = run 0 704 23 [some (vi w1), some (vi s0), l2] [] h) ∧
  (∀ (l1 l2 : Option AV) (s0 : Int32) (w1 : Option Rf) (h : Hp), run 0 704 22 [some (vo w1), l1, l2] [vi s0] h = run 0 704 23 [some (vo w1), some (vi s0), l2] [] h) ∧
  (∀ (l0 : Option AV) (w : Int32) (h : Hp), run 0 704 23 [l0, none, some (vi w)] [] h = run 0 704 26 [l0, none, some (vi (w + (1 : Int32)))] [] h) ∧
  (∀ (l0 : Option AV) (w1 : Int32) (w : Int32) (h : Hp), run 0 704 23 [l0, some (vi w1), some (vi w)] [] h = run 0 704 26 [l0, some (vi w1), some (vi (w + (1 : Int32)))] [] h) ∧
  (∀ (l0 : Option AV) (w1 : Option Rf) (w : Int32) (h : Hp), run 0 704 23 [l0, some (vo w1), some (vi w)] [] h = run 0 704 26 [l0, some (vo w1), some (vi (w + (1 : Int32)))] [] h) ∧
  (∀ (l0 l1 l2 : Option AV) (h : Hp), run 0 704 26 [l0, l1, l2] [] h = run 0 704 4 [l0, l1, l2] [] h) ∧
  (∀ (l0 l2 : Option AV) (w : Int32) (h : Hp), run 0 704 29 [l0, some (vi w), l2] [] h = run 0 704 30 [l0, some (vi w), l2] [vi w] h) ∧
  (∀ (l0 l1 l2 : Option AV) (s0 : Int32) (h : Hp), run 0 704 30 [l0, l1, l2] [vi s0] h = some (some (vi s0), h)) := ⟨(fun _ _ _ _ => run_next rfl rfl),
  (fun _ _ s0 _ => run_next rfl rfl),
  (fun _ _ s0 _ _ => run_next rfl rfl),
  (fun _ _ s0 _ _ => run_next rfl rfl),
  (fun _ _ _ _ => run_next rfl rfl),
  (fun _ _ s0 _ => run_next rfl rfl),
  (fun _ _ s0 _ _ => run_next rfl rfl),
  (fun _ _ s0 _ _ => run_next rfl rfl),
  (fun _ _ s0 _ _ => run_next rfl rfl),
  (fun _ _ _ _ _ _ _ => run_next rfl rfl),
  (fun _ _ _ s0 _ _ => run_if rfl rfl (run_next rfl) (run_next rfl)),
  (fun _ _ _ _ => run_next rfl rfl),
  (fun _ _ s0 _ _ => run_next rfl rfl),
  (fun _ _ _ _ _ _ _ => run_next rfl rfl),
  (fun _ _ s0 _ _ _ => run_next rfl rfl),
  (fun _ _ _ s0 _ _ _ _ => run_if rfl rfl (run_fail rfl) (run_next rfl)),
  (fun _ _ _ s0 _ _ => run_next rfl rfl),
  (fun _ _ s0 _ => run_next rfl rfl),
  (fun _ _ s0 _ _ => run_next rfl rfl),
  (fun _ _ s0 _ _ => run_next rfl rfl),
  (fun _ _ _ => run_next rfl rfl),
  (fun _ _ _ _ => run_next rfl rfl),
  (fun _ _ _ _ => run_next rfl rfl),
  (fun _ _ _ _ => run_next rfl rfl),
  (fun _ _ _ _ => run_next rfl rfl),
  (fun _ _ _ s0 _ => run_ret rfl rfl)⟩
set_option maxRecDepth 20000 in
theorem x_704_4 : (∀ (l0 l1 : Option AV) (w : Int32) (h : Hp), run 0 704 4 [l0, l1, some (vi w)] [] h = run 0 704 5 [l0, l1, some (vi w)] [vi w] h) := (fun _ _ _ _ => run_next rfl rfl)
theorem e_704 (v : Option Rf) (h : Hp) : call 704 [vo v] h = run 0 704 0 [some (vo v), none, none] [] h := rfl
set_option maxRecDepth 20000 in
theorem x_705 : (∀ (l1 l2 l3 l4 l5 : Option AV) (w : Option Rf) (h : Hp), run 3 705 0 [some (vo w), l1, l2, l3, l4, l5] [] h = run 3 705 1 [some (vo w), l1, l2, l3, l4, l5] [vo w] h) ∧
  (∀ (l0 l2 l3 l4 l5 : Option AV) (s0 : Option Rf) (w : Option Rf) (h : Hp), run 3 705 1 [l0, some (vo w), l2, l3, l4, l5] [vo s0] h = run 3 705 2 [l0, some (vo w), l2, l3, l4, l5] [vo w, vo s0] h) ∧
  (∀ (l0 l1 l3 l4 l5 : Option AV) (s0 : Option Rf) (s1 : Option Rf) (w : Int32) (h : Hp), run 3 705 2 [l0, l1, some (vi w), l3, l4, l5] [vo s0, vo s1] h = run 3 705 3 [l0, l1, some (vi w), l3, l4, l5] [vi w, vo s0, vo s1] h) ∧
  (∀ (l0 l1 l2 l3 l4 l5 : Option AV) (s0 : Int32) (s1 : Option Rf) (o z : Nat) (h : Hp), run 3 705 3 [l0, l1, l2, l3, l4, l5] [vi s0, vo s1, vo (some (o, 7, z))] h = (call 708 [vo (some (o, 7, z)), vo s1, vi s0] h).bind (fun z => run 3 705 6 [l0, l1, l2, l3, l4, l5] (z.1.toList ++ []) z.2)) ∧
  (∀ (l0 l1 l2 l3 l4 l5 : Option AV) (h : Hp), run 3 705 6 [l0, l1, l2, l3, l4, l5] [] h = run 3 705 7 [l0, l1, l2, l3, l4, l5] [vi (0 : Int32)] h) ∧
  (∀ (l0 l1 l2 l3 l5 : Option AV) (s0 : Int32) (h : Hp), run 3 705 7 [l0, l1, l2, l3, none, l5] [vi s0] h = run 3 705 9 [l0, l1, l2, l3, none, some (vi s0)] [] h) ∧
  (∀ (l0 l1 l2 l3 l5 : Option AV) (s0 : Int32) (w1 : Int32) (h : Hp), run 3 705 7 [l0, l1, l2, l3, some (vi w1), l5] [vi s0] h = run 3 705 9 [l0, l1, l2, l3, some (vi w1), some (vi s0)] [] h) ∧
  (∀ (l0 l1 l2 l3 l5 : Option AV) (s0 : Int32) (w1 : Option Rf) (h : Hp), run 3 705 7 [l0, l1, l2, l3, some (vo w1), l5] [vi s0] h = run 3 705 9 [l0, l1, l2, l3, some (vo w1), some (vi s0)] [] h) ∧
  (∀ (l0 l1 l2 l3 l5 : Option AV) (s0 : Int32) (w : Int32) (h : Hp), run 3 705 11 [l0, l1, l2, l3, some (vi w), l5] [vi s0] h = run 3 705 13 [l0, l1, l2, l3, some (vi w), l5] [vi w, vi s0] h) ∧
  (∀ (l0 l1 l2 l3 l4 l5 : Option AV) (s0 : Int32) (s1 : Int32) (h : Hp), run 3 705 13 [l0, l1, l2, l3, l4, l5] [vi s0, vi s1] h = if s0 ≤ s1 then run 3 705 31 [l0, l1, l2, l3, l4, l5] [] h else run 3 705 16 [l0, l1, l2, l3, l4, l5] [] h) ∧
  (∀ (l1 l2 l3 l4 l5 : Option AV) (w : Option Rf) (h : Hp), run 3 705 16 [some (vo w), l1, l2, l3, l4, l5] [] h = run 3 705 17 [some (vo w), l1, l2, l3, l4, l5] [vo w] h) ∧
  (∀ (l0 l2 l3 l4 l5 : Option AV) (s0 : Option Rf) (w : Option Rf) (h : Hp), run 3 705 17 [l0, some (vo w), l2, l3, l4, l5] [vo s0] h = run 3 705 18 [l0, some (vo w), l2, l3, l4, l5] [vo w, vo s0] h) ∧
  (∀ (l1 l2 l3 l4 l5 : Option AV) (s0 : Option Rf) (s1 : Option Rf) (w : Option Rf) (h : Hp), run 3 705 18 [some (vo w), l1, l2, l3, l4, l5] [vo s0, vo s1] h = run 3 705 19 [some (vo w), l1, l2, l3, l4, l5] [vo w, vo s0, vo s1] h) ∧
  (∀ (l0 l1 l2 l3 l4 l5 : Option AV) (s1 : Option Rf) (s2 : Option Rf) (o z : Nat) (h : Hp), run 3 705 19 [l0, l1, l2, l3, l4, l5] [vo (some (o, 7, z)), vo s1, vo s2] h = run 3 705 22 [l0, l1, l2, l3, l4, l5] [vo (hR h o 3), vo s1, vo s2] h) ∧
  (∀ (l0 l1 l2 l3 l4 l5 : Option AV) (s0 : Option Rf) (s1 : Option Rf) (o z : Nat) (h : Hp), run 3 705 22 [l0, l1, l2, l3, l4, l5] [vo s0, vo s1, vo (some (o, 7, z))] h = (call 711 [vo (some (o, 7, z)), vo s1, vo s0] h).bind (fun z => run 3 705 25 [l0, l1, l2, l3, l4, l5] (z.1.toList ++ []) z.2)) ∧
  (∀ (l0 l1 l2 l3 : Option AV) (w : Int32) (h : Hp), run 3 705 25 [l0, l1, l2, l3, none, some (vi w)] [] h = run 3 705 28 [l0, l1, l2, l3, none, some (vi (w + (1 : Int32)))] [] h) ∧
  (∀ (l0 l1 l2 l3 : Option AV) (w1 : Int32) (w : Int32) (h : Hp), run 3 705 25 [l0, l1, l2, l3, some (vi w1), some (vi w)] [] h = run 3 705 28 [l0, l1, l2, l3, some (vi w1), some (vi (w + (1 : Int32)))] [] h) ∧
  (∀ (l0 l1 l2 l3 : Option AV) (w1 : Option Rf) (w : Int32) (h : Hp), run 3 705 25 [l0, l1, l2, l3, some (vo w1), some (vi w)] [] h = run 3 705 28 [l0, l1, l2, l3, some (vo w1), some (vi (w + (1 : Int32)))] [] h) ∧
  (∀ (l0 l1 l2 l3 l4 l5 : Option AV) (h : Hp), run 3 705 28 [l0, l1, l2, l3, l4, l5] [] h = run 3 705 9 [l0, l1, l2, l3, l4, l5] [] h) ∧
  (∀ (l0 l2 l3 l4 l5 : Option AV) (w : Option Rf) (h : Hp), run 3 705 31 [l0, some (vo w), l2, l3, l4, l5] [] h = run 3 705 32 [l0, some (vo w), l2, l3, l4, l5] [vo w] h) ∧
  (∀ (l0 l1 l2 l4 l5 : Option AV) (s0 : Option Rf) (w : Int32) (h : Hp), run 3 705 32 [l0, l1, l2, some (vi w), l4, l5] [vo s0] h = run 3 705 33 [l0, l1, l2, some (vi w), l4, l5] [vi w, vo s0] h) ∧
  (∀ (l0 l1 l2 l3 l4 l5 : Option AV) (s0 : Int32) (o z : Nat) (h : Hp), run 3 705 33 [l0, l1, l2, l3, l4, l5] [vi s0, vo (some (o, 5, z))] h = (call 503 [vo (some (o, 5, z)), vi s0] h).bind (fun z => run 3 705 36 [l0, l1, l2, l3, l4, l5] (z.1.toList ++ []) z.2)) ∧
  (∀ (l0 l1 l2 l3 l4 l5 : Option AV) (s0 : Int32) (h : Hp), run 3 705 36 [l0, l1, l2, l3, l4, l5] [vi s0] h = if s0 = 0 then run 3 705 48 [l0, l1, l2, l3, l4, l5] [] h else run 3 705 39 [l0, l1, l2, l3, l4, l5] [] h) ∧
  (∀ (l1 l2 l3 l4 l5 : Option AV) (w : Option Rf) (h : Hp), run 3 705 39 [some (vo w), l1, l2, l3, l4, l5] [] h = run 3 705 40 [some (vo w), l1, l2, l3, l4, l5] [vo w] h) ∧
  (∀ (l0 l1 l2 l3 l4 l5 : Option AV) (o z : Nat) (h : Hp), run 3 705 40 [l0, l1, l2, l3, l4, l5] [vo (some (o, 7, z))] h = run 3 705 43 [l0, l1, l2, l3, l4, l5] [vo (hR h o 3)] h) ∧
  (∀ (l0 l1 l2 l4 l5 : Option AV) (s0 : Option Rf) (w : Int32) (h : Hp), run 3 705 43 [l0, l1, l2, some (vi w), l4, l5] [vo s0] h = run 3 705 44 [l0, l1, l2, some (vi w), l4, l5] [vi w, vo s0] h) ∧
  (∀ (l0 l1 l2 l3 l4 l5 : Option AV) (s0 : Int32) (o z : Nat) (h : Hp), run 3 705 44 [l0, l1, l2, l3, l4, l5] [vi s0, vo (some (o, 13, z))] h = if s0 < 0 ∨ z ≤ s0.toNatClampNeg then none else run 3 705 45 [l0, l1, l2, l3, l4, l5] [vi (hI h o s0.toNatClampNeg)] h) ∧
  (∀ (l0 l1 l2 l3 l4 l5 : Option AV) (s0 : Int32) (h : Hp), run 3 705 45 [l0, l1, l2, l3, l4, l5] [vi s0] h = run 3 705 49 [l0, l1, l2, l3, l4, l5] [vi s0] h) ∧
  (∀ (l0 l1 l2 l3 l4 l5 : Option AV) (h : Hp), run 3 705 48 [l0, l1, l2, l3, l4, l5] [] h = run 3 705 49 [l0, l1, l2, l3, l4, l5] [vi (0 : Int32)] h) ∧
  (∀ (l0 l1 l2 l3 l4 l5 : Option AV) (s0 : Int32) (h : Hp), run 3 705 49 [l0, l1, l2, l3, l4, l5] [vi s0] h = some (some (vi s0), h)) := ⟨(fun _ _ _ _ _ _ _ => run_next rfl rfl),
  (fun _ _ _ _ _ s0 _ _ => run_next rfl rfl),
  (fun _ _ _ _ _ s0 _ _ _ => run_next rfl rfl),
  (fun _ _ _ _ _ _ s0 _ _ _ _ => run_calx rfl rfl (Nat.le_of_ble_eq_true rfl) (Nat.le_of_ble_eq_true rfl) rfl),
  (fun _ _ _ _ _ _ _ => run_next rfl rfl),
  (fun _ _ _ _ _ s0 _ => run_next rfl rfl),
  (fun _ _ _ _ _ s0 _ _ => run_next rfl rfl),
  (fun _ _ _ _ _ s0 _ _ => run_next rfl rfl),
  (fun _ _ _ _ _ s0 _ _ => run_next rfl rfl),
  (fun _ _ _ _ _ _ s0 _ _ => run_if rfl rfl (run_next rfl) (run_next rfl)),
  (fun _ _ _ _ _ _ _ => run_next rfl rfl),
  (fun _ _ _ _ _ s0 _ _ => run_next rfl rfl),
  (fun _ _ _ _ _ s0 _ _ _ => run_next rfl rfl),
  (fun _ _ _ _ _ _ _ _ _ _ _ => run_next rfl rfl),
  (fun _ _ _ _ _ _ s0 _ _ _ _ => run_calx rfl rfl (Nat.le_of_ble_eq_true rfl) (Nat.le_of_ble_eq_true rfl) rfl),
  (fun _ _ _ _ _ _ => run_next rfl rfl),
  (fun _ _ _ _ _ _ _ => run_next rfl rfl),
  (fun _ _ _ _ _ _ _ => run_next rfl rfl),
  (fun _ _ _ _ _ _ _ => run_next rfl rfl),
  (fun _ _ _ _ _ _ _ => run_next rfl rfl),
  (fun _ _ _ _ _ s0 _ _ => run_next rfl rfl),
  (fun _ _ _ _ _ _ s0 _ _ _ => run_calx rfl rfl (Nat.le_of_ble_eq_true rfl) (Nat.le_of_ble_eq_true rfl) rfl),
  (fun _ _ _ _ _ _ s0 _ => run_if rfl rfl (run_next rfl) (run_next rfl)),
  (fun _ _ _ _ _ _ _ => run_next rfl rfl),
  (fun _ _ _ _ _ _ _ _ _ => run_next rfl rfl),
  (fun _ _ _ _ _ s0 _ _ => run_next rfl rfl),
  (fun _ _ _ _ _ _ s0 _ _ _ => run_if rfl rfl (run_fail rfl) (run_next rfl)),
  (fun _ _ _ _ _ _ s0 _ => run_next rfl rfl),
  (fun _ _ _ _ _ _ _ => run_next rfl rfl),
  (fun _ _ _ _ _ _ s0 _ => run_ret rfl rfl)⟩
set_option maxRecDepth 20000 in
theorem x_705_9 : (∀ (l0 l1 l2 l3 l4 : Option AV) (w : Int32) (h : Hp), run 3 705 9 [l0, l1, l2, l3, l4, some (vi w)] [] h = run 3 705 11 [l0, l1, l2, l3, l4, some (vi w)] [vi w] h) := (fun _ _ _ _ _ _ _ => run_next rfl rfl)
theorem e_705 (v : Option Rf) (a0 : Option Rf) (a1 : Int32) (a2 : Int32) (a3 : Int32) (h : Hp) : call 705 [vo v, vo a0, vi a1, vi a2, vi a3] h = run 3 705 0 [some (vo v), some (vo a0), some (vi a1), some (vi a2), some (vi a3), none] [] h := rfl
set_option maxRecDepth 20000 in
theorem x_706 : (∀ (l1 l2 l3 l4 : Option AV) (w : Option Rf) (h : Hp), run 4 706 0 [some (vo w), l1, l2, l3, l4] [] h = run 4 706 1 [some (vo w), l1, l2, l3, l4] [vo w] h) ∧
  (∀ (l0 l2 l3 l4 : Option AV) (s0 : Option Rf) (w : Option Rf) (h : Hp), run 4 706 1 [l0, some (vo w), l2, l3, l4] [vo s0] h = run 4 706 2 [l0, some (vo w), l2, l3, l4] [vo w, vo s0] h) ∧
  (∀ (l0 l1 l3 l4 : Option AV) (s0 : Option Rf) (s1 : Option Rf) (w : Int32) (h : Hp), run 4 706 2 [l0, l1, some (vi w), l3, l4] [vo s0, vo s1] h = run 4 706 3 [l0, l1, some (vi w), l3, l4] [vi w, vo s0, vo s1] h) ∧
  (∀ (l1 l2 l3 l4 : Option AV) (s0 : Int32) (s1 : Option Rf) (s2 : Option Rf) (w : Option Rf) (h : Hp), run 4 706 3 [some (vo w), l1, l2, l3, l4] [vi s0, vo s1, vo s2] h = run 4 706 4 [some (vo w), l1, l2, l3, l4] [vo w, vi s0, vo s1, vo s2] h) ∧
  (∀ (l0 l1 l2 l3 l4 : Option AV) (s1 : Int32) (s2 : Option Rf) (s3 : Option Rf) (o z : Nat) (h : Hp), run 4 706 4 [l0, l1, l2, l3, l4] [vo (some (o, 7, z)), vi s1, vo s2, vo s3] h = (call 704 [vo (some (o, 7, z))] h).bind (fun z => run 4 706 7 [l0, l1, l2, l3, l4] (z.1.toList ++ [vi s1, vo s2, vo s3]) z.2)) ∧
  (∀ (l0 l1 l2 l3 l4 : Option AV) (s0 : Int32) (s1 : Int32) (s2 : Option Rf) (o z : Nat) (h : Hp), run 4 706 7 [l0, l1, l2, l3, l4] [vi s0, vi s1, vo s2, vo (some (o, 7, z))] h = (call 709 [vo (some (o, 7, z)), vo s2, vi s1, vi s0] h).bind (fun z => run 4 706 10 [l0, l1, l2, l3, l4] (z.1.toList ++ []) z.2)) ∧
  (∀ (l0 l1 l2 l3 l4 : Option AV) (h : Hp), run 4 706 10 [l0, l1, l2, l3, l4] [] h = run 4 706 11 [l0, l1, l2, l3, l4] [vi (0 : Int32)] h) ∧
  (∀ (l0 l1 l3 l4 : Option AV) (s0 : Int32) (h : Hp), run 4 706 11 [l0, l1, none, l3, l4] [vi s0] h = run 4 706 12 [l0, l1, none, some (vi s0), l4] [] h) ∧
  (∀ (l0 l1 l3 l4 : Option AV) (s0 : Int32) (w1 : Int32) (h : Hp), run 4 706 11 [l0, l1, some (vi w1), l3, l4] [vi s0] h = run 4 706 12 [l0, l1, some (vi w1), some (vi s0), l4] [] h) ∧
  (∀ (l0 l1 l3 l4 : Option AV) (s0 : Int32) (w1 : Option Rf) (h : Hp), run 4 706 11 [l0, l1, some (vo w1), l3, l4] [vi s0] h = run 4 706 12 [l0, l1, some (vo w1), some (vi s0), l4] [] h) ∧
  (∀ (l0 l1 l2 l3 l4 : Option AV) (h : Hp), run 4 706 12 [l0, l1, l2, l3, l4] [] h = run 4 706 13 [l0, l1, l2, l3, l4] [vi (0 : Int32)] h) ∧
  (∀ (l0 l1 l2 l4 : Option AV) (s0 : Int32) (h : Hp), run 4 706 13 [l0, l1, l2, none, l4] [vi s0] h = run 4 706 15 [l0, l1, l2, none, some (vi s0)] [] h) ∧
  (∀ (l0 l1 l2 l4 : Option AV) (s0 : Int32) (w1 : Int32) (h : Hp), run 4 706 13 [l0, l1, l2, some (vi w1), l4] [vi s0] h = run 4 706 15 [l0, l1, l2, some (vi w1), some (vi s0)] [] h) ∧
  (∀ (l0 l1 l2 l4 : Option AV) (s0 : Int32) (w1 : Option Rf) (h : Hp), run 4 706 13 [l0, l1, l2, some (vo w1), l4] [vi s0] h = run 4 706 15 [l0, l1, l2, some (vo w1), some (vi s0)] [] h) ∧
  (∀ (l0 l2 l3 l4 : Option AV) (s0 : Int32) (w : Option Rf) (h : Hp), run 4 706 17 [l0, some (vo w), l2, l3, l4] [vi s0] h = run 4 706 18 [l0, some (vo w), l2, l3, l4] [vo w, vi s0] h) ∧
  (∀ (l0 l1 l2 l3 l4 : Option AV) (s1 : Int32) (o z : Nat) (h : Hp), run 4 706 18 [l0, l1, l2, l3, l4] [vo (some (o, 5, z)), vi s1] h = run 4 706 21 [l0, l1, l2, l3, l4] [vi (hI h o 2), vi s1] h) ∧
  (∀ (l0 l1 l2 l3 l4 : Option AV) (s0 : Int32) (s1 : Int32) (h : Hp), run 4 706 21 [l0, l1, l2, l3, l4] [vi s0, vi s1] h = if s0 ≤ s1 then run 4 706 40 [l0, l1, l2, l3, l4] [] h else run 4 706 24 [l0, l1, l2, l3, l4] [] h) ∧
  (∀ (l0 l1 l2 l4 : Option AV) (w : Int32) (h : Hp), run 4 706 24 [l0, l1, l2, some (vi w), l4] [] h = run 4 706 25 [l0, l1, l2, some (vi w), l4] [vi w] h) ∧
  (∀ (l1 l2 l3 l4 : Option AV) (s0 : Int32) (w : Option Rf) (h : Hp), run 4 706 25 [some (vo w), l1, l2, l3, l4] [vi s0] h = run 4 706 26 [some (vo w), l1, l2, l3, l4] [vo w, vi s0] h) ∧
  (∀ (l0 l1 l2 l3 l4 : Option AV) (s1 : Int32) (o z : Nat) (h : Hp), run 4 706 26 [l0, l1, l2, l3, l4] [vo (some (o, 7, z)), vi s1] h = run 4 706 29 [l0, l1, l2, l3, l4] [vo (hR h o 3), vi s1] h) ∧
  (∀ (l0 l1 l2 l3 : Option AV) (s0 : Option Rf) (s1 : Int32) (w : Int32) (h : Hp), run 4 706 29 [l0, l1, l2, l3, some (vi w)] [vo s0, vi s1] h = run 4 706 31 [l0, l1, l2, l3, some (vi w)] [vi w, vo s0, vi s1] h) ∧
  (∀ (l0 l1 l2 l3 l4 : Option AV) (s0 : Int32) (s2 : Int32) (o z : Nat) (h : Hp), run 4 706 31 [l0, l1, l2, l3, l4] [vi s0, vo (some (o, 13, z)), vi s2] h = if s0 < 0 ∨ z ≤ s0.toNatClampNeg then none else run 4 706 32 [l0, l1, l2, l3, l4] [vi (hI h o s0.toNatClampNeg), vi s2] h) ∧
  (∀ (l0 l1 l2 l3 l4 : Option AV) (s0 : Int32) (s1 : Int32) (h : Hp), run 4 706 32 [l0, l1, l2, l3, l4] [vi s0, vi s1] h = run 4 706 33 [l0, l1, l2, l3, l4] [vi (s1 + s0)] h) ∧
  (∀ (l0 l1 l3 l4 : Option AV) (s0 : Int32) (h : Hp), run 4 706 33 [l0, l1, none, l3, l4] [vi s0] h = run 4 706 34 [l0, l1, none, some (vi s0), l4] [] h) ∧
  (∀ (l0 l1 l3 l4 : Option AV) (s0 : Int32) (w1 : Int32) (h : Hp), run 4 706 33 [l0, l1, some (vi w1), l3, l4] [vi s0] h = run 4 706 34 [l0, l1, some (vi w1), some (vi s0), l4] [] h) ∧
  (∀ (l0 l1 l3 l4 : Option AV) (s0 : Int32) (w1 : Option Rf) (h : Hp), run 4 706 33 [l0, l1, some (vo w1), l3, l4] [vi s0] h = run 4 706 34 [l0, l1, some (vo w1), some (vi s0), l4] [] h) ∧
  (∀ (l0 l1 l2 : Option AV) (w : Int32) (h : Hp), run 4 706 34 [l0, l1, l2, none, some (vi w)] [] h = run 4 706 37 [l0, l1, l2, none, some (vi (w + (1 : Int32)))] [] h) ∧
  (∀ (l0 l1 l2 : Option AV) (w1 : Int32) (w : Int32) (h : Hp), run 4 706 34 [l0, l1, l2, some (vi w1), some (vi w)] [] h = run 4 706 37 [l0, l1, l2, some (vi w1), some (vi (w + (1 : Int32)))] [] h) ∧
  (∀ (l0 l1 l2 : Option AV) (w1 : Option Rf) (w : Int32) (h : Hp), run 4 706 34 [l0, l1, l2, some (vo w1), some (vi w)] [] h = run 4 706 37 [l0, l1, l2, some (vo w1), some (vi (w + (1 : Int32)))] [] h) ∧
  (∀ (l0 l1 l2 l3 l4 : Option AV) (h : Hp), run 4 706 37 [l0, l1, l2, l3, l4] [] h = run 4 706 15 [l0, l1, l2, l3, l4] [] h) ∧
  (∀ (l0 l1 l2 l4 : Option AV) (w : Int32) (h : Hp), run 4 706 40 [l0, l1, l2, some (vi w), l4] [] h = run 4 706 41 [l0, l1, l2, some (vi w), l4] [vi w] h) ∧
  (∀ (l0 l1 l2 l3 l4 : Option AV) (s0 : Int32) (h : Hp), run 4 706 41 [l0, l1, l2, l3, l4] [vi s0] h = some (some (vi s0), h)) := ⟨(fun _ _ _ _ _ _ => run_next rfl rfl),
  (fun _ _ _ _ s0 _ _ => run_next rfl rfl),
  (fun _ _ _ _ s0 _ _ _ => run_next rfl rfl),
  (fun _ _ _ _ s0 _ _ _ _ => run_next rfl rfl),
  (fun _ _ _ _ _ _ _ _ _ _ _ => run_calx rfl rfl (Nat.le_of_ble_eq_true rfl) (Nat.le_of_ble_eq_true rfl) rfl),
  (fun _ _ _ _ _ s0 _ _ _ _ _ => run_calx rfl rfl (Nat.le_of_ble_eq_true rfl) (Nat.le_of_ble_eq_true rfl) rfl),
  (fun _ _ _ _ _ _ => run_next rfl rfl),
  (fun _ _ _ _ s0 _ => run_next rfl rfl),
  (fun _ _ _ _ s0 _ _ => run_next rfl rfl),
  (fun _ _ _ _ s0 _ _ => run_next rfl rfl),
  (fun _ _ _ _ _ _ => run_next rfl rfl),
  (fun _ _ _ _ s0 _ => run_next rfl rfl),
  (fun _ _ _ _ s0 _ _ => run_next rfl rfl),
  (fun _ _ _ _ s0 _ _ => run_next rfl rfl),
  (fun _ _ _ _ s0 _ _ => run_next rfl rfl),
  (fun _ _ _ _ _ _ _ _ _ => run_next rfl rfl),
  (fun _ _ _ _ _ s0 _ _ => run_if rfl rfl (run_next rfl) (run_next rfl)),
  (fun _ _ _ _ _ _ => run_next rfl rfl),
  (fun _ _ _ _ s0 _ _ => run_next rfl rfl),
  (fun _ _ _ _ _ _ _ _ _ => run_next rfl rfl),
  (fun _ _ _ _ s0 _ _ _ => run_next rfl rfl),
  (fun _ _ _ _ _ s0 _ _ _ _ => run_if rfl rfl (run_fail rfl) (run_next rfl)),
  (fun _ _ _ _ _ s0 _ _ => run_next rfl rfl),
  (fun _ _ _ _ s0 _ => run_next rfl rfl),
  (fun _ _ _ _ s0 _ _ => run_next rfl rfl),
  (fun _ _ _ _ s0 _ _ => run_next rfl rfl),
  (fun _ _ _ _ _ => run_next rfl rfl),
  (fun _ _ _ _ _ _ => run_next rfl rfl),
  (fun _ _ _ _ _ _ => run_next rfl rfl),
  (fun _ _ _ _ _ _ => run_next rfl rfl),
  (fun _ _ _ _ _ _ => run_next rfl rfl),
  (fun _ _ _ _ _ s0 _ => run_ret rfl rfl)⟩
set_option maxRecDepth 20000 in
theorem x_706_15 : (∀ (l0 l1 l2 l3 : Option AV) (w : Int32) (h : Hp), run 4 706 15 [l0, l1, l2, l3, some (vi w)] [] h = run 4 706 17 [l0, l1, l2, l3, some (vi w)] [vi w] h) := (fun _ _ _ _ _ _ => run_next rfl rfl)
theorem e_706 (v : Option Rf) (a0 : Option Rf) (a1 : Int32) (h : Hp) : call 706 [vo v, vo a0, vi a1] h = run 4 706 0 [some (vo v), some (vo a0), some (vi a1), none, none] [] h := rfl
set_option maxRecDepth 20000 in
theorem x_707 : (∀ (l1 l2 l3 l4 l5 l6 l7 : Option AV) (w : Option Rf) (h : Hp), run 4 707 0 [some (vo w), l1, l2, l3, l4, l5, l6, l7] [] h = run 4 707 1 [some (vo w), l1, l2, l3, l4, l5, l6, l7] [vo w] h) ∧
  (∀ (l0 l2 l3 l4 l5 l6 l7 : Option AV) (s0 : Option Rf) (w : Option Rf) (h : Hp), run 4 707 1 [l0, some (vo w), l2, l3, l4, l5, l6, l7] [vo s0] h = run 4 707 2 [l0, some (vo w), l2, l3, l4, l5, l6, l7] [vo w, vo s0] h) ∧
  (∀ (l0 l1 l3 l4 l5 l6 l7 : Option AV) (s0 : Option Rf) (s1 : Option Rf) (w : Int32) (h : Hp), run 4 707 2 [l0, l1, some (vi w), l3, l4, l5, l6, l7] [vo s0, vo s1] h = run 4 707 3 [l0, l1, some (vi w), l3, l4, l5, l6, l7] [vi w, vo s0, vo s1] h) ∧
  (∀ (l0 l1 l2 l4 l5 l6 l7 : Option AV) (s0 : Int32) (s1 : Option Rf) (s2 : Option Rf) (w : Int32) (h : Hp), run 4 707 3 [l0, l1, l2, some (vi w), l4, l5, l6, l7] [vi s0, vo s1, vo s2] h = run 4 707 4 [l0, l1, l2, some (vi w), l4, l5, l6, l7] [vi w, vi s0, vo s1, vo s2] h) ∧
  (∀ (l0 l1 l2 l3 l4 l5 l6 l7 : Option AV) (s0 : Int32) (s1 : Int32) (s2 : Option Rf) (o z : Nat) (h : Hp), run 4 707 4 [l0, l1, l2, l3, l4, l5, l6, l7] [vi s0, vi s1, vo s2, vo (some (o, 7, z))] h = (call 709 [vo (some (o, 7, z)), vo s2, vi s1, vi s0] h).bind (fun z => run 4 707 7 [l0, l1, l2, l3, l4, l5, l6, l7] (z.1.toList ++ []) z.2)) ∧
  (∀ (l1 l2 l3 l4 l5 l6 l7 : Option AV) (w : Option Rf) (h : Hp), run 4 707 7 [some (vo w), l1, l2, l3, l4, l5, l6, l7] [] h = run 4 707 8 [some (vo w), l1, l2, l3, l4, l5, l6, l7] [vo w] h) ∧
  (∀ (l0 l2 l3 l4 l5 l6 l7 : Option AV) (s0 : Option Rf) (w : Option Rf) (h : Hp), run 4 707 8 [l0, some (vo w), l2, l3, l4, l5, l6, l7] [vo s0] h = run 4 707 9 [l0, some (vo w), l2, l3, l4, l5, l6, l7] [vo w, vo s0] h) ∧
  (∀ (l0 l1 l2 l4 l5 l6 l7 : Option AV) (s0 : Option Rf) (s1 : Option Rf) (w : Int32) (h : Hp), run 4 707 9 [l0, l1, l2, some (vi w), l4, l5, l6, l7] [vo s0, vo s1] h = run 4 707 10 [l0, l1, l2, some (vi w), l4, l5, l6, l7] [vi w, vo s0, vo s1] h) ∧
  (∀ (l0 l1 l2 l3 l4 l5 l6 l7 : Option AV) (s0 : Int32) (s1 : Option Rf) (o z : Nat) (h : Hp), run 4 707 10 [l0, l1, l2, l3, l4, l5, l6, l7] [vi s0, vo s1, vo (some (o, 7, z))] h = (call 710 [vo (some (o, 7, z)), vo s1, vi s0] h).bind (fun z => run 4 707 13 [l0, l1, l2, l3, l4, l5, l6, l7] (z.1.toList ++ []) z.2)) ∧
  (∀ (l0 l1 l2 l3 l4 l5 l6 l7 : Option AV) (h : Hp), run 4 707 13 [l0, l1, l2, l3, l4, l5, l6, l7] [] h = run 4 707 15 [l0, l1, l2, l3, l4, l5, l6, l7] [vi (-9 : Int32)] h) ∧
  (∀ (l0 l1 l2 l4 l5 l6 l7 : Option AV) (s0 : Int32) (h : Hp), run 4 707 15 [l0, l1, l2, none, l4, l5, l6, l7] [vi s0] h = run 4 707 17 [l0, l1, l2, none, some (vi s0), l5, l6, l7] [] h) ∧
  (∀ (l0 l1 l2 l4 l5 l6 l7 : Option AV) (s0 : Int32) (w1 : Int32) (h : Hp), run 4 707 15 [l0, l1, l2, some (vi w1), l4, l5, l6, l7] [vi s0] h = run 4 707 17 [l0, l1, l2, some (vi w1), some (vi s0), l5, l6, l7] [] h) ∧
  (∀ (l0 l1 l2 l4 l5 l6 l7 : Option AV) (s0 : Int32) (w1 : Option Rf) (h : Hp), run 4 707 15 [l0, l1, l2, some (vo w1), l4, l5, l6, l7] [vi s0] h = run 4 707 17 [l0, l1, l2, some (vo w1), some (vi s0), l5, l6, l7] [] h) ∧
  (∀ (l0 l1 l2 l3 l4 l5 l6 l7 : Option AV) (h : Hp), run 4 707 17 [l0, l1, l2, l3, l4, l5, l6, l7] [] h = run 4 707 18 [l0, l1, l2, l3, l4, l5, l6, l7] [vi (0 : Int32)] h) ∧
  (∀ (l0 l1 l2 l3 l5 l6 l7 : Option AV) (s0 : Int32) (h : Hp), run 4 707 18 [l0, l1, l2, l3, none, l5, l6, l7] [vi s0] h = run 4 707 20 [l0, l1, l2, l3, none, some (vi s0), l6, l7] [] h) ∧
  (∀ (l0 l1 l2 l3 l5 l6 l7 : Option AV) (s0 : Int32) (w1 : Int32) (h : Hp), run 4 707 18 [l0, l1, l2, l3, some (vi w1), l5, l6, l7] [vi s0] h = run 4 707 20 [l0, l1, l2, l3, some (vi w1), some (vi s0), l6, l7] [] h) ∧
  (∀ (l0 l1 l2 l3 l5 l6 l7 : Option AV) (s0 : Int32) (w1 : Option Rf) (h : Hp), run 4 707 18 [l0, l1, l2, l3, some (vo w1), l5, l6, l7] [vi s0] h = run 4 707 20 [l0, l1, l2, l3, some (vo w1), some (vi s0), l6, l7] [] h) ∧
  (∀ (l0 l1 l2 l3 l4 l5 l6 l7 : Option AV) (h : Hp), run 4 707 20 [l0, l1, l2, l3, l4, l5, l6, l7] [] h = run 4 707 21 [l0, l1, l2, l3, l4, l5, l6, l7] [vi (0 : Int32)] h) ∧
  (∀ (l0 l1 l2 l3 l4 l6 l7 : Option AV) (s0 : Int32) (h : Hp), run 4 707 21 [l0, l1, l2, l3, l4, none, l6, l7] [vi s0] h = run 4 707 23 [l0, l1, l2, l3, l4, none, some (vi s0), l7] [] h) ∧
  (∀ (l0 l1 l2 l3 l4 l6 l7 : Option AV) (s0 : Int32) (w1 : Int32) (h : Hp), run 4 707 21 [l0, l1, l2, l3, l4, some (vi w1), l6, l7] [vi s0] h = run 4 707 23 [l0, l1, l2, l3, l4, some (vi w1), some (vi s0), l7] [] h) ∧
  (∀ (l0 l1 l2 l3 l4 l6 l7 : Option AV) (s0 : Int32) (w1 : Option Rf) (h : Hp), run 4 707 21 [l0, l1, l2, l3, l4, some (vo w1), l6, l7] [vi s0] h = run 4 707 23 [l0, l1, l2, l3, l4, some (vo w1), some (vi s0), l7] [] h) ∧
  (∀ (l0 l2 l3 l4 l5 l6 l7 : Option AV) (s0 : Int32) (w : Option Rf) (h : Hp), run 4 707 25 [l0, some (vo w), l2, l3, l4, l5, l6, l7] [vi s0] h = run 4 707 26 [l0, some (vo w), l2, l3, l4, l5, l6, l7] [vo w, vi s0] h) ∧
  (∀ (l0 l1 l2 l3 l4 l5 l6 l7 : Option AV) (s1 : Int32) (o z : Nat) (h : Hp), run 4 707 26 [l0, l1, l2, l3, l4, l5, l6, l7] [vo (some (o, 5, z)), vi s1] h = run 4 707 29 [l0, l1, l2, l3, l4, l5, l6, l7] [vi (hI h o 2), vi s1] h) ∧
  (∀ (l0 l1 l2 l3 l4 l5 l6 l7 : Option AV) (s0 : Int32) (s1 : Int32) (h : Hp), run 4 707 29 [l0, l1, l2, l3, l4, l5, l6, l7] [vi s0, vi s1] h = if s0 ≤ s1 then run 4 707 70 [l0, l1, l2, l3, l4, l5, l6, l7] [] h else run 4 707 32 [l0, l1, l2, l3, l4, l5, l6, l7] [] h) ∧
  (∀ (l1 l2 l3 l4 l5 l6 l7 : Option AV) (w : Option Rf) (h : Hp), run 4 707 32 [some (vo w), l1, l2, l3, l4, l5, l6, l7] [] h = run 4 707 33 [some (vo w), l1, l2, l3, l4, l5, l6, l7] [vo w] h) ∧
  (∀ (l0 l1 l2 l3 l4 l5 l6 l7 : Option AV) (o z : Nat) (h : Hp), run 4 707 33 [l0, l1, l2, l3, l4, l5, l6, l7] [vo (some (o, 7, z))] h = run 4 707 36 [l0, l1, l2, l3, l4, l5, l6, l7] [vo (hR h o 3)] h) ∧
  (∀ (l0 l1 l2 l3 l4 l5 l7 : Option AV) (s0 : Option Rf) (w : Int32) (h : Hp), run 4 707 36 [l0, l1, l2, l3, l4, l5, some (vi w), l7] [vo s0] h = run 4 707 38 [l0, l1, l2, l3, l4, l5, some (vi w), l7] [vi w, vo s0] h) ∧
  (∀ (l0 l1 l2 l3 l4 l5 l6 l7 : Option AV) (s0 : Int32) (o z : Nat) (h : Hp), run 4 707 38 [l0, l1, l2, l3, l4, l5, l6, l7] [vi s0, vo (some (o, 13, z))] h = if s0 < 0 ∨ z ≤ s0.toNatClampNeg then none else run 4 707 39 [l0, l1, l2, l3, l4, l5, l6, l7] [vi (hI h o s0.toNatClampNeg)] h) ∧
  (∀ (l1 l2 l3 l4 l5 l6 l7 : Option AV) (s0 : Int32) (w : Option Rf) (h : Hp), run 4 707 39 [some (vo w), l1, l2, l3, l4, l5, l6, l7] [vi s0] h = run 4 707 40 [some (vo w), l1, l2, l3, l4, l5, l6, l7] [vo w, vi s0] h) ∧
  (∀ (l0 l1 l2 l3 l4 l5 l6 l7 : Option AV) (s1 : Int32) (o z : Nat) (h : Hp), run 4 707 40 [l0, l1, l2, l3, l4, l5, l6, l7] [vo (some (o, 7, z)), vi s1] h = run 4 707 43 [l0, l1, l2, l3, l4, l5, l6, l7] [vo (hR h o 4), vi s1] h) ∧
  (∀ (l0 l1 l2 l3 l4 l5 l7 : Option AV) (s0 : Option Rf) (s1 : Int32) (w : Int32) (h : Hp), run 4 707 43 [l0, l1, l2, l3, l4, l5, some (vi w), l7] [vo s0, vi s1] h = run 4 707 45 [l0, l1, l2, l3, l4, l5, some (vi w), l7] [vi w, vo s0, vi s1] h) ∧
  (∀ (l0 l1 l2 l3 l4 l5 l6 l7 : Option AV) (s0 : Int32) (s2 : Int32) (o z : Nat) (h : Hp), run 4 707 45 [l0, l1, l2, l3, l4, l5, l6, l7] [vi s0, vo (some (o, 13, z)), vi s2] h = if s0 < 0 ∨ z ≤ s0.toNatClampNeg then none else run 4 707 46 [l0, l1, l2, l3, l4, l5, l6, l7] [vi (hI h o s0.toNatClampNeg), vi s2] h) ∧
  (∀ (l0 l1 l2 l3 l4 l5 l6 l7 : Option AV) (s0 : Int32) (s1 : Int32) (h : Hp), run 4 707 46 [l0, l1, l2, l3, l4, l5, l6, l7] [vi s0, vi s1] h = run 4 707 47 [l0, l1, l2, l3, l4, l5, l6, l7] [vi (s1 * s0)] h) ∧
  (∀ (l0 l1 l2 l3 l4 l5 l7 : Option AV) (s0 : Int32) (h : Hp), run 4 707 47 [l0, l1, l2, l3, l4, l5, none, l7] [vi s0] h = run 4 707 49 [l0, l1, l2, l3, l4, l5, none, some (vi s0)] [] h) ∧
  (∀ (l0 l1 l2 l3 l4 l5 l7 : Option AV) (s0 : Int32) (w1 : Int32) (h : Hp), run 4 707 47 [l0, l1, l2, l3, l4, l5, some (vi w1), l7] [vi s0] h = run 4 707 49 [l0, l1, l2, l3, l4, l5, some (vi w1), some (vi s0)] [] h) ∧
  (∀ (l0 l1 l2 l3 l4 l5 l7 : Option AV) (s0 : Int32) (w1 : Option Rf) (h : Hp), run 4 707 47 [l0, l1, l2, l3, l4, l5, some (vo w1), l7] [vi s0] h = run 4 707 49 [l0, l1, l2, l3, l4, l5, some (vo w1), some (vi s0)] [] h) ∧
  (∀ (l0 l1 l2 l3 l4 l5 l6 : Option AV) (w : Int32) (h : Hp), run 4 707 49 [l0, l1, l2, l3, l4, l5, l6, some (vi w)] [] h = run 4 707 51 [l0, l1, l2, l3, l4, l5, l6, some (vi w)] [vi w] h) ∧
  (∀ (l0 l1 l2 l3 l4 l6 l7 : Option AV) (s0 : Int32) (w : Int32) (h : Hp), run 4 707 51 [l0, l1, l2, l3, l4, some (vi w), l6, l7] [vi s0] h = run 4 707 53 [l0, l1, l2, l3, l4, some (vi w), l6, l7] [vi w, vi s0] h) ∧
  (∀ (l0 l1 l2 l3 l4 l5 l6 l7 : Option AV) (s0 : Int32) (s1 : Int32) (h : Hp), run 4 707 53 [l0, l1, l2, l3, l4, l5, l6, l7] [vi s0, vi s1] h = if s1 ≤ s0 then run 4 707 64 [l0, l1, l2, l3, l4, l5, l6, l7] [] h else run 4 707 56 [l0, l1, l2, l3, l4, l5, l6, l7] [] h) ∧
  (∀ (l0 l1 l2 l3 l4 l5 l7 : Option AV) (w : Int32) (h : Hp), run 4 707 56 [l0, l1, l2, l3, l4, l5, some (vi w), l7] [] h = run 4 707 58 [l0, l1, l2, l3, l4, l5, some (vi w), l7] [vi w] h) ∧
  (∀ (l0 l1 l2 l4 l5 l6 l7 : Option AV) (s0 : Int32) (h : Hp), run 4 707 58 [l0, l1, l2, none, l4, l5, l6, l7] [vi s0] h = run 4 707 60 [l0, l1, l2, none, some (vi s0), l5, l6, l7] [] h) ∧
  (∀ (l0 l1 l2 l4 l5 l6 l7 : Option AV) (s0 : Int32) (w1 : Int32) (h : Hp), run 4 707 58 [l0, l1, l2, some (vi w1), l4, l5, l6, l7] [vi s0] h = run 4 707 60 [l0, l1, l2, some (vi w1), some (vi s0), l5, l6, l7] [] h) ∧
  (∀ (l0 l1 l2 l4 l5 l6 l7 : Option AV) (s0 : Int32) (w1 : Option Rf) (h : Hp), run 4 707 58 [l0, l1, l2, some (vo w1), l4, l5, l6, l7] [vi s0] h = run 4 707 60 [l0, l1, l2, some (vo w1), some (vi s0), l5, l6, l7] [] h) ∧
  (∀ (l0 l1 l2 l3 l4 l5 l6 : Option AV) (w : Int32) (h : Hp), run 4 707 60 [l0, l1, l2, l3, l4, l5, l6, some (vi w)] [] h = run 4 707 62 [l0, l1, l2, l3, l4, l5, l6, some (vi w)] [vi w] h) ∧
  (∀ (l0 l1 l2 l3 l5 l6 l7 : Option AV) (s0 : Int32) (h : Hp), run 4 707 62 [l0, l1, l2, l3, none, l5, l6, l7] [vi s0] h = run 4 707 64 [l0, l1, l2, l3, none, some (vi s0), l6, l7] [] h) ∧
  (∀ (l0 l1 l2 l3 l5 l6 l7 : Option AV) (s0 : Int32) (w1 : Int32) (h : Hp), run 4 707 62 [l0, l1, l2, l3, some (vi w1), l5, l6, l7] [vi s0] h = run 4 707 64 [l0, l1, l2, l3, some (vi w1), some (vi s0), l6, l7] [] h) ∧
  (∀ (l0 l1 l2 l3 l5 l6 l7 : Option AV) (s0 : Int32) (w1 : Option Rf) (h : Hp), run 4 707 62 [l0, l1, l2, l3, some (vo w1), l5, l6, l7] [vi s0] h = run 4 707 64 [l0, l1, l2, l3, some (vo w1), some (vi s0), l6, l7] [] h) ∧
  (∀ (l0 l1 l2 l3 l4 l7 : Option AV) (w : Int32) (h : Hp), run 4 707 64 [l0, l1, l2, l3, l4, none, some (vi w), l7] [] h = run 4 707 67 [l0, l1, l2, l3, l4, none, some (vi (w + (1 : Int32))), l7] [] h) ∧
  (∀ (l0 l1 l2 l3 l4 l7 : Option AV) (w1 : Int32) (w : Int32) (h : Hp), run 4 707 64 [l0, l1, l2, l3, l4, some (vi w1), some (vi w), l7] [] h = run 4 707 67 [l0, l1, l2, l3, l4, some (vi w1), some (vi (w + (1 : Int32))), l7] [] h) ∧
  (∀ (l0 l1 l2 l3 l4 l7 : Option AV) (w1 : Option Rf) (w : Int32) (h : Hp), run 4 707 64 [l0, l1, l2, l3, l4, some (vo w1), some (vi w), l7] [] h = run 4 707 67 [l0, l1, l2, l3, l4, some (vo w1), some (vi (w + (1 : Int32))), l7] [] h) ∧
  (∀ (l0 l1 l2 l3 l4 l5 l6 l7 : Option AV) (h : Hp), run 4 707 67 [l0, l1, l2, l3, l4, l5, l6, l7] [] h = run 4 707 23 [l0, l1, l2, l3, l4, l5, l6, l7] [] h) ∧
  (∀ (l0 l1 l2 l3 l5 l6 l7 : Option AV) (w : Int32) (h : Hp), run 4 707 70 [l0, l1, l2, l3, some (vi w), l5, l6, l7] [] h = run 4 707 72 [l0, l1, l2, l3, some (vi w), l5, l6, l7] [vi w] h) ∧
  (∀ (l0 l1 l2 l3 l4 l5 l6 l7 : Option AV) (s0 : Int32) (h : Hp), run 4 707 72 [l0, l1, l2, l3, l4, l5, l6, l7] [vi s0] h = some (some (vi s0), h)) := ⟨(fun _ _ _ _ _ _ _ _ _ => run_next rfl rfl),
  (fun _ _ _ _ _ _ _ s0 _ _ => run_next rfl rfl),
  (fun _ _ _ _ _ _ _ s0 _ _ _ => run_next rfl rfl),
  (fun _ _ _ _ _ _ _ s0 _ _ _ _ => run_next rfl rfl),
  (fun _ _ _ _ _ _ _ _ s0 _ _ _ _ _ => run_calx rfl rfl (Nat.le_of_ble_eq_true rfl) (Nat.le_of_ble_eq_true rfl) rfl),
  (fun _ _ _ _ _ _ _ _ _ => run_next rfl rfl),
  (fun _ _ _ _ _ _ _ s0 _ _ => run_next rfl rfl),
  (fun _ _ _ _ _ _ _ s0 _ _ _ => run_next rfl rfl),
  (fun _ _ _ _ _ _ _ _ s0 _ _ _ _ => run_calx rfl rfl (Nat.le_of_ble_eq_true rfl) (Nat.le_of_ble_eq_true rfl) rfl),
  (fun _ _ _ _ _ _ _ _ _ => run_next rfl rfl),
  (fun _ _ _ _ _ _ _ s0 _ => run_next rfl rfl),
  (fun _ _ _ _ _ _ _ s0 _ _ => run_next rfl rfl),
  (fun _ _ _ _ _ _ _ s0 _ _ => run_next rfl rfl),
  (fun _ _ _ _ _ _ _ _ _ => run_next rfl rfl),
  (fun _ _ _ _ _ _ _ s0 _ => run_next rfl rfl),
  (fun _ _ _ _ _ _ _ s0 _ _ => run_next rfl rfl),
  (fun _ _ _ _ _ _ _ s0 _ _ => run_next rfl rfl),
  (fun _ _ _ _ _ _ _ _ _ => run_next rfl rfl),
  (fun _ _ _ _ _ _ _ s0 _ => run_next rfl rfl),
  (fun _ _ _ _ _ _ _ s0 _ _ => run_next rfl rfl),
  (fun _ _ _ _ _ _ _ s0 _ _ => run_next rfl rfl),
  (fun _ _ _ _ _ _ _ s0 _ _ => run_next rfl rfl),
  (fun _ _ _ _ _ _ _ _ _ _ _ _ => run_next rfl rfl),
  (fun _ _ _ _ _ _ _ _ s0 _ _ => run_if rfl rfl (run_next rfl) (run_next rfl)),
  (fun _ _ _ _ _ _ _ _ _ => run_next rfl rfl),
  (fun _ _ _ _ _ _ _ _ _ _ _ => run_next rfl rfl),
  (fun _ _ _ _ _ _ _ s0 _ _ => run_next rfl rfl),
  (fun _ _ _ _ _ _ _ _ s0 _ _ _ => run_if rfl rfl (run_fail rfl) (run_next rfl)),
  (fun _ _ _ _ _ _ _ s0 _ _ => run_next rfl rfl),
  (fun _ _ _ _ _ _ _ _ _ _ _ _ => run_next rfl rfl),
  (fun _ _ _ _ _ _ _ s0 _ _ _ => run_next rfl rfl),
  (fun _ _ _ _ _ _ _ _ s0 _ _ _ _ => run_if rfl rfl (run_fail rfl) (run_next rfl)),
  (fun _ _ _ _ _ _ _ _ s0 _ _ => run_next rfl rfl),
  (fun _ _ _ _ _ _ _ s0 _ => run_next rfl rfl),
  (fun _ _ _ _ _ _ _ s0 _ _ => run_next rfl rfl),
  (fun _ _ _ _ _ _ _ s0 _ _ => run_next rfl rfl),
  (fun _ _ _ _ _ _ _ _ _ => run_next rfl rfl),
  (fun _ _ _ _ _ _ _ s0 _ _ => run_next rfl rfl),
  (fun _ _ _ _ _ _ _ _ s0 _ _ => run_if rfl rfl (run_next rfl) (run_next rfl)),
  (fun _ _ _ _ _ _ _ _ _ => run_next rfl rfl),
  (fun _ _ _ _ _ _ _ s0 _ => run_next rfl rfl),
  (fun _ _ _ _ _ _ _ s0 _ _ => run_next rfl rfl),
  (fun _ _ _ _ _ _ _ s0 _ _ => run_next rfl rfl),
  (fun _ _ _ _ _ _ _ _ _ => run_next rfl rfl),
  (fun _ _ _ _ _ _ _ s0 _ => run_next rfl rfl),
  (fun _ _ _ _ _ _ _ s0 _ _ => run_next rfl rfl),
  (fun _ _ _ _ _ _ _ s0 _ _ => run_next rfl rfl),
  (fun _ _ _ _ _ _ _ _ => run_next rfl rfl),
  (fun _ _ _ _ _ _ _ _ _ => run_next rfl rfl),
  (fun _ _ _ _ _ _ _ _ _ => run_next rfl rfl),
  (fun _ _ _ _ _ _ _ _ _ => run_next rfl rfl),
  (fun _ _ _ _ _ _ _ _ _ => run_next rfl rfl),
  (fun _ _ _ _ _ _ _ _ s0 _ => run_ret rfl rfl)⟩
set_option maxRecDepth 20000 in
theorem x_707_23 : (∀ (l0 l1 l2 l3 l4 l5 l7 : Option AV) (w : Int32) (h : Hp), run 4 707 23 [l0, l1, l2, l3, l4, l5, some (vi w), l7] [] h = run 4 707 25 [l0, l1, l2, l3, l4, l5, some (vi w), l7] [vi w] h) := (fun _ _ _ _ _ _ _ _ _ => run_next rfl rfl)
theorem e_707 (v : Option Rf) (a0 : Option Rf) (a1 : Int32) (a2 : Int32) (h : Hp) : call 707 [vo v, vo a0, vi a1, vi a2] h = run 4 707 0 [some (vo v), some (vo a0), some (vi a1), some (vi a2), none, none, none, none] [] h := rfl
set_option maxRecDepth 20000 in
theorem x_708 : (∀ (l1 l2 : Option AV) (w : Option Rf) (h : Hp), run 1 708 0 [some (vo w), l1, l2] [] h = run 1 708 1 [some (vo w), l1, l2] [vo w] h) ∧
  (∀ (l0 l1 l2 : Option AV) (o z : Nat) (h : Hp), run 1 708 1 [l0, l1, l2] [vo (some (o, 7, z))] h = run 1 708 4 [l0, l1, l2] [vo (hR h o 3)] h) ∧
  (∀ (l0 l1 l2 : Option AV) (s0 : Option Rf) (h : Hp), run 1 708 4 [l0, l1, l2] [vo s0] h = run 1 708 5 [l0, l1, l2] [vi (0 : Int32), vo s0] h) ∧
  (∀ (l0 l1 l2 : Option AV) (s0 : Int32) (s1 : Option Rf) (h : Hp), run 1 708 5 [l0, l1, l2] [vi s0, vo s1] h = (call 1400 [vo s1, vi s0] h).bind (fun z => run 1 708 8 [l0, l1, l2] (z.1.toList ++ []) z.2)) ∧
  (∀ (l0 l2 : Option AV) (w : Option Rf) (h : Hp), run 1 708 8 [l0, some (vo w), l2] [] h = run 1 708 9 [l0, some (vo w), l2] [vo w] h) ∧
  (∀ (l0 l1 : Option AV) (s0 : Option Rf) (w : Int32) (h : Hp), run 1 708 9 [l0, l1, some (vi w)] [vo s0] h = run 1 708 10 [l0, l1, some (vi w)] [vi w, vo s0] h) ∧
  (∀ (l0 l1 l2 : Option AV) (s0 : Int32) (o z : Nat) (h : Hp), run 1 708 10 [l0, l1, l2] [vi s0, vo (some (o, 5, z))] h = (call 504 [vo (some (o, 5, z)), vi s0] h).bind (fun z => run 1 708 13 [l0, l1, l2] (z.1.toList ++ []) z.2)) ∧
  (∀ (l0 l1 l2 : Option AV) (s0 : Int32) (h : Hp), run 1 708 13 [l0, l1, l2] [vi s0] h = if s0 = 0 then run 1 708 23 [l0, l1, l2] [] h else run 1 708 16 [l0, l1, l2] [] h) ∧
  (∀ (l1 l2 : Option AV) (w : Option Rf) (h : Hp), run 1 708 16 [some (vo w), l1, l2] [] h = run 1 708 17 [some (vo w), l1, l2] [vo w] h) ∧
  (∀ (l0 l1 l2 : Option AV) (o z : Nat) (h : Hp), run 1 708 17 [l0, l1, l2] [vo (some (o, 7, z))] h = run 1 708 20 [l0, l1, l2] [vo (hR h o 3)] h) ∧
  (∀ (l0 l1 : Option AV) (s0 : Option Rf) (w : Int32) (h : Hp), run 1 708 20 [l0, l1, some (vi w)] [vo s0] h = run 1 708 21 [l0, l1, some (vi w)] [vi w, vo s0] h) ∧
  (∀ (l0 l1 l2 : Option AV) (s0 : Int32) (s1 : Option Rf) (h : Hp), run 1 708 21 [l0, l1, l2] [vi s0, vo s1] h = run 1 708 22 [l0, l1, l2] [vi (1 : Int32), vi s0, vo s1] h) ∧
  (∀ (l0 l1 l2 : Option AV) (s0 : Int32) (s1 : Int32) (o z : Nat) (h : Hp), run 1 708 22 [l0, l1, l2] [vi s0, vi s1, vo (some (o, 13, z))] h = if s1 < 0 ∨ z ≤ s1.toNatClampNeg then none else run 1 708 23 [l0, l1, l2] [] (hsI h o s1.toNatClampNeg s0)) ∧
  (∀ (l0 l1 l2 : Option AV) (h : Hp), run 1 708 23 [l0, l1, l2] [] h = some (none, h)) := ⟨(fun _ _ _ _ => run_next rfl rfl),
  (fun _ _ _ _ _ _ => run_next rfl rfl),
  (fun _ _ _ s0 _ => run_next rfl rfl),
  (fun _ _ _ s0 _ _ => run_calx rfl rfl (Nat.le_of_ble_eq_true rfl) (Nat.le_of_ble_eq_true rfl) rfl),
  (fun _ _ _ _ => run_next rfl rfl),
  (fun _ _ s0 _ _ => run_next rfl rfl),
  (fun _ _ _ s0 _ _ _ => run_calx rfl rfl (Nat.le_of_ble_eq_true rfl) (Nat.le_of_ble_eq_true rfl) rfl),
  (fun _ _ _ s0 _ => run_if rfl rfl (run_next rfl) (run_next rfl)),
  (fun _ _ _ _ => run_next rfl rfl),
  (fun _ _ _ _ _ _ => run_next rfl rfl),
  (fun _ _ s0 _ _ => run_next rfl rfl),
  (fun _ _ _ s0 _ _ => run_next rfl rfl),
  (fun _ _ _ s0 _ _ _ _ => run_if rfl rfl (run_fail rfl) (run_next rfl)),
  (fun _ _ _ _ => run_ret rfl rfl)⟩
theorem e_708 (v : Option Rf) (a0 : Option Rf) (a1 : Int32) (h : Hp) : call 708 [vo v, vo a0, vi a1] h = run 1 708 0 [some (vo v), some (vo a0), some (vi a1)] [] h := rfl
set_option maxRecDepth 20000 in
theorem x_709 : (∀ (l1 l2 l3 l4 : Option AV) (w : Option Rf) (h : Hp), run 3 709 0 [some (vo w), l1, l2, l3, l4] [] h = run 3 709 1 [some (vo w), l1, l2, l3, l4] [vo w] h) ∧
  (∀ (l0 l2 l3 l4 : Option AV) (s0 : Option Rf) (w : Option Rf) (h : Hp), run 3 709 1 [l0, some (vo w), l2, l3, l4] [vo s0] h = run 3 709 2 [l0, some (vo w), l2, l3, l4] [vo w, vo s0] h) ∧
  (∀ (l0 l1 l3 l4 : Option AV) (s0 : Option Rf) (s1 : Option Rf) (w : Int32) (h : Hp), run 3 709 2 [l0, l1, some (vi w), l3, l4] [vo s0, vo s1] h = run 3 709 3 [l0, l1, some (vi w), l3, l4] [vi w, vo s0, vo s1] h) ∧
  (∀ (l0 l1 l2 l3 l4 : Option AV) (s0 : Int32) (s1 : Option Rf) (o z : Nat) (h : Hp), run 3 709 3 [l0, l1, l2, l3, l4] [vi s0, vo s1, vo (some (o, 7, z))] h = (call 708 [vo (some (o, 7, z)), vo s1, vi s0] h).bind (fun z => run 3 709 6 [l0, l1, l2, l3, l4] (z.1.toList ++ []) z.2)) ∧
  (∀ (l1 l2 l3 l4 : Option AV) (w : Option Rf) (h : Hp), run 3 709 6 [some (vo w), l1, l2, l3, l4] [] h = run 3 709 7 [some (vo w), l1, l2, l3, l4] [vo w] h) ∧
  (∀ (l1 l2 l3 l4 : Option AV) (s0 : Option Rf) (w : Option Rf) (h : Hp), run 3 709 7 [some (vo w), l1, l2, l3, l4] [vo s0] h = run 3 709 8 [some (vo w), l1, l2, l3, l4] [vo w, vo s0] h) ∧
  (∀ (l0 l1 l2 l3 l4 : Option AV) (s1 : Option Rf) (o z : Nat) (h : Hp), run 3 709 8 [l0, l1, l2, l3, l4] [vo (some (o, 7, z)), vo s1] h = run 3 709 11 [l0, l1, l2, l3, l4] [vo (hR h o 3), vo s1] h) ∧
  (∀ (l0 l1 l2 l3 l4 : Option AV) (s0 : Option Rf) (s1 : Option Rf) (h : Hp), run 3 709 11 [l0, l1, l2, l3, l4] [vo s0, vo s1] h = run 3 709 12 [l0, l1, l2, l3, l4] [vi (0 : Int32), vo s0, vo s1] h) ∧
  (∀ (l0 l1 l2 l3 l4 : Option AV) (s0 : Int32) (s1 : Option Rf) (o z : Nat) (h : Hp), run 3 709 12 [l0, l1, l2, l3, l4] [vi s0, vo s1, vo (some (o, 7, z))] h = (call 712 [vo (some (o, 7, z)), vo s1, vi s0] h).bind (fun z => run 3 709 15 [l0, l1, l2, l3, l4] (z.1.toList ++ []) z.2)) ∧
  (∀ (l0 l1 l2 l3 l4 : Option AV) (h : Hp), run 3 709 15 [l0, l1, l2, l3, l4] [] h = run 3 709 16 [l0, l1, l2, l3, l4] [vi (1 : Int32)] h) ∧
  (∀ (l0 l1 l2 l4 : Option AV) (s0 : Int32) (h : Hp), run 3 709 16 [l0, l1, l2, none, l4] [vi s0] h = run 3 709 18 [l0, l1, l2, none, some (vi s0)] [] h) ∧
  (∀ (l0 l1 l2 l4 : Option AV) (s0 : Int32) (w1 : Int32) (h : Hp), run 3 709 16 [l0, l1, l2, some (vi w1), l4] [vi s0] h = run 3 709 18 [l0, l1, l2, some (vi w1), some (vi s0)] [] h) ∧
  (∀ (l0 l1 l2 l4 : Option AV) (s0 : Int32) (w1 : Option Rf) (h : Hp), run 3 709 16 [l0, l1, l2, some (vo w1), l4] [vi s0] h = run 3 709 18 [l0, l1, l2, some (vo w1), some (vi s0)] [] h) ∧
  (∀ (l0 l1 l2 l4 : Option AV) (s0 : Int32) (w : Int32) (h : Hp), run 3 709 20 [l0, l1, l2, some (vi w), l4] [vi s0] h = run 3 709 21 [l0, l1, l2, some (vi w), l4] [vi w, vi s0] h) ∧
  (∀ (l0 l1 l2 l3 l4 : Option AV) (s0 : Int32) (s1 : Int32) (h : Hp), run 3 709 21 [l0, l1, l2, l3, l4] [vi s0, vi s1] h = if s0 < s1 then run 3 709 49 [l0, l1, l2, l3, l4] [] h else run 3 709 24 [l0, l1, l2, l3, l4] [] h) ∧
  (∀ (l1 l2 l3 l4 : Option AV) (w : Option Rf) (h : Hp), run 3 709 24 [some (vo w), l1, l2, l3, l4] [] h = run 3 709 25 [some (vo w), l1, l2, l3, l4] [vo w] h) ∧
  (∀ (l0 l2 l3 l4 : Option AV) (s0 : Option Rf) (w : Option Rf) (h : Hp), run 3 709 25 [l0, some (vo w), l2, l3, l4] [vo s0] h = run 3 709 26 [l0, some (vo w), l2, l3, l4] [vo w, vo s0] h) ∧
  (∀ (l1 l2 l3 l4 : Option AV) (s0 : Option Rf) (s1 : Option Rf) (w : Option Rf) (h : Hp), run 3 709 26 [some (vo w), l1, l2, l3, l4] [vo s0, vo s1] h = run 3 709 27 [some (vo w), l1, l2, l3, l4] [vo w, vo s0, vo s1] h) ∧
  (∀ (l0 l1 l2 l3 l4 : Option AV) (s1 : Option Rf) (s2 : Option Rf) (o z : Nat) (h : Hp), run 3 709 27 [l0, l1, l2, l3, l4] [vo (some (o, 7, z)), vo s1, vo s2] h = run 3 709 30 [l0, l1, l2, l3, l4] [vo (hR h o 3), vo s1, vo s2] h) ∧
  (∀ (l0 l1 l2 l3 l4 : Option AV) (s0 : Option Rf) (s1 : Option Rf) (o z : Nat) (h : Hp), run 3 709 30 [l0, l1, l2, l3, l4] [vo s0, vo s1, vo (some (o, 7, z))] h = (call 711 [vo (some (o, 7, z)), vo s1, vo s0] h).bind (fun z => run 3 709 33 [l0, l1, l2, l3, l4] (z.1.toList ++ []) z.2)) ∧
  (∀ (l1 l2 l3 l4 : Option AV) (w : Option Rf) (h : Hp), run 3 709 33 [some (vo w), l1, l2, l3, l4] [] h = run 3 709 34 [some (vo w), l1, l2, l3, l4] [vo w] h) ∧
  (∀ (l1 l2 l3 l4 : Option AV) (s0 : Option Rf) (w : Option Rf) (h : Hp), run 3 709 34 [some (vo w), l1, l2, l3, l4] [vo s0] h = run 3 709 35 [some (vo w), l1, l2, l3, l4] [vo w, vo s0] h) ∧
  (∀ (l0 l1 l2 l3 l4 : Option AV) (s1 : Option Rf) (o z : Nat) (h : Hp), run 3 709 35 [l0, l1, l2, l3, l4] [vo (some (o, 7, z)), vo s1] h = run 3 709 38 [l0, l1, l2, l3, l4] [vo (hR h o 3), vo s1] h) ∧
  (∀ (l0 l1 l2 l3 : Option AV) (s0 : Option Rf) (s1 : Option Rf) (w : Int32) (h : Hp), run 3 709 38 [l0, l1, l2, l3, some (vi w)] [vo s0, vo s1] h = run 3 709 40 [l0, l1, l2, l3, some (vi w)] [vi w, vo s0, vo s1] h) ∧
  (∀ (l0 l1 l2 l3 l4 : Option AV) (s0 : Int32) (s1 : Option Rf) (o z : Nat) (h : Hp), run 3 709 40 [l0, l1, l2, l3, l4] [vi s0, vo s1, vo (some (o, 7, z))] h = (call 712 [vo (some (o, 7, z)), vo s1, vi s0] h).bind (fun z => run 3 709 43 [l0, l1, l2, l3, l4] (z.1.toList ++ []) z.2)) ∧
  (∀ (l0 l1 l2 : Option AV) (w : Int32) (h : Hp), run 3 709 43 [l0, l1, l2, none, some (vi w)] [] h = run 3 709 46 [l0, l1, l2, none, some (vi (w + (1 : Int32)))] [] h) ∧
  (∀ (l0 l1 l2 : Option AV) (w1 : Int32) (w : Int32) (h : Hp), run 3 709 43 [l0, l1, l2, some (vi w1), some (vi w)] [] h = run 3 709 46 [l0, l1, l2, some (vi w1), some (vi (w + (1 : Int32)))] [] h) ∧
  (∀ (l0 l1 l2 : Option AV) (w1 : Option Rf) (w : Int32) (h : Hp), run 3 709 43 [l0, l1, l2, some (vo w1), some (vi w)] [] h = run 3 709 46 [l0, l1, l2, some (vo w1), some (vi (w + (1 : Int32)))] [] h) ∧
  (∀ (l0 l1 l2 l3 l4 : Option AV) (h : Hp), run 3 709 46 [l0, l1, l2, l3, l4] [] h = run 3 709 18 [l0, l1, l2, l3, l4] [] h) ∧
  (∀ (l0 l1 l2 l3 l4 : Option AV) (h : Hp), run 3 709 49 [l0, l1, l2, l3, l4] [] h = some (none, h)) := ⟨(fun _ _ _ _ _ _ => run_next rfl rfl),
  (fun _ _ _ _ s0 _ _ => run_next rfl rfl),
  (fun _ _ _ _ s0 _ _ _ => run_next rfl rfl),
  (fun _ _ _ _ _ s0 _ _ _ _ => run_calx rfl rfl (Nat.le_of_ble_eq_true rfl) (Nat.le_of_ble_eq_true rfl) rfl),
  (fun _ _ _ _ _ _ => run_next rfl rfl),
  (fun _ _ _ _ s0 _ _ => run_next rfl rfl),
  (fun _ _ _ _ _ _ _ _ _ => run_next rfl rfl),
  (fun _ _ _ _ _ s0 _ _ => run_next rfl rfl),
  (fun _ _ _ _ _ s0 _ _ _ _ => run_calx rfl rfl (Nat.le_of_ble_eq_true rfl) (Nat.le_of_ble_eq_true rfl) rfl),
  (fun _ _ _ _ _ _ => run_next rfl rfl),
  (fun _ _ _ _ s0 _ => run_next rfl rfl),
  (fun _ _ _ _ s0 _ _ => run_next rfl rfl),
  (fun _ _ _ _ s0 _ _ => run_next rfl rfl),
  (fun _ _ _ _ s0 _ _ => run_next rfl rfl),
  (fun _ _ _ _ _ s0 _ _ => run_if rfl rfl (run_next rfl) (run_next rfl)),
  (fun _ _ _ _ _ _ => run_next rfl rfl),
  (fun _ _ _ _ s0 _ _ => run_next rfl rfl),
  (fun _ _ _ _ s0 _ _ _ => run_next rfl rfl),
  (fun _ _ _ _ _ _ _ _ _ _ => run_next rfl rfl),
  (fun _ _ _ _ _ s0 _ _ _ _ => run_calx rfl rfl (Nat.le_of_ble_eq_true rfl) (Nat.le_of_ble_eq_true rfl) rfl),
  (fun _ _ _ _ _ _ => run_next rfl rfl),
  (fun _ _ _ _ s0 _ _ => run_next rfl rfl),
  (fun _ _ _ _ _ _ _ _ _ => run_next rfl rfl),
  (fun _ _ _ _ s0 _ _ _ => run_next rfl rfl),
  (fun _ _ _ _ _ s0 _ _ _ _ => run_calx rfl rfl (Nat.le_of_ble_eq_true rfl) (Nat.le_of_ble_eq_true rfl) rfl),
  (fun _ _ _ _ _ => run_next rfl rfl),
  (fun _ _ _ _ _ _ => run_next rfl rfl),
  (fun _ _ _ _ _ _ => run_next rfl rfl),
  (fun _ _ _ _ _ _ => run_next rfl rfl),
  (fun _ _ _ _ _ _ => run_ret rfl rfl)⟩
set_option maxRecDepth 20000 in
theorem x_709_18 : (∀ (l0 l1 l2 l3 : Option AV) (w : Int32) (h : Hp), run 3 709 18 [l0, l1, l2, l3, some (vi w)] [] h = run 3 709 20 [l0, l1, l2, l3, some (vi w)] [vi w] h) := (fun _ _ _ _ _ _ => run_next rfl rfl)
theorem e_709 (v : Option Rf) (a0 : Option Rf) (a1 : Int32) (a2 : Int32) (h : Hp) : call 709 [vo v, vo a0, vi a1, vi a2] h = run 3 709 0 [some (vo v), some (vo a0), some (vi a1), some (vi a2), none] [] h := rfl
set_option maxRecDepth 20000 in
theorem x_710 : (∀ (l1 l2 l3 l4 : Option AV) (w : Option Rf) (h : Hp), run 3 710 0 [some (vo w), l1, l2, l3, l4] [] h = run 3 710 1 [some (vo w), l1, l2, l3, l4] [vo w] h) ∧
  (∀ (l0 l1 l2 l3 l4 : Option AV) (o z : Nat) (h : Hp), run 3 710 1 [l0, l1, l2, l3, l4] [vo (some (o, 7, z))] h = (call 704 [vo (some (o, 7, z))] h).bind (fun z => run 3 710 4 [l0, l1, l2, l3, l4] (z.1.toList ++ []) z.2)) ∧
  (∀ (l0 l1 l3 l4 : Option AV) (s0 : Int32) (h : Hp), run 3 710 4 [l0, l1, none, l3, l4] [vi s0] h = run 3 710 5 [l0, l1, none, some (vi s0), l4] [] h) ∧
  (∀ (l0 l1 l3 l4 : Option AV) (s0 : Int32) (w1 : Int32) (h : Hp), run 3 710 4 [l0, l1, some (vi w1), l3, l4] [vi s0] h = run 3 710 5 [l0, l1, some (vi w1), some (vi s0), l4] [] h) ∧
  (∀ (l0 l1 l3 l4 : Option AV) (s0 : Int32) (w1 : Option Rf) (h : Hp), run 3 710 4 [l0, l1, some (vo w1), l3, l4] [vi s0] h = run 3 710 5 [l0, l1, some (vo w1), some (vi s0), l4] [] h) ∧
  (∀ (l1 l2 l3 l4 : Option AV) (w : Option Rf) (h : Hp), run 3 710 5 [some (vo w), l1, l2, l3, l4] [] h = run 3 710 6 [some (vo w), l1, l2, l3, l4] [vo w] h) ∧
  (∀ (l0 l1 l2 l3 l4 : Option AV) (o z : Nat) (h : Hp), run 3 710 6 [l0, l1, l2, l3, l4] [vo (some (o, 7, z))] h = run 3 710 9 [l0, l1, l2, l3, l4] [vo (hR h o 4)] h) ∧
  (∀ (l0 l1 l2 l3 l4 : Option AV) (s0 : Option Rf) (h : Hp), run 3 710 9 [l0, l1, l2, l3, l4] [vo s0] h = run 3 710 10 [l0, l1, l2, l3, l4] [vi (0 : Int32), vo s0] h) ∧
  (∀ (l0 l1 l2 l3 l4 : Option AV) (s0 : Int32) (s1 : Option Rf) (h : Hp), run 3 710 10 [l0, l1, l2, l3, l4] [vi s0, vo s1] h = (call 1400 [vo s1, vi s0] h).bind (fun z => run 3 710 13 [l0, l1, l2, l3, l4] (z.1.toList ++ []) z.2)) ∧
  (∀ (l0 l1 l2 l3 l4 : Option AV) (h : Hp), run 3 710 13 [l0, l1, l2, l3, l4] [] h = run 3 710 14 [l0, l1, l2, l3, l4] [vi (0 : Int32)] h) ∧
  (∀ (l0 l1 l2 l4 : Option AV) (s0 : Int32) (h : Hp), run 3 710 14 [l0, l1, l2, none, l4] [vi s0] h = run 3 710 16 [l0, l1, l2, none, some (vi s0)] [] h) ∧
  (∀ (l0 l1 l2 l4 : Option AV) (s0 : Int32) (w1 : Int32) (h : Hp), run 3 710 14 [l0, l1, l2, some (vi w1), l4] [vi s0] h = run 3 710 16 [l0, l1, l2, some (vi w1), some (vi s0)] [] h) ∧
  (∀ (l0 l1 l2 l4 : Option AV) (s0 : Int32) (w1 : Option Rf) (h : Hp), run 3 710 14 [l0, l1, l2, some (vo w1), l4] [vi s0] h = run 3 710 16 [l0, l1, l2, some (vo w1), some (vi s0)] [] h) ∧
  (∀ (l0 l2 l3 l4 : Option AV) (s0 : Int32) (w : Option Rf) (h : Hp), run 3 710 18 [l0, some (vo w), l2, l3, l4] [vi s0] h = run 3 710 19 [l0, some (vo w), l2, l3, l4] [vo w, vi s0] h) ∧
  (∀ (l0 l1 l2 l3 l4 : Option AV) (s1 : Int32) (o z : Nat) (h : Hp), run 3 710 19 [l0, l1, l2, l3, l4] [vo (some (o, 5, z)), vi s1] h = run 3 710 22 [l0, l1, l2, l3, l4] [vi (hI h o 2), vi s1] h) ∧
  (∀ (l0 l1 l2 l3 l4 : Option AV) (s0 : Int32) (s1 : Int32) (h : Hp), run 3 710 22 [l0, l1, l2, l3, l4] [vi s0, vi s1] h = if s0 ≤ s1 then run 3 710 52 [l0, l1, l2, l3, l4] [] h else run 3 710 25 [l0, l1, l2, l3, l4] [] h) ∧
  (∀ (l1 l2 l3 l4 : Option AV) (w : Option Rf) (h : Hp), run 3 710 25 [some (vo w), l1, l2, l3, l4] [] h = run 3 710 26 [some (vo w), l1, l2, l3, l4] [vo w] h) ∧
  (∀ (l0 l1 l2 l3 l4 : Option AV) (o z : Nat) (h : Hp), run 3 710 26 [l0, l1, l2, l3, l4] [vo (some (o, 7, z))] h = run 3 710 29 [l0, l1, l2, l3, l4] [vo (hR h o 4)] h) ∧
  (∀ (l0 l1 l2 l3 : Option AV) (s0 : Option Rf) (w : Int32) (h : Hp), run 3 710 29 [l0, l1, l2, l3, some (vi w)] [vo s0] h = run 3 710 31 [l0, l1, l2, l3, some (vi w)] [vi w, vo s0] h) ∧
  (∀ (l0 l2 l3 l4 : Option AV) (s0 : Int32) (s1 : Option Rf) (w : Option Rf) (h : Hp), run 3 710 31 [l0, some (vo w), l2, l3, l4] [vi s0, vo s1] h = run 3 710 32 [l0, some (vo w), l2, l3, l4] [vo w, vi s0, vo s1] h) ∧
  (∀ (l0 l1 l2 l3 : Option AV) (s0 : Option Rf) (s1 : Int32) (s2 : Option Rf) (w : Int32) (h : Hp), run 3 710 32 [l0, l1, l2, l3, some (vi w)] [vo s0, vi s1, vo s2] h = run 3 710 34 [l0, l1, l2, l3, some (vi w)] [vi w, vo s0, vi s1, vo s2] h) ∧
  (∀ (l0 l1 l2 l3 l4 : Option AV) (s0 : Int32) (s2 : Int32) (s3 : Option Rf) (o z : Nat) (h : Hp), run 3 710 34 [l0, l1, l2, l3, l4] [vi s0, vo (some (o, 5, z)), vi s2, vo s3] h = (call 504 [vo (some (o, 5, z)), vi s0] h).bind (fun z => run 3 710 37 [l0, l1, l2, l3, l4] (z.1.toList ++ [vi s2, vo s3]) z.2)) ∧
  (∀ (l0 l1 l2 l3 l4 : Option AV) (s0 : Int32) (s1 : Int32) (s2 : Option Rf) (h : Hp), run 3 710 37 [l0, l1, l2, l3, l4] [vi s0, vi s1, vo s2] h = if s0 = 0 then run 3 710 44 [l0, l1, l2, l3, l4] [vi s1, vo s2] h else run 3 710 40 [l0, l1, l2, l3, l4] [vi s1, vo s2] h) ∧
  (∀ (l0 l1 l2 l3 l4 : Option AV) (s0 : Int32) (s1 : Option Rf) (h : Hp), run 3 710 40 [l0, l1, l2, l3, l4] [vi s0, vo s1] h = run 3 710 41 [l0, l1, l2, l3, l4] [vi (1 : Int32), vi s0, vo s1] h) ∧
  (∀ (l0 l1 l2 l3 l4 : Option AV) (s0 : Int32) (s1 : Int32) (s2 : Option Rf) (h : Hp), run 3 710 41 [l0, l1, l2, l3, l4] [vi s0, vi s1, vo s2] h = run 3 710 45 [l0, l1, l2, l3, l4] [vi s0, vi s1, vo s2] h) ∧
  (∀ (l0 l1 l2 l3 l4 : Option AV) (s0 : Int32) (s1 : Option Rf) (h : Hp), run 3 710 44 [l0, l1, l2, l3, l4] [vi s0, vo s1] h = run 3 710 45 [l0, l1, l2, l3, l4] [vi (0 : Int32), vi s0, vo s1] h) ∧
  (∀ (l0 l1 l2 l3 l4 : Option AV) (s0 : Int32) (s1 : Int32) (o z : Nat) (h : Hp), run 3 710 45 [l0, l1, l2, l3, l4] [vi s0, vi s1, vo (some (o, 13, z))] h = if s1 < 0 ∨ z ≤ s1.toNatClampNeg then none else run 3 710 46 [l0, l1, l2, l3, l4] [] (hsI h o s1.toNatClampNeg s0)) ∧
  (∀ (l0 l1 l2 : Option AV) (w : Int32) (h : Hp), run 3 710 46 [l0, l1, l2, none, some (vi w)] [] h = run 3 710 49 [l0, l1, l2, none, some (vi (w + (1 : Int32)))] [] h) ∧
  (∀ (l0 l1 l2 : Option AV) (w1 : Int32) (w : Int32) (h : Hp), run 3 710 46 [l0, l1, l2, some (vi w1), some (vi w)] [] h = run 3 710 49 [l0, l1, l2, some (vi w1), some (vi (w + (1 : Int32)))] [] h) ∧
  (∀ (l0 l1 l2 : Option AV) (w1 : Option Rf) (w : Int32) (h : Hp), run 3 710 46 [l0, l1, l2, some (vo w1), some (vi w)] [] h = run 3 710 49 [l0, l1, l2, some (vo w1), some (vi (w + (1 : Int32)))] [] h) ∧
  (∀ (l0 l1 l2 l3 l4 : Option AV) (h : Hp), run 3 710 49 [l0, l1, l2, l3, l4] [] h = run 3 710 16 [l0, l1, l2, l3, l4] [] h) ∧
  (∀ (l1 l2 l3 l4 : Option AV) (w : Option Rf) (h : Hp), run 3 710 52 [some (vo w), l1, l2, l3, l4] [] h = run 3 710 53 [some (vo w), l1, l2, l3, l4] [vo w] h) ∧
  (∀ (l1 l2 l3 l4 : Option AV) (s0 : Option Rf) (w : Option Rf) (h : Hp), run 3 710 53 [some (vo w), l1, l2, l3, l4] [vo s0] h = run 3 710 54 [some (vo w), l1, l2, l3, l4] [vo w, vo s0] h) ∧
  (∀ (l0 l1 l2 l3 l4 : Option AV) (s1 : Option Rf) (o z : Nat) (h : Hp), run 3 710 54 [l0, l1, l2, l3, l4] [vo (some (o, 7, z)), vo s1] h = run 3 710 57 [l0, l1, l2, l3, l4] [vo (hR h o 4), vo s1] h) ∧
  (∀ (l0 l1 l2 l4 : Option AV) (s0 : Option Rf) (s1 : Option Rf) (w : Int32) (h : Hp), run 3 710 57 [l0, l1, l2, some (vi w), l4] [vo s0, vo s1] h = run 3 710 58 [l0, l1, l2, some (vi w), l4] [vi w, vo s0, vo s1] h) ∧
  (∀ (l0 l1 l2 l3 l4 : Option AV) (s0 : Int32) (s1 : Option Rf) (o z : Nat) (h : Hp), run 3 710 58 [l0, l1, l2, l3, l4] [vi s0, vo s1, vo (some (o, 7, z))] h = (call 712 [vo (some (o, 7, z)), vo s1, vi s0] h).bind (fun z => run 3 710 61 [l0, l1, l2, l3, l4] (z.1.toList ++ []) z.2)) ∧
  (∀ (l0 l1 l2 l4 : Option AV) (w : Int32) (h : Hp), run 3 710 61 [l0, l1, l2, some (vi w), l4] [] h = run 3 710 62 [l0, l1, l2, some (vi w), l4] [vi w] h) ∧
  (∀ (l0 l1 l2 l3 l4 : Option AV) (s0 : Int32) (h : Hp), run 3 710 62 [l0, l1, l2, l3, l4] [vi s0] h = run 3 710 63 [l0, l1, l2, l3, l4] [vi (1 : Int32), vi s0] h) ∧
  (∀ (l0 l1 l2 l3 l4 : Option AV) (s0 : Int32) (s1 : Int32) (h : Hp), run 3 710 63 [l0, l1, l2, l3, l4] [vi s0, vi s1] h = run 3 710 64 [l0, l1, l2, l3, l4] [vi (s1 - s0)] h) ∧
  (∀ (l0 l1 l2 l4 : Option AV) (s0 : Int32) (h : Hp), run 3 710 64 [l0, l1, l2, none, l4] [vi s0] h = run 3 710 66 [l0, l1, l2, none, some (vi s0)] [] h) ∧
  (∀ (l0 l1 l2 l4 : Option AV) (s0 : Int32) (w1 : Int32) (h : Hp), run 3 710 64 [l0, l1, l2, some (vi w1), l4] [vi s0] h = run 3 710 66 [l0, l1, l2, some (vi w1), some (vi s0)] [] h) ∧
  (∀ (l0 l1 l2 l4 : Option AV) (s0 : Int32) (w1 : Option Rf) (h : Hp), run 3 710 64 [l0, l1, l2, some (vo w1), l4] [vi s0] h = run 3 710 66 [l0, l1, l2, some (vo w1), some (vi s0)] [] h) ∧
  (∀ (l0 l1 l3 l4 : Option AV) (s0 : Int32) (w : Int32) (h : Hp), run 3 710 68 [l0, l1, some (vi w), l3, l4] [vi s0] h = run 3 710 69 [l0, l1, some (vi w), l3, l4] [vi w, vi s0] h) ∧
  (∀ (l0 l1 l2 l3 l4 : Option AV) (s0 : Int32) (s1 : Int32) (h : Hp), run 3 710 69 [l0, l1, l2, l3, l4] [vi s0, vi s1] h = if s1 < s0 then run 3 710 97 [l0, l1, l2, l3, l4] [] h else run 3 710 72 [l0, l1, l2, l3, l4] [] h) ∧
  (∀ (l1 l2 l3 l4 : Option AV) (w : Option Rf) (h : Hp), run 3 710 72 [some (vo w), l1, l2, l3, l4] [] h = run 3 710 73 [some (vo w), l1, l2, l3, l4] [vo w] h) ∧
  (∀ (l0 l2 l3 l4 : Option AV) (s0 : Option Rf) (w : Option Rf) (h : Hp), run 3 710 73 [l0, some (vo w), l2, l3, l4] [vo s0] h = run 3 710 74 [l0, some (vo w), l2, l3, l4] [vo w, vo s0] h) ∧
  (∀ (l1 l2 l3 l4 : Option AV) (s0 : Option Rf) (s1 : Option Rf) (w : Option Rf) (h : Hp), run 3 710 74 [some (vo w), l1, l2, l3, l4] [vo s0, vo s1] h = run 3 710 75 [some (vo w), l1, l2, l3, l4] [vo w, vo s0, vo s1] h) ∧
  (∀ (l0 l1 l2 l3 l4 : Option AV) (s1 : Option Rf) (s2 : Option Rf) (o z : Nat) (h : Hp), run 3 710 75 [l0, l1, l2, l3, l4] [vo (some (o, 7, z)), vo s1, vo s2] h = run 3 710 78 [l0, l1, l2, l3, l4] [vo (hR h o 4), vo s1, vo s2] h) ∧
  (∀ (l0 l1 l2 l3 l4 : Option AV) (s0 : Option Rf) (s1 : Option Rf) (o z : Nat) (h : Hp), run 3 710 78 [l0, l1, l2, l3, l4] [vo s0, vo s1, vo (some (o, 7, z))] h = (call 711 [vo (some (o, 7, z)), vo s1, vo s0] h).bind (fun z => run 3 710 81 [l0, l1, l2, l3, l4] (z.1.toList ++ []) z.2)) ∧
  (∀ (l1 l2 l3 l4 : Option AV) (w : Option Rf) (h : Hp), run 3 710 81 [some (vo w), l1, l2, l3, l4] [] h = run 3 710 82 [some (vo w), l1, l2, l3, l4] [vo w] h) ∧
  (∀ (l1 l2 l3 l4 : Option AV) (s0 : Option Rf) (w : Option Rf) (h : Hp), run 3 710 82 [some (vo w), l1, l2, l3, l4] [vo s0] h = run 3 710 83 [some (vo w), l1, l2, l3, l4] [vo w, vo s0] h) ∧
  (∀ (l0 l1 l2 l3 l4 : Option AV) (s1 : Option Rf) (o z : Nat) (h : Hp), run 3 710 83 [l0, l1, l2, l3, l4] [vo (some (o, 7, z)), vo s1] h = run 3 710 86 [l0, l1, l2, l3, l4] [vo (hR h o 4), vo s1] h) ∧
  (∀ (l0 l1 l2 l3 : Option AV) (s0 : Option Rf) (s1 : Option Rf) (w : Int32) (h : Hp), run 3 710 86 [l0, l1, l2, l3, some (vi w)] [vo s0, vo s1] h = run 3 710 88 [l0, l1, l2, l3, some (vi w)] [vi w, vo s0, vo s1] h) ∧
  (∀ (l0 l1 l2 l3 l4 : Option AV) (s0 : Int32) (s1 : Option Rf) (o z : Nat) (h : Hp), run 3 710 88 [l0, l1, l2, l3, l4] [vi s0, vo s1, vo (some (o, 7, z))] h = (call 712 [vo (some (o, 7, z)), vo s1, vi s0] h).bind (fun z => run 3 710 91 [l0, l1, l2, l3, l4] (z.1.toList ++ []) z.2)) ∧
  (∀ (l0 l1 l2 : Option AV) (w : Int32) (h : Hp), run 3 710 91 [l0, l1, l2, none, some (vi w)] [] h = run 3 710 94 [l0, l1, l2, none, some (vi (w + (-1 : Int32)))] [] h) ∧
  (∀ (l0 l1 l2 : Option AV) (w1 : Int32) (w : Int32) (h : Hp), run 3 710 91 [l0, l1, l2, some (vi w1), some (vi w)] [] h = run 3 710 94 [l0, l1, l2, some (vi w1), some (vi (w + (-1 : Int32)))] [] h) ∧
  (∀ (l0 l1 l2 : Option AV) (w1 : Option Rf) (w : Int32) (h : Hp), run 3 710 91 [l0, l1, l2, some (vo w1), some (vi w)] [] h = run 3 710 94 [l0, l1, l2, some (vo w1), some (vi (w + (-1 : Int32)))] [] h) ∧
  (∀ (l0 l1 l2 l3 l4 : Option AV) (h : Hp), run 3 710 94 [l0, l1, l2, l3, l4] [] h = run 3 710 66 [l0, l1, l2, l3, l4] [] h) ∧
  (∀ (l0 l1 l2 l3 l4 : Option AV) (h : Hp), run 3 710 97 [l0, l1, l2, l3, l4] [] h = some (none, h)) := ⟨(fun _ _ _ _ _ _ => run_next rfl rfl),
  (fun _ _ _ _ _ _ _ _ => run_calx rfl rfl (Nat.le_of_ble_eq_true rfl) (Nat.le_of_ble_eq_true rfl) rfl),
  (fun _ _ _ _ s0 _ => run_next rfl rfl),
  (fun _ _ _ _ s0 _ _ => run_next rfl rfl),
  (fun _ _ _ _ s0 _ _ => run_next rfl rfl),
  (fun _ _ _ _ _ _ => run_next rfl rfl),
  (fun _ _ _ _ _ _ _ _ => run_next rfl rfl),
  (fun _ _ _ _ _ s0 _ => run_next rfl rfl),
  (fun _ _ _ _ _ s0 _ _ => run_calx rfl rfl (Nat.le_of_ble_eq_true rfl) (Nat.le_of_ble_eq_true rfl) rfl),
  (fun _ _ _ _ _ _ => run_next rfl rfl),
  (fun _ _ _ _ s0 _ => run_next rfl rfl),
  (fun _ _ _ _ s0 _ _ => run_next rfl rfl),
  (fun _ _ _ _ s0 _ _ => run_next rfl rfl),
  (fun _ _ _ _ s0 _ _ => run_next rfl rfl),
  (fun _ _ _ _ _ _ _ _ _ => run_next rfl rfl),
  (fun _ _ _ _ _ s0 _ _ => run_if rfl rfl (run_next rfl) (run_next rfl)),
  (fun _ _ _ _ _ _ => run_next rfl rfl),
  (fun _ _ _ _ _ _ _ _ => run_next rfl rfl),
  (fun _ _ _ _ s0 _ _ => run_next rfl rfl),
  (fun _ _ _ _ s0 _ _ _ => run_next rfl rfl),
  (fun _ _ _ _ s0 _ _ _ _ => run_next rfl rfl),
  (fun _ _ _ _ _ s0 _ _ _ _ _ => run_calx rfl rfl (Nat.le_of_ble_eq_true rfl) (Nat.le_of_ble_eq_true rfl) rfl),
  (fun _ _ _ _ _ s0 _ _ _ => run_if rfl rfl (run_next rfl) (run_next rfl)),
  (fun _ _ _ _ _ s0 _ _ => run_next rfl rfl),
  (fun _ _ _ _ _ s0 _ _ _ => run_next rfl rfl),
  (fun _ _ _ _ _ s0 _ _ => run_next rfl rfl),
  (fun _ _ _ _ _ s0 _ _ _ _ => run_if rfl rfl (run_fail rfl) (run_next rfl)),
  (fun _ _ _ _ _ => run_next rfl rfl),
  (fun _ _ _ _ _ _ => run_next rfl rfl),
  (fun _ _ _ _ _ _ => run_next rfl rfl),
  (fun _ _ _ _ _ _ => run_next rfl rfl),
  (fun _ _ _ _ _ _ => run_next rfl rfl),
  (fun _ _ _ _ s0 _ _ => run_next rfl rfl),
  (fun _ _ _ _ _ _ _ _ _ => run_next rfl rfl),
  (fun _ _ _ _ s0 _ _ _ => run_next rfl rfl),
  (fun _ _ _ _ _ s0 _ _ _ _ => run_calx rfl rfl (Nat.le_of_ble_eq_true rfl) (Nat.le_of_ble_eq_true rfl) rfl),
  (fun _ _ _ _ _ _ => run_next rfl rfl),
  (fun _ _ _ _ _ s0 _ => run_next rfl rfl),
  (fun _ _ _ _ _ s0 _ _ => run_next rfl rfl),
  (fun _ _ _ _ s0 _ => run_next rfl rfl),
  (fun _ _ _ _ s0 _ _ => run_next rfl rfl),
  (fun _ _ _ _ s0 _ _ => run_next rfl rfl),
  (fun _ _ _ _ s0 _ _ => run_next rfl rfl),
  (fun _ _ _ _ _ s0 _ _ => run_if rfl rfl (run_next rfl) (run_next rfl)),
  (fun _ _ _ _ _ _ => run_next rfl rfl),
  (fun _ _ _ _ s0 _ _ => run_next rfl rfl),
  (fun _ _ _ _ s0 _ _ _ => run_next rfl rfl),
  (fun _ _ _ _ _ _ _ _ _ _ => run_next rfl rfl),
  (fun _ _ _ _ _ s0 _ _ _ _ => run_calx rfl rfl (Nat.le_of_ble_eq_true rfl) (Nat.le_of_ble_eq_true rfl) rfl),
  (fun _ _ _ _ _ _ => run_next rfl rfl),
  (fun _ _ _ _ s0 _ _ => run_next rfl rfl),
  (fun _ _ _ _ _ _ _ _ _ => run_next rfl rfl),
  (fun _ _ _ _ s0 _ _ _ => run_next rfl rfl),
  (fun _ _ _ _ _ s0 _ _ _ _ => run_calx rfl rfl (Nat.le_of_ble_eq_true rfl) (Nat.le_of_ble_eq_true rfl) rfl),
  (fun _ _ _ _ _ => run_next rfl rfl),
  (fun _ _ _ _ _ _ => run_next rfl rfl),
  (fun _ _ _ _ _ _ => run_next rfl rfl),
  (fun _ _ _ _ _ _ => run_next rfl rfl),
  (fun _ _ _ _ _ _ => run_ret rfl rfl)⟩
set_option maxRecDepth 20000 in
theorem x_710_16 : (∀ (l0 l1 l2 l3 : Option AV) (w : Int32) (h : Hp), run 3 710 16 [l0, l1, l2, l3, some (vi w)] [] h = run 3 710 18 [l0, l1, l2, l3, some (vi w)] [vi w] h) := (fun _ _ _ _ _ _ => run_next rfl rfl)
set_option maxRecDepth 20000 in
theorem x_710_66 : (∀ (l0 l1 l2 l3 : Option AV) (w : Int32) (h : Hp), run 3 710 66 [l0, l1, l2, l3, some (vi w)] [] h = run 3 710 68 [l0, l1, l2, l3, some (vi w)] [vi w] h) := (fun _ _ _ _ _ _ => run_next rfl rfl)
theorem e_710 (v : Option Rf) (a0 : Option Rf) (a1 : Int32) (h : Hp) : call 710 [vo v, vo a0, vi a1] h = run 3 710 0 [some (vo v), some (vo a0), some (vi a1), none, none] [] h := rfl
set_option maxRecDepth 20000 in
theorem x_711 : (∀ (l0 l1 l3 l4 l5 l6 : Option AV) (w : Option Rf) (h : Hp), run 2 711 0 [l0, l1, some (vo w), l3, l4, l5, l6] [] h = run 2 711 1 [l0, l1, some (vo w), l3, l4, l5, l6] [vo w] h) ∧
  (∀ (l0 l1 l2 l3 l4 l5 l6 : Option AV) (s0 : Option Rf) (h : Hp), run 2 711 1 [l0, l1, l2, l3, l4, l5, l6] [vo s0] h = run 2 711 2 [l0, l1, l2, l3, l4, l5, l6] [vi (0 : Int32), vo s0] h) ∧
  (∀ (l1 l2 l3 l4 l5 l6 : Option AV) (s0 : Int32) (s1 : Option Rf) (w : Option Rf) (h : Hp), run 2 711 2 [some (vo w), l1, l2, l3, l4, l5, l6] [vi s0, vo s1] h = run 2 711 3 [some (vo w), l1, l2, l3, l4, l5, l6] [vo w, vi s0, vo s1] h) ∧
  (∀ (l0 l1 l2 l3 l4 l5 l6 : Option AV) (s1 : Int32) (s2 : Option Rf) (o z : Nat) (h : Hp), run 2 711 3 [l0, l1, l2, l3, l4, l5, l6] [vo (some (o, 7, z)), vi s1, vo s2] h = run 2 711 6 [l0, l1, l2, l3, l4, l5, l6] [vo (hR h o 5), vi s1, vo s2] h) ∧
  (∀ (l0 l1 l2 l3 l4 l5 l6 : Option AV) (s0 : Option Rf) (s1 : Int32) (s2 : Option Rf) (h : Hp), run 2 711 6 [l0, l1, l2, l3, l4, l5, l6] [vo s0, vi s1, vo s2] h = run 2 711 7 [l0, l1, l2, l3, l4, l5, l6] [vi (0 : Int32), vo s0, vi s1, vo s2] h) ∧
  (∀ (l0 l1 l2 l3 l4 l5 l6 : Option AV) (s0 : Int32) (s1 : Option Rf) (s2 : Int32) (s3 : Option Rf) (h : Hp), run 2 711 7 [l0, l1, l2, l3, l4, l5, l6] [vi s0, vo s1, vi s2, vo s3] h = run 2 711 9 [l0, l1, l2, l3, l4, l5, l6] [vi (30 : Int32), vi s0, vo s1, vi s2, vo s3] h) ∧
  (∀ (l0 l1 l2 l3 l4 l5 l6 : Option AV) (s0 : Int32) (s1 : Int32) (s3 : Int32) (o1 n1 o0 n0 : Nat) (h : Hp), run 2 711 9 [l0, l1, l2, l3, l4, l5, l6] [vi s0, vi s1, vo (some (o1, 13, n1)), vi s3, vo (some (o0, 13, n0))] h = if s3 < 0 ∨ s1 < 0 ∨ s0 < 0 ∨ n0 < s3.toNatClampNeg + s0.toNatClampNeg ∨ n1 < s1.toNatClampNeg + s0.toNatClampNeg then none else run 2 711 12 [l0, l1, l2, l3, l4, l5, l6] [] (hcp h o0 s3.toNatClampNeg o1 s1.toNatClampNeg s0.toNatClampNeg)) ∧
  (∀ (l0 l1 l2 l3 l4 l5 l6 : Option AV) (h : Hp), run 2 711 12 [l0, l1, l2, l3, l4, l5, l6] [] h = run 2 711 13 [l0, l1, l2, l3, l4, l5, l6] [vi (0 : Int32)] h) ∧
  (∀ (l0 l1 l3 l4 l5 l6 : Option AV) (s0 : Int32) (h : Hp), run 2 711 13 [l0, l1, none, l3, l4, l5, l6] [vi s0] h = run 2 711 14 [l0, l1, none, some (vi s0), l4, l5, l6] [] h) ∧
  (∀ (l0 l1 l3 l4 l5 l6 : Option AV) (s0 : Int32) (w1 : Int32) (h : Hp), run 2 711 13 [l0, l1, some (vi w1), l3, l4, l5, l6] [vi s0] h = run 2 711 14 [l0, l1, some (vi w1), some (vi s0), l4, l5, l6] [] h) ∧
  (∀ (l0 l1 l3 l4 l5 l6 : Option AV) (s0 : Int32) (w1 : Option Rf) (h : Hp), run 2 711 13 [l0, l1, some (vo w1), l3, l4, l5, l6] [vi s0] h = run 2 711 14 [l0, l1, some (vo w1), some (vi s0), l4, l5, l6] [] h) ∧
  (∀ (l0 l2 l3 l4 l5 l6 : Option AV) (s0 : Int32) (w : Option Rf) (h : Hp), run 2 711 15 [l0, some (vo w), l2, l3, l4, l5, l6] [vi s0] h = run 2 711 16 [l0, some (vo w), l2, l3, l4, l5, l6] [vo w, vi s0] h) ∧
  (∀ (l0 l1 l2 l3 l4 l5 l6 : Option AV) (s1 : Int32) (o z : Nat) (h : Hp), run 2 711 16 [l0, l1, l2, l3, l4, l5, l6] [vo (some (o, 5, z)), vi s1] h = run 2 711 19 [l0, l1, l2, l3, l4, l5, l6] [vi (hI h o 2), vi s1] h) ∧
  (∀ (l0 l1 l2 l3 l4 l5 l6 : Option AV) (s0 : Int32) (s1 : Int32) (h : Hp), run 2 711 19 [l0, l1, l2, l3, l4, l5, l6] [vi s0, vi s1] h = if s0 ≤ s1 then run 2 711 83 [l0, l1, l2, l3, l4, l5, l6] [] h else run 2 711 22 [l0, l1, l2, l3, l4, l5, l6] [] h) ∧
  (∀ (l0 l1 l2 l3 l4 l5 l6 : Option AV) (h : Hp), run 2 711 22 [l0, l1, l2, l3, l4, l5, l6] [] h = run 2 711 23 [l0, l1, l2, l3, l4, l5, l6] [vi (0 : Int32)] h) ∧
  (∀ (l0 l1 l2 l4 l5 l6 : Option AV) (s0 : Int32) (h : Hp), run 2 711 23 [l0, l1, l2, none, l4, l5, l6] [vi s0] h = run 2 711 25 [l0, l1, l2, none, some (vi s0), l5, l6] [] h) ∧
  (∀ (l0 l1 l2 l4 l5 l6 : Option AV) (s0 : Int32) (w1 : Int32) (h : Hp), run 2 711 23 [l0, l1, l2, some (vi w1), l4, l5, l6] [vi s0] h = run 2 711 25 [l0, l1, l2, some (vi w1), some (vi s0), l5, l6] [] h) ∧
  (∀ (l0 l1 l2 l4 l5 l6 : Option AV) (s0 : Int32) (w1 : Option Rf) (h : Hp), run 2 711 23 [l0, l1, l2, some (vo w1), l4, l5, l6] [vi s0] h = run 2 711 25 [l0, l1, l2, some (vo w1), some (vi s0), l5, l6] [] h) ∧
  (∀ (l0 l1 l2 l3 l4 l5 l6 : Option AV) (h : Hp), run 2 711 25 [l0, l1, l2, l3, l4, l5, l6] [] h = run 2 711 26 [l0, l1, l2, l3, l4, l5, l6] [vi (0 : Int32)] h) ∧
  (∀ (l0 l1 l2 l3 l5 l6 : Option AV) (s0 : Int32) (h : Hp), run 2 711 26 [l0, l1, l2, l3, none, l5, l6] [vi s0] h = run 2 711 28 [l0, l1, l2, l3, none, some (vi s0), l6] [] h) ∧
  (∀ (l0 l1 l2 l3 l5 l6 : Option AV) (s0 : Int32) (w1 : Int32) (h : Hp), run 2 711 26 [l0, l1, l2, l3, some (vi w1), l5, l6] [vi s0] h = run 2 711 28 [l0, l1, l2, l3, some (vi w1), some (vi s0), l6] [] h) ∧
  (∀ (l0 l1 l2 l3 l5 l6 : Option AV) (s0 : Int32) (w1 : Option Rf) (h : Hp), run 2 711 26 [l0, l1, l2, l3, some (vo w1), l5, l6] [vi s0] h = run 2 711 28 [l0, l1, l2, l3, some (vo w1), some (vi s0), l6] [] h) ∧
  (∀ (l0 l1 l2 l3 l4 l5 l6 : Option AV) (s0 : Int32) (h : Hp), run 2 711 30 [l0, l1, l2, l3, l4, l5, l6] [vi s0] h = run 2 711 31 [l0, l1, l2, l3, l4, l5, l6] [vi (5 : Int32), vi s0] h) ∧
  (∀ (l0 l1 l2 l3 l4 l5 l6 : Option AV) (s0 : Int32) (s1 : Int32) (h : Hp), run 2 711 31 [l0, l1, l2, l3, l4, l5, l6] [vi s0, vi s1] h = if s0 ≤ s1 then run 2 711 72 [l0, l1, l2, l3, l4, l5, l6] [] h else run 2 711 34 [l0, l1, l2, l3, l4, l5, l6] [] h) ∧
  (∀ (l0 l2 l3 l4 l5 l6 : Option AV) (w : Option Rf) (h : Hp), run 2 711 34 [l0, some (vo w), l2, l3, l4, l5, l6] [] h = run 2 711 35 [l0, some (vo w), l2, l3, l4, l5, l6] [vo w] h) ∧
  (∀ (l0 l1 l2 l4 l5 l6 : Option AV) (s0 : Option Rf) (w : Int32) (h : Hp), run 2 711 35 [l0, l1, l2, some (vi w), l4, l5, l6] [vo s0] h = run 2 711 36 [l0, l1, l2, some (vi w), l4, l5, l6] [vi w, vo s0] h) ∧
  (∀ (l0 l1 l2 l3 l4 l6 : Option AV) (s0 : Int32) (s1 : Option Rf) (w : Int32) (h : Hp), run 2 711 36 [l0, l1, l2, l3, l4, some (vi w), l6] [vi s0, vo s1] h = run 2 711 38 [l0, l1, l2, l3, l4, some (vi w), l6] [vi w, vi s0, vo s1] h) ∧
  (∀ (l0 l1 l2 l3 l4 l5 l6 : Option AV) (s0 : Int32) (s1 : Int32) (o z : Nat) (h : Hp), run 2 711 38 [l0, l1, l2, l3, l4, l5, l6] [vi s0, vi s1, vo (some (o, 5, z))] h = (call 506 [vo (some (o, 5, z)), vi s1, vi s0] h).bind (fun z => run 2 711 41 [l0, l1, l2, l3, l4, l5, l6] (z.1.toList ++ []) z.2)) ∧
  (∀ (l0 l1 l2 l3 l4 l6 : Option AV) (s0 : Int32) (h : Hp), run 2 711 41 [l0, l1, l2, l3, l4, none, l6] [vi s0] h = run 2 711 43 [l0, l1, l2, l3, l4, none, some (vi s0)] [] h) ∧
  (∀ (l0 l1 l2 l3 l4 l6 : Option AV) (s0 : Int32) (w1 : Int32) (h : Hp), run 2 711 41 [l0, l1, l2, l3, l4, some (vi w1), l6] [vi s0] h = run 2 711 43 [l0, l1, l2, l3, l4, some (vi w1), some (vi s0)] [] h) ∧
  (∀ (l0 l1 l2 l3 l4 l6 : Option AV) (s0 : Int32) (w1 : Option Rf) (h : Hp), run 2 711 41 [l0, l1, l2, l3, l4, some (vo w1), l6] [vi s0] h = run 2 711 43 [l0, l1, l2, l3, l4, some (vo w1), some (vi s0)] [] h) ∧
  (∀ (l0 l1 l2 l3 l5 l6 : Option AV) (w : Int32) (h : Hp), run 2 711 43 [l0, l1, l2, l3, some (vi w), l5, l6] [] h = run 2 711 45 [l0, l1, l2, l3, some (vi w), l5, l6] [vi w] h) ∧
  (∀ (l0 l1 l2 l3 l4 l5 : Option AV) (s0 : Int32) (w : Int32) (h : Hp), run 2 711 45 [l0, l1, l2, l3, l4, l5, some (vi w)] [vi s0] h = run 2 711 47 [l0, l1, l2, l3, l4, l5, some (vi w)] [vi w, vi s0] h) ∧
  (∀ (l0 l1 l2 l3 l4 l5 l6 : Option AV) (s0 : Int32) (s1 : Int32) (h : Hp), run 2 711 47 [l0, l1, l2, l3, l4, l5, l6] [vi s0, vi s1] h = run 2 711 49 [l0, l1, l2, l3, l4, l5, l6] [vi (-9 : Int32), vi s0, vi s1] h) ∧
  (∀ (l0 l1 l2 l3 l4 l5 l6 : Option AV) (s0 : Int32) (s1 : Int32) (s2 : Int32) (h : Hp), run 2 711 49 [l0, l1, l2, l3, l4, l5, l6] [vi s0, vi s1, vi s2] h = if s1 = s0 then run 2 711 52 [l0, l1, l2, l3, l4, l5, l6] [vi s2] h else run 2 711 56 [l0, l1, l2, l3, l4, l5, l6] [vi s2] h) ∧
  (∀ (l0 l1 l2 l3 l4 l5 l6 : Option AV) (s0 : Int32) (h : Hp), run 2 711 52 [l0, l1, l2, l3, l4, l5, l6] [vi s0] h = run 2 711 53 [l0, l1, l2, l3, l4, l5, l6] [vi (0 : Int32), vi s0] h) ∧
  (∀ (l0 l1 l2 l3 l4 l5 l6 : Option AV) (s0 : Int32) (s1 : Int32) (h : Hp), run 2 711 53 [l0, l1, l2, l3, l4, l5, l6] [vi s0, vi s1] h = run 2 711 63 [l0, l1, l2, l3, l4, l5, l6] [vi s0, vi s1] h) ∧
  (∀ (l1 l2 l3 l4 l5 l6 : Option AV) (s0 : Int32) (w : Option Rf) (h : Hp), run 2 711 56 [some (vo w), l1, l2, l3, l4, l5, l6] [vi s0] h = run 2 711 57 [some (vo w), l1, l2, l3, l4, l5, l6] [vo w, vi s0] h) ∧
  (∀ (l0 l1 l2 l3 l4 l5 l6 : Option AV) (s1 : Int32) (o z : Nat) (h : Hp), run 2 711 57 [l0, l1, l2, l3, l4, l5, l6] [vo (some (o, 7, z)), vi s1] h = run 2 711 60 [l0, l1, l2, l3, l4, l5, l6] [vo (hR h o 5), vi s1] h) ∧
  (∀ (l0 l1 l2 l3 l4 l5 : Option AV) (s0 : Option Rf) (s1 : Int32) (w : Int32) (h : Hp), run 2 711 60 [l0, l1, l2, l3, l4, l5, some (vi w)] [vo s0, vi s1] h = run 2 711 62 [l0, l1, l2, l3, l4, l5, some (vi w)] [vi w, vo s0, vi s1] h) ∧
  (∀ (l0 l1 l2 l3 l4 l5 l6 : Option AV) (s0 : Int32) (s2 : Int32) (o z : Nat) (h : Hp), run 2 711 62 [l0, l1, l2, l3, l4, l5, l6] [vi s0, vo (some (o, 13, z)), vi s2] h = if s0 < 0 ∨ z ≤ s0.toNatClampNeg then none else run 2 711 63 [l0, l1, l2, l3, l4, l5, l6] [vi (hI h o s0.toNatClampNeg), vi s2] h) ∧
  (∀ (l0 l1 l2 l3 l4 l5 l6 : Option AV) (s0 : Int32) (s1 : Int32) (h : Hp), run 2 711 63 [l0, l1, l2, l3, l4, l5, l6] [vi s0, vi s1] h = run 2 711 64 [l0, l1, l2, l3, l4, l5, l6] [vi (s1 + s0)] h) ∧
  (∀ (l0 l1 l2 l4 l5 l6 : Option AV) (s0 : Int32) (h : Hp), run 2 711 64 [l0, l1, l2, none, l4, l5, l6] [vi s0] h = run 2 711 66 [l0, l1, l2, none, some (vi s0), l5, l6] [] h) ∧
  (∀ (l0 l1 l2 l4 l5 l6 : Option AV) (s0 : Int32) (w1 : Int32) (h : Hp), run 2 711 64 [l0, l1, l2, some (vi w1), l4, l5, l6] [vi s0] h = run 2 711 66 [l0, l1, l2, some (vi w1), some (vi s0), l5, l6] [] h) ∧
  (∀ (l0 l1 l2 l4 l5 l6 : Option AV) (s0 : Int32) (w1 : Option Rf) (h : Hp), run 2 711 64 [l0, l1, l2, some (vo w1), l4, l5, l6] [vi s0] h = run 2 711 66 [l0, l1, l2, some (vo w1), some (vi s0), l5, l6] [] h) ∧
  (∀ (l0 l1 l2 l3 l6 : Option AV) (w : Int32) (h : Hp), run 2 711 66 [l0, l1, l2, l3, none, some (vi w), l6] [] h = run 2 711 69 [l0, l1, l2, l3, none, some (vi (w + (1 : Int32))), l6] [] h) ∧
  (∀ (l0 l1 l2 l3 l6 : Option AV) (w1 : Int32) (w : Int32) (h : Hp), run 2 711 66 [l0, l1, l2, l3, some (vi w1), some (vi w), l6] [] h = run 2 711 69 [l0, l1, l2, l3, some (vi w1), some (vi (w + (1 : Int32))), l6] [] h) ∧
  (∀ (l0 l1 l2 l3 l6 : Option AV) (w1 : Option Rf) (w : Int32) (h : Hp), run 2 711 66 [l0, l1, l2, l3, some (vo w1), some (vi w), l6] [] h = run 2 711 69 [l0, l1, l2, l3, some (vo w1), some (vi (w + (1 : Int32))), l6] [] h) ∧
  (∀ (l0 l1 l2 l3 l4 l5 l6 : Option AV) (h : Hp), run 2 711 69 [l0, l1, l2, l3, l4, l5, l6] [] h = run 2 711 28 [l0, l1, l2, l3, l4, l5, l6] [] h) ∧
  (∀ (l0 l1 l3 l4 l5 l6 : Option AV) (w : Option Rf) (h : Hp), run 2 711 72 [l0, l1, some (vo w), l3, l4, l5, l6] [] h = run 2 711 73 [l0, l1, some (vo w), l3, l4, l5, l6] [vo w] h) ∧
  (∀ (l0 l1 l2 l4 l5 l6 : Option AV) (s0 : Option Rf) (w : Int32) (h : Hp), run 2 711 73 [l0, l1, l2, some (vi w), l4, l5, l6] [vo s0] h = run 2 711 74 [l0, l1, l2, some (vi w), l4, l5, l6] [vi w, vo s0] h) ∧
  (∀ (l0 l1 l2 l3 l5 l6 : Option AV) (s0 : Int32) (s1 : Option Rf) (w : Int32) (h : Hp), run 2 711 74 [l0, l1, l2, l3, some (vi w), l5, l6] [vi s0, vo s1] h = run 2 711 76 [l0, l1, l2, l3, some (vi w), l5, l6] [vi w, vi s0, vo s1] h) ∧
  (∀ (l0 l1 l2 l3 l4 l5 l6 : Option AV) (s0 : Int32) (s1 : Int32) (o z : Nat) (h : Hp), run 2 711 76 [l0, l1, l2, l3, l4, l5, l6] [vi s0, vi s1, vo (some (o, 13, z))] h = if s1 < 0 ∨ z ≤ s1.toNatClampNeg then none else run 2 711 77 [l0, l1, l2, l3, l4, l5, l6] [] (hsI h o s1.toNatClampNeg s0)) ∧
  (∀ (l0 l1 l4 l5 l6 : Option AV) (w : Int32) (h : Hp), run 2 711 77 [l0, l1, none, some (vi w), l4, l5, l6] [] h = run 2 711 80 [l0, l1, none, some (vi (w + (1 : Int32))), l4, l5, l6] [] h) ∧
  (∀ (l0 l1 l4 l5 l6 : Option AV) (w1 : Int32) (w : Int32) (h : Hp), run 2 711 77 [l0, l1, some (vi w1), some (vi w), l4, l5, l6] [] h = run 2 711 80 [l0, l1, some (vi w1), some (vi (w + (1 : Int32))), l4, l5, l6] [] h) ∧
  (∀ (l0 l1 l4 l5 l6 : Option AV) (w1 : Option Rf) (w : Int32) (h : Hp), run 2 711 77 [l0, l1, some (vo w1), some (vi w), l4, l5, l6] [] h = run 2 711 80 [l0, l1, some (vo w1), some (vi (w + (1 : Int32))), l4, l5, l6] [] h) ∧
  (∀ (l0 l1 l2 l3 l4 l5 l6 : Option AV) (h : Hp), run 2 711 80 [l0, l1, l2, l3, l4, l5, l6] [] h = run 2 711 14 [l0, l1, l2, l3, l4, l5, l6] [] h) ∧
  (∀ (l0 l1 l2 l3 l4 l5 l6 : Option AV) (h : Hp), run 2 711 83 [l0, l1, l2, l3, l4, l5, l6] [] h = some (none, h)) := ⟨(fun _ _ _ _ _ _ _ _ => run_next rfl rfl),
  (fun _ _ _ _ _ _ _ s0 _ => run_next rfl rfl),
  (fun _ _ _ _ _ _ s0 _ _ _ => run_next rfl rfl),
  (fun _ _ _ _ _ _ _ _ _ _ _ _ => run_next rfl rfl),
  (fun _ _ _ _ _ _ _ s0 _ _ _ => run_next rfl rfl),
  (fun _ _ _ _ _ _ _ s0 _ _ _ _ => run_next rfl rfl),
  (fun _ _ _ _ _ _ _ s0 _ _ _ _ _ _ _ => run_ifc rfl rfl (by simp) (run_fail rfl) (run_next rfl)),
  (fun _ _ _ _ _ _ _ _ => run_next rfl rfl),
  (fun _ _ _ _ _ _ s0 _ => run_next rfl rfl),
  (fun _ _ _ _ _ _ s0 _ _ => run_next rfl rfl),
  (fun _ _ _ _ _ _ s0 _ _ => run_next rfl rfl),
  (fun _ _ _ _ _ _ s0 _ _ => run_next rfl rfl),
  (fun _ _ _ _ _ _ _ _ _ _ _ => run_next rfl rfl),
  (fun _ _ _ _ _ _ _ s0 _ _ => run_if rfl rfl (run_next rfl) (run_next rfl)),
  (fun _ _ _ _ _ _ _ _ => run_next rfl rfl),
  (fun _ _ _ _ _ _ s0 _ => run_next rfl rfl),
  (fun _ _ _ _ _ _ s0 _ _ => run_next rfl rfl),
  (fun _ _ _ _ _ _ s0 _ _ => run_next rfl rfl),
  (fun _ _ _ _ _ _ _ _ => run_next rfl rfl),
  (fun _ _ _ _ _ _ s0 _ => run_next rfl rfl),
  (fun _ _ _ _ _ _ s0 _ _ => run_next rfl rfl),
  (fun _ _ _ _ _ _ s0 _ _ => run_next rfl rfl),
  (fun _ _ _ _ _ _ _ s0 _ => run_next rfl rfl),
  (fun _ _ _ _ _ _ _ s0 _ _ => run_if rfl rfl (run_next rfl) (run_next rfl)),
  (fun _ _ _ _ _ _ _ _ => run_next rfl rfl),
  (fun _ _ _ _ _ _ s0 _ _ => run_next rfl rfl),
  (fun _ _ _ _ _ _ s0 _ _ _ => run_next rfl rfl),
  (fun _ _ _ _ _ _ _ s0 _ _ _ _ => run_calx rfl rfl (Nat.le_of_ble_eq_true rfl) (Nat.le_of_ble_eq_true rfl) rfl),
  (fun _ _ _ _ _ _ s0 _ => run_next rfl rfl),
  (fun _ _ _ _ _ _ s0 _ _ => run_next rfl rfl),
  (fun _ _ _ _ _ _ s0 _ _ => run_next rfl rfl),
  (fun _ _ _ _ _ _ _ _ => run_next rfl rfl),
  (fun _ _ _ _ _ _ s0 _ _ => run_next rfl rfl),
  (fun _ _ _ _ _ _ _ s0 _ _ => run_next rfl rfl),
  (fun _ _ _ _ _ _ _ s0 _ _ _ => run_if rfl rfl (run_next rfl) (run_next rfl)),
  (fun _ _ _ _ _ _ _ s0 _ => run_next rfl rfl),
  (fun _ _ _ _ _ _ _ s0 _ _ => run_next rfl rfl),
  (fun _ _ _ _ _ _ s0 _ _ => run_next rfl rfl),
  (fun _ _ _ _ _ _ _ _ _ _ _ => run_next rfl rfl),
  (fun _ _ _ _ _ _ s0 _ _ _ => run_next rfl rfl),
  (fun _ _ _ _ _ _ _ s0 _ _ _ _ => run_if rfl rfl (run_fail rfl) (run_next rfl)),
  (fun _ _ _ _ _ _ _ s0 _ _ => run_next rfl rfl),
  (fun _ _ _ _ _ _ s0 _ => run_next rfl rfl),
  (fun _ _ _ _ _ _ s0 _ _ => run_next rfl rfl),
  (fun _ _ _ _ _ _ s0 _ _ => run_next rfl rfl),
  (fun _ _ _ _ _ _ _ => run_next rfl rfl),
  (fun _ _ _ _ _ _ _ _ => run_next rfl rfl),
  (fun _ _ _ _ _ _ _ _ => run_next rfl rfl),
  (fun _ _ _ _ _ _ _ _ => run_next rfl rfl),
  (fun _ _ _ _ _ _ _ _ => run_next rfl rfl),
  (fun _ _ _ _ _ _ s0 _ _ => run_next rfl rfl),
  (fun _ _ _ _ _ _ s0 _ _ _ => run_next rfl rfl),
  (fun _ _ _ _ _ _ _ s0 _ _ _ _ => run_if rfl rfl (run_fail rfl) (run_next rfl)),
  (fun _ _ _ _ _ _ _ => run_next rfl rfl),
  (fun _ _ _ _ _ _ _ _ => run_next rfl rfl),
  (fun _ _ _ _ _ _ _ _ => run_next rfl rfl),
  (fun _ _ _ _ _ _ _ _ => run_next rfl rfl),
  (fun _ _ _ _ _ _ _ _ => run_ret rfl rfl)⟩
set_option maxRecDepth 20000 in
theorem x_711_14 : (∀ (l0 l1 l2 l4 l5 l6 : Option AV) (w : Int32) (h : Hp), run 2 711 14 [l0, l1, l2, some (vi w), l4, l5, l6] [] h = run 2 711 15 [l0, l1, l2, some (vi w), l4, l5, l6] [vi w] h) := (fun _ _ _ _ _ _ _ _ => run_next rfl rfl)
set_option maxRecDepth 20000 in
theorem x_711_28 : (∀ (l0 l1 l2 l3 l4 l6 : Option AV) (w : Int32) (h : Hp), run 2 711 28 [l0, l1, l2, l3, l4, some (vi w), l6] [] h = run 2 711 30 [l0, l1, l2, l3, l4, some (vi w), l6] [vi w] h) := (fun _ _ _ _ _ _ _ _ => run_next rfl rfl)
theorem e_711 (v : Option Rf) (a0 : Option Rf) (a1 : Option Rf) (h : Hp) : call 711 [vo v, vo a0, vo a1] h = run 2 711 0 [some (vo v), some (vo a0), some (vo a1), none, none, none, none] [] h := rfl
set_option maxRecDepth 20000 in
theorem x_712 : (∀ (l0 l1 l2 l3 l4 : Option AV) (h : Hp), run 0 712 0 [l0, l1, l2, l3, l4] [] h = run 0 712 1 [l0, l1, l2, l3, l4] [vi (0 : Int32)] h) ∧
  (∀ (l0 l1 l3 l4 : Option AV) (s0 : Int32) (h : Hp), run 0 712 1 [l0, l1, none, l3, l4] [vi s0] h = run 0 712 2 [l0, l1, none, some (vi s0), l4] [] h) ∧
  (∀ (l0 l1 l3 l4 : Option AV) (s0 : Int32) (w1 : Int32) (h : Hp), run 0 712 1 [l0, l1, some (vi w1), l3, l4] [vi s0] h = run 0 712 2 [l0, l1, some (vi w1), some (vi s0), l4] [] h) ∧
  (∀ (l0 l1 l3 l4 : Option AV) (s0 : Int32) (w1 : Option Rf) (h : Hp), run 0 712 1 [l0, l1, some (vo w1), l3, l4] [vi s0] h = run 0 712 2 [l0, l1, some (vo w1), some (vi s0), l4] [] h) ∧
  (∀ (l1 l2 l3 l4 : Option AV) (s0 : Int32) (w : Option Rf) (h : Hp), run 0 712 3 [some (vo w), l1, l2, l3, l4] [vi s0] h = run 0 712 4 [some (vo w), l1, l2, l3, l4] [vo w, vi s0] h) ∧
  (∀ (l0 l1 l2 l3 l4 : Option AV) (s1 : Int32) (o z : Nat) (h : Hp), run 0 712 4 [l0, l1, l2, l3, l4] [vo (some (o, 7, z)), vi s1] h = run 0 712 7 [l0, l1, l2, l3, l4] [vi (hI h o 0), vi s1] h) ∧
  (∀ (l0 l1 l2 l3 l4 : Option AV) (s0 : Int32) (s1 : Int32) (h : Hp), run 0 712 7 [l0, l1, l2, l3, l4] [vi s0, vi s1] h = if s0 ≤ s1 then run 0 712 58 [l0, l1, l2, l3, l4] [] h else run 0 712 10 [l0, l1, l2, l3, l4] [] h) ∧
  (∀ (l0 l1 l2 l3 l4 : Option AV) (h : Hp), run 0 712 10 [l0, l1, l2, l3, l4] [] h = run 0 712 11 [l0, l1, l2, l3, l4] [vi (0 : Int32)] h) ∧
  (∀ (l0 l1 l2 l4 : Option AV) (s0 : Int32) (h : Hp), run 0 712 11 [l0, l1, l2, none, l4] [vi s0] h = run 0 712 13 [l0, l1, l2, none, some (vi s0)] [] h) ∧
  (∀ (l0 l1 l2 l4 : Option AV) (s0 : Int32) (w1 : Int32) (h : Hp), run 0 712 11 [l0, l1, l2, some (vi w1), l4] [vi s0] h = run 0 712 13 [l0, l1, l2, some (vi w1), some (vi s0)] [] h) ∧
  (∀ (l0 l1 l2 l4 : Option AV) (s0 : Int32) (w1 : Option Rf) (h : Hp), run 0 712 11 [l0, l1, l2, some (vo w1), l4] [vi s0] h = run 0 712 13 [l0, l1, l2, some (vo w1), some (vi s0)] [] h) ∧
  (∀ (l0 l1 l2 l3 l4 : Option AV) (s0 : Int32) (h : Hp), run 0 712 15 [l0, l1, l2, l3, l4] [vi s0] h = run 0 712 17 [l0, l1, l2, l3, l4] [vi (30 : Int32), vi s0] h) ∧
  (∀ (l0 l1 l2 l3 l4 : Option AV) (s0 : Int32) (s1 : Int32) (h : Hp), run 0 712 17 [l0, l1, l2, l3, l4] [vi s0, vi s1] h = if s0 ≤ s1 then run 0 712 52 [l0, l1, l2, l3, l4] [] h else run 0 712 20 [l0, l1, l2, l3, l4] [] h) ∧
  (∀ (l1 l2 l3 l4 : Option AV) (w : Option Rf) (h : Hp), run 0 712 20 [some (vo w), l1, l2, l3, l4] [] h = run 0 712 21 [some (vo w), l1, l2, l3, l4] [vo w] h) ∧
  (∀ (l0 l1 l2 l3 l4 : Option AV) (o z : Nat) (h : Hp), run 0 712 21 [l0, l1, l2, l3, l4] [vo (some (o, 7, z))] h = run 0 712 24 [l0, l1, l2, l3, l4] [vo (hR h o 1)] h) ∧
  (∀ (l0 l1 l2 l4 : Option AV) (s0 : Option Rf) (w : Int32) (h : Hp), run 0 712 24 [l0, l1, l2, some (vi w), l4] [vo s0] h = run 0 712 25 [l0, l1, l2, some (vi w), l4] [vi w, vo s0] h) ∧
  (∀ (l0 l1 l2 l3 l4 : Option AV) (s0 : Int32) (o z : Nat) (h : Hp), run 0 712 25 [l0, l1, l2, l3, l4] [vi s0, vo (some (o, 13, z))] h = if s0 < 0 ∨ z ≤ s0.toNatClampNeg then none else run 0 712 26 [l0, l1, l2, l3, l4] [vi (hI h o s0.toNatClampNeg)] h) ∧
  (∀ (l0 l1 l3 l4 : Option AV) (s0 : Int32) (w : Int32) (h : Hp), run 0 712 26 [l0, l1, some (vi w), l3, l4] [vi s0] h = run 0 712 27 [l0, l1, some (vi w), l3, l4] [vi w, vi s0] h) ∧
  (∀ (l0 l1 l2 l3 l4 : Option AV) (s0 : Int32) (s1 : Int32) (h : Hp), run 0 712 27 [l0, l1, l2, l3, l4] [vi s0, vi s1] h = if s1 = s0 then run 0 712 30 [l0, l1, l2, l3, l4] [] h else run 0 712 52 [l0, l1, l2, l3, l4] [] h) ∧
  (∀ (l0 l1 l2 l3 : Option AV) (w : Int32) (h : Hp), run 0 712 30 [l0, l1, l2, l3, some (vi w)] [] h = run 0 712 32 [l0, l1, l2, l3, some (vi w)] [vi w] h) ∧
  (∀ (l1 l2 l3 l4 : Option AV) (s0 : Int32) (w : Option Rf) (h : Hp), run 0 712 32 [some (vo w), l1, l2, l3, l4] [vi s0] h = run 0 712 33 [some (vo w), l1, l2, l3, l4] [vo w, vi s0] h) ∧
  (∀ (l0 l1 l2 l3 l4 : Option AV) (s1 : Int32) (o z : Nat) (h : Hp), run 0 712 33 [l0, l1, l2, l3, l4] [vo (some (o, 7, z)), vi s1] h = run 0 712 36 [l0, l1, l2, l3, l4] [vo (hR h o 2), vi s1] h) ∧
  (∀ (l0 l1 l2 l4 : Option AV) (s0 : Option Rf) (s1 : Int32) (w : Int32) (h : Hp), run 0 712 36 [l0, l1, l2, some (vi w), l4] [vo s0, vi s1] h = run 0 712 37 [l0, l1, l2, some (vi w), l4] [vi w, vo s0, vi s1] h) ∧
  (∀ (l0 l1 l2 l3 l4 : Option AV) (s0 : Int32) (s2 : Int32) (o z : Nat) (h : Hp), run 0 712 37 [l0, l1, l2, l3, l4] [vi s0, vo (some (o, 13, z)), vi s2] h = if s0 < 0 ∨ z ≤ s0.toNatClampNeg then none else run 0 712 38 [l0, l1, l2, l3, l4] [vi (hI h o s0.toNatClampNeg), vi s2] h) ∧
  (∀ (l0 l1 l2 l3 l4 : Option AV) (s0 : Int32) (s1 : Int32) (h : Hp), run 0 712 38 [l0, l1, l2, l3, l4] [vi s0, vi s1] h = if s1 = s0 then run 0 712 46 [l0, l1, l2, l3, l4] [] h else run 0 712 41 [l0, l1, l2, l3, l4] [] h) ∧
  (∀ (l0 l2 l3 l4 : Option AV) (w : Option Rf) (h : Hp), run 0 712 41 [l0, some (vo w), l2, l3, l4] [] h = run 0 712 42 [l0, some (vo w), l2, l3, l4] [vo w] h) ∧
  (∀ (l0 l1 l2 l3 : Option AV) (s0 : Option Rf) (w : Int32) (h : Hp), run 0 712 42 [l0, l1, l2, l3, some (vi w)] [vo s0] h = run 0 712 44 [l0, l1, l2, l3, some (vi w)] [vi w, vo s0] h) ∧
  (∀ (l0 l1 l2 l3 l4 : Option AV) (s0 : Int32) (s1 : Option Rf) (h : Hp), run 0 712 44 [l0, l1, l2, l3, l4] [vi s0, vo s1] h = run 0 712 45 [l0, l1, l2, l3, l4] [vi (0 : Int32), vi s0, vo s1] h) ∧
  (∀ (l0 l1 l2 l3 l4 : Option AV) (s0 : Int32) (s1 : Int32) (o z : Nat) (h : Hp), run 0 712 45 [l0, l1, l2, l3, l4] [vi s0, vi s1, vo (some (o, 13, z))] h = if s1 < 0 ∨ z ≤ s1.toNatClampNeg then none else run 0 712 46 [l0, l1, l2, l3, l4] [] (hsI h o s1.toNatClampNeg s0)) ∧
  (∀ (l0 l1 l2 : Option AV) (w : Int32) (h : Hp), run 0 712 46 [l0, l1, l2, none, some (vi w)] [] h = run 0 712 49 [l0, l1, l2, none, some (vi (w + (1 : Int32)))] [] h) ∧
  (∀ (l0 l1 l2 : Option AV) (w1 : Int32) (w : Int32) (h : Hp), run 0 712 46 [l0, l1, l2, some (vi w1), some (vi w)] [] h = run 0 712 49 [l0, l1, l2, some (vi w1), some (vi (w + (1 : Int32)))] [] h) ∧
  (∀ (l0 l1 l2 : Option AV) (w1 : Option Rf) (w : Int32) (h : Hp), run 0 712 46 [l0, l1, l2, some (vo w1), some (vi w)] [] h = run 0 712 49 [l0, l1, l2, some (vo w1), some (vi (w + (1 : Int32)))] [] h) ∧
  (∀ (l0 l1 l2 l3 l4 : Option AV) (h : Hp), run 0 712 49 [l0, l1, l2, l3, l4] [] h = run 0 712 13 [l0, l1, l2, l3, l4] [] h) ∧
  (∀ (l0 l1 l4 : Option AV) (w : Int32) (h : Hp), run 0 712 52 [l0, l1, none, some (vi w), l4] [] h = run 0 712 55 [l0, l1, none, some (vi (w + (1 : Int32))), l4] [] h) ∧
  (∀ (l0 l1 l4 : Option AV) (w1 : Int32) (w : Int32) (h : Hp), run 0 712 52 [l0, l1, some (vi w1), some (vi w), l4] [] h = run 0 712 55 [l0, l1, some (vi w1), some (vi (w + (1 : Int32))), l4] [] h) ∧
  (∀ (l0 l1 l4 : Option AV) (w1 : Option Rf) (w : Int32) (h : Hp), run 0 712 52 [l0, l1, some (vo w1), some (vi w), l4] [] h = run 0 712 55 [l0, l1, some (vo w1), some (vi (w + (1 : Int32))), l4] [] h) ∧
  (∀ (l0 l1 l2 l3 l4 : Option AV) (h : Hp), run 0 712 55 [l0, l1, l2, l3, l4] [] h = run 0 712 2 [l0, l1, l2, l3, l4] [] h) ∧
  (∀ (l0 l1 l2 l3 l4 : Option AV) (h : Hp), run 0 712 58 [l0, l1, l2, l3, l4] [] h = some (none, h)) := ⟨(fun _ _ _ _ _ _ => run_next rfl rfl),
  (fun _ _ _ _ s0 _ => run_next rfl rfl),
  (fun _ _ _ _ s0 _ _ => run_next rfl rfl),
  (fun _ _ _ _ s0 _ _ => run_next rfl rfl),
  (fun _ _ _ _ s0 _ _ => run_next rfl rfl),
  (fun _ _ _ _ _ _ _ _ _ => run_next rfl rfl),
  (fun _ _ _ _ _ s0 _ _ => run_if rfl rfl (run_next rfl) (run_next rfl)),
  (fun _ _ _ _ _ _ => run_next rfl rfl),
  (fun _ _ _ _ s0 _ => run_next rfl rfl),
  (fun _ _ _ _ s0 _ _ => run_next rfl rfl),
  (fun _ _ _ _ s0 _ _ => run_next rfl rfl),
  (fun _ _ _ _ _ s0 _ => run_next rfl rfl),
  (fun _ _ _ _ _ s0 _ _ => run_if rfl rfl (run_next rfl) (run_next rfl)),
  (fun _ _ _ _ _ _ => run_next rfl rfl),
  (fun _ _ _ _ _ _ _ _ => run_next rfl rfl),
  (fun _ _ _ _ s0 _ _ => run_next rfl rfl),
  (fun _ _ _ _ _ s0 _ _ _ => run_if rfl rfl (run_fail rfl) (run_next rfl)),
  (fun _ _ _ _ s0 _ _ => run_next rfl rfl),
  (fun _ _ _ _ _ s0 _ _ => run_if rfl rfl (run_next rfl) (run_next rfl)),
  (fun _ _ _ _ _ _ => run_next rfl rfl),
  (fun _ _ _ _ s0 _ _ => run_next rfl rfl),
  (fun _ _ _ _ _ _ _ _ _ => run_next rfl rfl),
  (fun _ _ _ _ s0 _ _ _ => run_next rfl rfl),
  (fun _ _ _ _ _ s0 _ _ _ _ => run_if rfl rfl (run_fail rfl) (run_next rfl)),
  (fun _ _ _ _ _ s0 _ _ => run_if rfl rfl (run_next rfl) (run_next rfl)),
  (fun _ _ _ _ _ _ => run_next rfl rfl),
  (fun _ _ _ _ s0 _ _ => run_next rfl rfl),
  (fun _ _ _ _ _ s0 _ _ => run_next rfl rfl),
  (fun _ _ _ _ _ s0 _ _ _ _ => run_if rfl rfl (run_fail rfl) (run_next rfl)),
  (fun _ _ _ _ _ => run_next rfl rfl),
  (fun _ _ _ _ _ _ => run_next rfl rfl),
  (fun _ _ _ _ _ _ => run_next rfl rfl),
  (fun _ _ _ _ _ _ => run_next rfl rfl),
  (fun _ _ _ _ _ => run_next rfl rfl),
  (fun _ _ _ _ _ _ => run_next rfl rfl),
  (fun _ _ _ _ _ _ => run_next rfl rfl),
  (fun _ _ _ _ _ _ => run_next rfl rfl),
  (fun _ _ _ _ _ _ => run_ret rfl rfl)⟩
set_option maxRecDepth 20000 in
theorem x_712_2 : (∀ (l0 l1 l2 l4 : Option AV) (w : Int32) (h : Hp), run 0 712 2 [l0, l1, l2, some (vi w), l4] [] h = run 0 712 3 [l0, l1, l2, some (vi w), l4] [vi w] h) := (fun _ _ _ _ _ _ => run_next rfl rfl)
set_option maxRecDepth 20000 in
theorem x_712_13 : (∀ (l0 l1 l2 l3 : Option AV) (w : Int32) (h : Hp), run 0 712 13 [l0, l1, l2, l3, some (vi w)] [] h = run 0 712 15 [l0, l1, l2, l3, some (vi w)] [vi w] h) := (fun _ _ _ _ _ _ => run_next rfl rfl)
theorem e_712 (v : Option Rf) (a0 : Option Rf) (a1 : Int32) (h : Hp) : call 712 [vo v, vo a0, vi a1] h = run 0 712 0 [some (vo v), some (vo a0), some (vi a1), none, none] [] h := rfl
