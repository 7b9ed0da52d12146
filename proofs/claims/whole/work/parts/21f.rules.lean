set_option maxRecDepth 20000 in
theorem x_1100 : (∀ (l1 : Option AV) (w : Option Rf) (h : Hp), run 3 1100 0 [some (vo w), l1] [] h = run 3 1100 1 [some (vo w), l1] [vo w] h) ∧
  (∀ (l0 l1 : Option AV) (w : Rf) (h : Hp), run 3 1100 1 [l0, l1] [vo (some w)] h = run 3 1100 4 [l0, l1] [] h) ∧
  (∀ (l0 l1 : Option AV) (h : Hp), run 3 1100 4 [l0, l1] [] h = run 3 1100 7 [l0, l1] [vo (some (h.1.1, 5, 0))] (hmk h 9)) ∧
  (∀ (l0 l1 : Option AV) (s0 : Option Rf) (h : Hp), run 3 1100 7 [l0, l1] [vo s0] h = run 3 1100 8 [l0, l1] [vo s0, vo s0] h) ∧
  (∀ (l0 l1 : Option AV) (s0 : Option Rf) (s1 : Option Rf) (h : Hp), run 3 1100 8 [l0, l1] [vo s0, vo s1] h = run 3 1100 9 [l0, l1] [vi (3 : Int32), vo s0, vo s1] h) ∧
  (∀ (l0 l1 : Option AV) (s0 : Int32) (s1 : Option Rf) (s2 : Option Rf) (h : Hp), run 3 1100 9 [l0, l1] [vi s0, vo s1, vo s2] h = run 3 1100 10 [l0, l1] [vi (3 : Int32), vi s0, vo s1, vo s2] h) ∧
  (∀ (l0 l1 : Option AV) (s0 : Int32) (s1 : Int32) (s2 : Option Rf) (s3 : Option Rf) (h : Hp), run 3 1100 10 [l0, l1] [vi s0, vi s1, vo s2, vo s3] h = run 3 1100 11 [l0, l1] [vi (0 : Int32), vi s0, vi s1, vo s2, vo s3] h) ∧
  (∀ (l0 l1 : Option AV) (s0 : Int32) (s1 : Int32) (s2 : Int32) (s4 : Option Rf) (o z : Nat) (h : Hp), run 3 1100 11 [l0, l1] [vi s0, vi s1, vi s2, vo (some (o, 5, z)), vo s4] h = (call 500 [vo (some (o, 5, z)), vi s2, vi s1, vi s0] h).bind (fun z => run 3 1100 14 [l0, l1] (z.1.toList ++ [vo s4]) z.2)) ∧
  (∀ (l1 : Option AV) (s0 : Option Rf) (h : Hp), run 3 1100 14 [none, l1] [vo s0] h = run 3 1100 15 [none, some (vo s0)] [] h) ∧
  (∀ (l1 : Option AV) (s0 : Option Rf) (w1 : Int32) (h : Hp), run 3 1100 14 [some (vi w1), l1] [vo s0] h = run 3 1100 15 [some (vi w1), some (vo s0)] [] h) ∧
  (∀ (l1 : Option AV) (s0 : Option Rf) (w1 : Option Rf) (h : Hp), run 3 1100 14 [some (vo w1), l1] [vo s0] h = run 3 1100 15 [some (vo w1), some (vo s0)] [] h) ∧
  (∀ (l1 : Option AV) (w : Option Rf) (h : Hp), run 3 1100 15 [some (vo w), l1] [] h = run 3 1100 16 [some (vo w), l1] [vo w] h) ∧
  (∀ (l0 l1 : Option AV) (s0 : Option Rf) (h : Hp), run 3 1100 16 [l0, l1] [vo s0] h = run 3 1100 19 [l0, l1] [vo (some (h.1.1, 10, 0)), vo s0] (hmk h 6)) ∧
  (∀ (l0 l1 : Option AV) (s0 : Option Rf) (s1 : Option Rf) (h : Hp), run 3 1100 19 [l0, l1] [vo s0, vo s1] h = run 3 1100 20 [l0, l1] [vo s0, vo s0, vo s1] h) ∧
  (∀ (l0 : Option AV) (s0 : Option Rf) (s1 : Option Rf) (s2 : Option Rf) (w : Option Rf) (h : Hp), run 3 1100 20 [l0, some (vo w)] [vo s0, vo s1, vo s2] h = run 3 1100 21 [l0, some (vo w)] [vo w, vo s0, vo s1, vo s2] h) ∧
  (∀ (l0 l1 : Option AV) (s0 : Option Rf) (s2 : Option Rf) (s3 : Option Rf) (o z : Nat) (h : Hp), run 3 1100 21 [l0, l1] [vo s0, vo (some (o, 10, z)), vo s2, vo s3] h = (call 1000 [vo (some (o, 10, z)), vo s0] h).bind (fun z => run 3 1100 24 [l0, l1] (z.1.toList ++ [vo s2, vo s3]) z.2)) ∧
  (∀ (l0 l1 : Option AV) (s0 : Option Rf) (o z : Nat) (h : Hp), run 3 1100 24 [l0, l1] [vo s0, vo (some (o, 11, z))] h = run 3 1100 27 [l0, l1] [] (hsR h o 0 s0)) ∧
  (∀ (l1 : Option AV) (w : Option Rf) (h : Hp), run 3 1100 27 [some (vo w), l1] [] h = run 3 1100 28 [some (vo w), l1] [vo w] h) ∧
  (∀ (l0 l1 : Option AV) (s0 : Option Rf) (h : Hp), run 3 1100 28 [l0, l1] [vo s0] h = run 3 1100 31 [l0, l1] [vo (some (h.1.1, 10, 0)), vo s0] (hmk h 6)) ∧
  (∀ (l0 l1 : Option AV) (s0 : Option Rf) (s1 : Option Rf) (h : Hp), run 3 1100 31 [l0, l1] [vo s0, vo s1] h = run 3 1100 32 [l0, l1] [vo s0, vo s0, vo s1] h) ∧
  (∀ (l0 : Option AV) (s0 : Option Rf) (s1 : Option Rf) (s2 : Option Rf) (w : Option Rf) (h : Hp), run 3 1100 32 [l0, some (vo w)] [vo s0, vo s1, vo s2] h = run 3 1100 33 [l0, some (vo w)] [vo w, vo s0, vo s1, vo s2] h) ∧
  (∀ (l0 l1 : Option AV) (s0 : Option Rf) (s2 : Option Rf) (s3 : Option Rf) (o z : Nat) (h : Hp), run 3 1100 33 [l0, l1] [vo s0, vo (some (o, 10, z)), vo s2, vo s3] h = (call 1000 [vo (some (o, 10, z)), vo s0] h).bind (fun z => run 3 1100 36 [l0, l1] (z.1.toList ++ [vo s2, vo s3]) z.2)) ∧
  (∀ (l0 l1 : Option AV) (s0 : Option Rf) (o z : Nat) (h : Hp), run 3 1100 36 [l0, l1] [vo s0, vo (some (o, 11, z))] h = run 3 1100 39 [l0, l1] [] (hsR h o 1 s0)) ∧
  (∀ (l1 : Option AV) (w : Option Rf) (h : Hp), run 3 1100 39 [some (vo w), l1] [] h = run 3 1100 40 [some (vo w), l1] [vo w] h) ∧
  (∀ (l0 l1 : Option AV) (s0 : Option Rf) (h : Hp), run 3 1100 40 [l0, l1] [vo s0] h = run 3 1100 43 [l0, l1] [vo (some (h.1.1, 10, 0)), vo s0] (hmk h 6)) ∧
  (∀ (l0 l1 : Option AV) (s0 : Option Rf) (s1 : Option Rf) (h : Hp), run 3 1100 43 [l0, l1] [vo s0, vo s1] h = run 3 1100 44 [l0, l1] [vo s0, vo s0, vo s1] h) ∧
  (∀ (l0 : Option AV) (s0 : Option Rf) (s1 : Option Rf) (s2 : Option Rf) (w : Option Rf) (h : Hp), run 3 1100 44 [l0, some (vo w)] [vo s0, vo s1, vo s2] h = run 3 1100 45 [l0, some (vo w)] [vo w, vo s0, vo s1, vo s2] h) ∧
  (∀ (l0 l1 : Option AV) (s0 : Option Rf) (s2 : Option Rf) (s3 : Option Rf) (o z : Nat) (h : Hp), run 3 1100 45 [l0, l1] [vo s0, vo (some (o, 10, z)), vo s2, vo s3] h = (call 1000 [vo (some (o, 10, z)), vo s0] h).bind (fun z => run 3 1100 48 [l0, l1] (z.1.toList ++ [vo s2, vo s3]) z.2)) ∧
  (∀ (l0 l1 : Option AV) (s0 : Option Rf) (o z : Nat) (h : Hp), run 3 1100 48 [l0, l1] [vo s0, vo (some (o, 11, z))] h = run 3 1100 51 [l0, l1] [] (hsR h o 2 s0)) ∧
  (∀ (l1 : Option AV) (w : Option Rf) (h : Hp), run 3 1100 51 [some (vo w), l1] [] h = run 3 1100 52 [some (vo w), l1] [vo w] h) ∧
  (∀ (l0 l1 : Option AV) (s0 : Option Rf) (h : Hp), run 3 1100 52 [l0, l1] [vo s0] h = run 3 1100 53 [l0, l1] [vi (0 : Int32), vo s0] h) ∧
  (∀ (l0 l1 : Option AV) (s0 : Int32) (o z : Nat) (h : Hp), run 3 1100 53 [l0, l1] [vi s0, vo (some (o, 11, z))] h = if am_isd s0 = true then run 3 1100 56 [l0, l1] [] (hsI h o 3 s0) else none) ∧
  (∀ (l1 : Option AV) (w : Option Rf) (h : Hp), run 3 1100 56 [some (vo w), l1] [] h = run 3 1100 57 [some (vo w), l1] [vo w] h) ∧
  (∀ (l0 l1 : Option AV) (s0 : Option Rf) (h : Hp), run 3 1100 57 [l0, l1] [vo s0] h = run 3 1100 60 [l0, l1] [vo (some (h.1.1, 4, 0)), vo s0] (hmk h 7)) ∧
  (∀ (l0 l1 : Option AV) (s0 : Option Rf) (s1 : Option Rf) (h : Hp), run 3 1100 60 [l0, l1] [vo s0, vo s1] h = run 3 1100 61 [l0, l1] [vo s0, vo s0, vo s1] h) ∧
  (∀ (l0 l1 : Option AV) (s1 : Option Rf) (s2 : Option Rf) (o z : Nat) (h : Hp), run 3 1100 61 [l0, l1] [vo (some (o, 4, z)), vo s1, vo s2] h = (call 400 [vo (some (o, 4, z))] h).bind (fun z => run 3 1100 64 [l0, l1] (z.1.toList ++ [vo s1, vo s2]) z.2)) ∧
  (∀ (l0 l1 : Option AV) (s0 : Option Rf) (o z : Nat) (h : Hp), run 3 1100 64 [l0, l1] [vo s0, vo (some (o, 11, z))] h = run 3 1100 67 [l0, l1] [] (hsR h o 4 s0)) ∧
  (∀ (l1 : Option AV) (w : Option Rf) (h : Hp), run 3 1100 67 [some (vo w), l1] [] h = run 3 1100 68 [some (vo w), l1] [vo w] h) ∧
  (∀ (l0 l1 : Option AV) (s0 : Option Rf) (h : Hp), run 3 1100 68 [l0, l1] [vo s0] h = run 3 1100 71 [l0, l1] [vo (some (h.1.1, 7, 0)), vo s0] (hmk h 6)) ∧
  (∀ (l0 l1 : Option AV) (s0 : Option Rf) (s1 : Option Rf) (h : Hp), run 3 1100 71 [l0, l1] [vo s0, vo s1] h = run 3 1100 72 [l0, l1] [vo s0, vo s0, vo s1] h) ∧
  (∀ (l0 l1 : Option AV) (s1 : Option Rf) (s2 : Option Rf) (o z : Nat) (h : Hp), run 3 1100 72 [l0, l1] [vo (some (o, 7, z)), vo s1, vo s2] h = (call 700 [vo (some (o, 7, z))] h).bind (fun z => run 3 1100 75 [l0, l1] (z.1.toList ++ [vo s1, vo s2]) z.2)) ∧
  (∀ (l0 l1 : Option AV) (s0 : Option Rf) (o z : Nat) (h : Hp), run 3 1100 75 [l0, l1] [vo s0, vo (some (o, 11, z))] h = run 3 1100 78 [l0, l1] [] (hsR h o 5 s0)) ∧
  (∀ (l1 : Option AV) (w : Option Rf) (h : Hp), run 3 1100 78 [some (vo w), l1] [] h = run 3 1100 79 [some (vo w), l1] [vo w] h) ∧
  (∀ (l0 l1 : Option AV) (s0 : Option Rf) (h : Hp), run 3 1100 79 [l0, l1] [vo s0] h = run 3 1100 82 [l0, l1] [vo (some (h.1.1, 0, 0)), vo s0] (hmk h 2)) ∧
  (∀ (l0 l1 : Option AV) (s0 : Option Rf) (s1 : Option Rf) (h : Hp), run 3 1100 82 [l0, l1] [vo s0, vo s1] h = run 3 1100 83 [l0, l1] [vo s0, vo s0, vo s1] h) ∧
  (∀ (l0 l1 : Option AV) (s1 : Option Rf) (s2 : Option Rf) (o z : Nat) (h : Hp), run 3 1100 83 [l0, l1] [vo (some (o, 0, z)), vo s1, vo s2] h = (call 0 [vo (some (o, 0, z))] h).bind (fun z => run 3 1100 86 [l0, l1] (z.1.toList ++ [vo s1, vo s2]) z.2)) ∧
  (∀ (l0 l1 : Option AV) (s0 : Option Rf) (o z : Nat) (h : Hp), run 3 1100 86 [l0, l1] [vo s0, vo (some (o, 11, z))] h = run 3 1100 89 [l0, l1] [] (hsR h o 6 s0)) ∧
  (∀ (l1 : Option AV) (w : Option Rf) (h : Hp), run 3 1100 89 [some (vo w), l1] [] h = run 3 1100 90 [some (vo w), l1] [vo w] h) ∧
  (∀ (l0 l1 : Option AV) (s0 : Option Rf) (h : Hp), run 3 1100 90 [l0, l1] [vo s0] h = run 3 1100 92 [l0, l1] [vi (12 : Int32), vo s0] h) ∧
  (∀ (l0 l1 : Option AV) (s0 : Int32) (s1 : Option Rf) (h : Hp), run 3 1100 92 [l0, l1] [vi s0, vo s1] h = if s0 < 0 ∨ 100000 ≤ s0.toNatClampNeg then none else run 3 1100 94 [l0, l1] [vo (some (h.1.1, 13, s0.toNatClampNeg)), vo s1] (hmk h s0.toNatClampNeg)) ∧
  (∀ (l0 l1 : Option AV) (s0 : Option Rf) (o z : Nat) (h : Hp), run 3 1100 94 [l0, l1] [vo s0, vo (some (o, 11, z))] h = run 3 1100 97 [l0, l1] [] (hsR h o 7 s0)) ∧
  (∀ (l1 : Option AV) (w : Option Rf) (h : Hp), run 3 1100 97 [some (vo w), l1] [] h = run 3 1100 98 [some (vo w), l1] [vo w] h) ∧
  (∀ (l0 l1 : Option AV) (s0 : Option Rf) (h : Hp), run 3 1100 98 [l0, l1] [vo s0] h = run 3 1100 99 [l0, l1] [vi (0 : Int32), vo s0] h) ∧
  (∀ (l0 l1 : Option AV) (s0 : Int32) (o z : Nat) (h : Hp), run 3 1100 99 [l0, l1] [vi s0, vo (some (o, 11, z))] h = run 3 1100 102 [l0, l1] [] (hsI h o 8 s0)) ∧
  (∀ (l1 : Option AV) (w : Option Rf) (h : Hp), run 3 1100 102 [some (vo w), l1] [] h = run 3 1100 103 [some (vo w), l1] [vo w] h) ∧
  (∀ (l0 l1 : Option AV) (s0 : Option Rf) (h : Hp), run 3 1100 103 [l0, l1] [vo s0] h = run 3 1100 105 [l0, l1] [vi (7 : Int32), vo s0] h) ∧
  (∀ (l0 l1 : Option AV) (s0 : Int32) (s1 : Option Rf) (h : Hp), run 3 1100 105 [l0, l1] [vi s0, vo s1] h = if s0 < 0 ∨ 100000 ≤ s0.toNatClampNeg then none else run 3 1100 107 [l0, l1] [vo (some (h.1.1, 13, s0.toNatClampNeg)), vo s1] (hmk h s0.toNatClampNeg)) ∧
  (∀ (l0 l1 : Option AV) (s0 : Option Rf) (o z : Nat) (h : Hp), run 3 1100 107 [l0, l1] [vo s0, vo (some (o, 11, z))] h = run 3 1100 110 [l0, l1] [] (hsR h o 9 s0)) ∧
  (∀ (l0 l1 : Option AV) (h : Hp), run 3 1100 110 [l0, l1] [] h = some (none, h)) := ⟨(fun _ _ _ => run_next rfl rfl),
  (fun _ _ _ _ => run_next rfl rfl),
  (fun _ _ _ => run_next rfl rfl),
  (fun _ _ s0 _ => run_next rfl rfl),
  (fun _ _ s0 _ _ => run_next rfl rfl),
  (fun _ _ s0 _ _ _ => run_next rfl rfl),
  (fun _ _ s0 _ _ _ _ => run_next rfl rfl),
  (fun _ _ s0 _ _ _ _ _ _ => run_calx rfl rfl (Nat.le_of_ble_eq_true rfl) (Nat.le_of_ble_eq_true rfl) rfl),
  (fun _ s0 _ => run_next rfl rfl),
  (fun _ s0 _ _ => run_next rfl rfl),
  (fun _ s0 _ _ => run_next rfl rfl),
  (fun _ _ _ => run_next rfl rfl),
  (fun _ _ s0 _ => run_next rfl rfl),
  (fun _ _ s0 _ _ => run_next rfl rfl),
  (fun _ s0 _ _ _ _ => run_next rfl rfl),
  (fun _ _ s0 _ _ _ _ _ => run_calx rfl rfl (Nat.le_of_ble_eq_true rfl) (Nat.le_of_ble_eq_true rfl) rfl),
  (fun _ _ s0 _ _ _ => run_next rfl rfl),
  (fun _ _ _ => run_next rfl rfl),
  (fun _ _ s0 _ => run_next rfl rfl),
  (fun _ _ s0 _ _ => run_next rfl rfl),
  (fun _ s0 _ _ _ _ => run_next rfl rfl),
  (fun _ _ s0 _ _ _ _ _ => run_calx rfl rfl (Nat.le_of_ble_eq_true rfl) (Nat.le_of_ble_eq_true rfl) rfl),
  (fun _ _ s0 _ _ _ => run_next rfl rfl),
  (fun _ _ _ => run_next rfl rfl),
  (fun _ _ s0 _ => run_next rfl rfl),
  (fun _ _ s0 _ _ => run_next rfl rfl),
  (fun _ s0 _ _ _ _ => run_next rfl rfl),
  (fun _ _ s0 _ _ _ _ _ => run_calx rfl rfl (Nat.le_of_ble_eq_true rfl) (Nat.le_of_ble_eq_true rfl) rfl),
  (fun _ _ s0 _ _ _ => run_next rfl rfl),
  (fun _ _ _ => run_next rfl rfl),
  (fun _ _ s0 _ => run_next rfl rfl),
  (fun _ _ s0 _ _ _ => run_ifz rfl rfl (by simp [am_sub]) (run_next rfl) (run_fail rfl)),
  (fun _ _ _ => run_next rfl rfl),
  (fun _ _ s0 _ => run_next rfl rfl),
  (fun _ _ s0 _ _ => run_next rfl rfl),
  (fun _ _ _ _ _ _ _ => run_calx rfl rfl (Nat.le_of_ble_eq_true rfl) (Nat.le_of_ble_eq_true rfl) rfl),
  (fun _ _ s0 _ _ _ => run_next rfl rfl),
  (fun _ _ _ => run_next rfl rfl),
  (fun _ _ s0 _ => run_next rfl rfl),
  (fun _ _ s0 _ _ => run_next rfl rfl),
  (fun _ _ _ _ _ _ _ => run_calx rfl rfl (Nat.le_of_ble_eq_true rfl) (Nat.le_of_ble_eq_true rfl) rfl),
  (fun _ _ s0 _ _ _ => run_next rfl rfl),
  (fun _ _ _ => run_next rfl rfl),
  (fun _ _ s0 _ => run_next rfl rfl),
  (fun _ _ s0 _ _ => run_next rfl rfl),
  (fun _ _ _ _ _ _ _ => run_calx rfl rfl (Nat.le_of_ble_eq_true rfl) (Nat.le_of_ble_eq_true rfl) rfl),
  (fun _ _ s0 _ _ _ => run_next rfl rfl),
  (fun _ _ _ => run_next rfl rfl),
  (fun _ _ s0 _ => run_next rfl rfl),
  (fun _ _ s0 _ _ => run_if rfl rfl (run_fail rfl) (run_next rfl)),
  (fun _ _ s0 _ _ _ => run_next rfl rfl),
  (fun _ _ _ => run_next rfl rfl),
  (fun _ _ s0 _ => run_next rfl rfl),
  (fun _ _ s0 _ _ _ => run_next rfl rfl),
  (fun _ _ _ => run_next rfl rfl),
  (fun _ _ s0 _ => run_next rfl rfl),
  (fun _ _ s0 _ _ => run_if rfl rfl (run_fail rfl) (run_next rfl)),
  (fun _ _ s0 _ _ _ => run_next rfl rfl),
  (fun _ _ _ => run_ret rfl rfl)⟩
theorem e_1100 (v : Option Rf) (h : Hp) : call 1100 [vo v] h = run 3 1100 0 [some (vo v), none] [] h := rfl
set_option maxRecDepth 20000 in
theorem x_1101 : (∀ (l0 l2 : Option AV) (w : Int32) (h : Hp), run 2 1101 0 [l0, some (vi w), l2] [] h = run 2 1101 1 [l0, some (vi w), l2] [vi w] h) ∧
  (∀ (l0 l1 l2 : Option AV) (s0 : Int32) (h : Hp), run 2 1101 1 [l0, l1, l2] [vi s0] h = run 2 1101 2 [l0, l1, l2] [vi (0 : Int32), vi s0] h) ∧
  (∀ (l0 l1 l2 : Option AV) (s0 : Int32) (s1 : Int32) (h : Hp), run 2 1101 2 [l0, l1, l2] [vi s0, vi s1] h = run 2 1101 5 [l0, l1, l2] [vi (255 : Int32), vi s0, vi s1] h) ∧
  (∀ (l0 l1 l2 : Option AV) (s0 : Int32) (s1 : Int32) (s2 : Int32) (h : Hp), run 2 1101 5 [l0, l1, l2] [vi s0, vi s1, vi s2] h = (call 1129 [vi s2, vi s1, vi s0] h).bind (fun z => run 2 1101 8 [l0, l1, l2] (z.1.toList ++ []) z.2)) ∧
  (∀ (l0 l2 : Option AV) (s0 : Int32) (h : Hp), run 2 1101 8 [l0, none, l2] [vi s0] h = run 2 1101 9 [l0, none, some (vi s0)] [] h) ∧
  (∀ (l0 l2 : Option AV) (s0 : Int32) (w1 : Int32) (h : Hp), run 2 1101 8 [l0, some (vi w1), l2] [vi s0] h = run 2 1101 9 [l0, some (vi w1), some (vi s0)] [] h) ∧
  (∀ (l0 l2 : Option AV) (s0 : Int32) (w1 : Option Rf) (h : Hp), run 2 1101 8 [l0, some (vo w1), l2] [vi s0] h = run 2 1101 9 [l0, some (vo w1), some (vi s0)] [] h) ∧
  (∀ (l0 l1 : Option AV) (w : Int32) (h : Hp), run 2 1101 9 [l0, l1, some (vi w)] [] h = run 2 1101 10 [l0, l1, some (vi w)] [vi w] h) ∧
  (∀ (l0 l1 l2 : Option AV) (s0 : Int32) (h : Hp), run 2 1101 10 [l0, l1, l2] [vi s0] h = if s0 = 0 then run 2 1101 13 [l0, l1, l2] [] h else run 2 1101 26 [l0, l1, l2] [] h) ∧
  (∀ (l1 l2 : Option AV) (w : Option Rf) (h : Hp), run 2 1101 13 [some (vo w), l1, l2] [] h = run 2 1101 14 [some (vo w), l1, l2] [vo w] h) ∧
  (∀ (l0 l1 l2 : Option AV) (o z : Nat) (h : Hp), run 2 1101 14 [l0, l1, l2] [vo (some (o, 11, z))] h = run 2 1101 17 [l0, l1, l2] [vo (hR h o 4)] h) ∧
  (∀ (l0 l1 l2 : Option AV) (o z : Nat) (h : Hp), run 2 1101 17 [l0, l1, l2] [vo (some (o, 4, z))] h = (call 402 [vo (some (o, 4, z))] h).bind (fun z => run 2 1101 20 [l0, l1, l2] (z.1.toList ++ []) z.2)) ∧
  (∀ (l0 l1 l2 : Option AV) (s0 : Int32) (h : Hp), run 2 1101 20 [l0, l1, l2] [vi s0] h = if s0 = 0 then run 2 1101 26 [l0, l1, l2] [] h else run 2 1101 23 [l0, l1, l2] [] h) ∧
  (∀ (l0 l1 l2 : Option AV) (h : Hp), run 2 1101 23 [l0, l1, l2] [] h = run 2 1101 25 [l0, l1, l2] [vi (-6 : Int32)] h) ∧
  (∀ (l0 l2 : Option AV) (s0 : Int32) (h : Hp), run 2 1101 25 [l0, none, l2] [vi s0] h = run 2 1101 26 [l0, none, some (vi s0)] [] h) ∧
  (∀ (l0 l2 : Option AV) (s0 : Int32) (w1 : Int32) (h : Hp), run 2 1101 25 [l0, some (vi w1), l2] [vi s0] h = run 2 1101 26 [l0, some (vi w1), some (vi s0)] [] h) ∧
  (∀ (l0 l2 : Option AV) (s0 : Int32) (w1 : Option Rf) (h : Hp), run 2 1101 25 [l0, some (vo w1), l2] [vi s0] h = run 2 1101 26 [l0, some (vo w1), some (vi s0)] [] h) ∧
  (∀ (l0 l1 : Option AV) (w : Int32) (h : Hp), run 2 1101 26 [l0, l1, some (vi w)] [] h = run 2 1101 27 [l0, l1, some (vi w)] [vi w] h) ∧
  (∀ (l0 l1 l2 : Option AV) (s0 : Int32) (h : Hp), run 2 1101 27 [l0, l1, l2] [vi s0] h = if s0 = 0 then run 2 1101 36 [l0, l1, l2] [] h else run 2 1101 30 [l0, l1, l2] [] h) ∧
  (∀ (l1 l2 : Option AV) (w : Option Rf) (h : Hp), run 2 1101 30 [some (vo w), l1, l2] [] h = run 2 1101 31 [some (vo w), l1, l2] [vo w] h) ∧
  (∀ (l0 l1 : Option AV) (s0 : Option Rf) (w : Int32) (h : Hp), run 2 1101 31 [l0, l1, some (vi w)] [vo s0] h = run 2 1101 32 [l0, l1, some (vi w)] [vi w, vo s0] h) ∧
  (∀ (l0 l1 l2 : Option AV) (s0 : Int32) (o z : Nat) (h : Hp), run 2 1101 32 [l0, l1, l2] [vi s0, vo (some (o, 11, z))] h = (call 1128 [vo (some (o, 11, z)), vi s0] h).bind (fun z => run 2 1101 35 [l0, l1, l2] (z.1.toList ++ []) z.2)) ∧
  (∀ (l0 l1 l2 : Option AV) (s0 : Int32) (h : Hp), run 2 1101 35 [l0, l1, l2] [vi s0] h = some (some (vi s0), h)) ∧
  (∀ (l1 l2 : Option AV) (w : Option Rf) (h : Hp), run 2 1101 36 [some (vo w), l1, l2] [] h = run 2 1101 37 [some (vo w), l1, l2] [vo w] h) ∧
  (∀ (l0 l1 l2 : Option AV) (o z : Nat) (h : Hp), run 2 1101 37 [l0, l1, l2] [vo (some (o, 11, z))] h = run 2 1101 40 [l0, l1, l2] [vo (hR h o 4)] h) ∧
  (∀ (l0 l2 : Option AV) (s0 : Option Rf) (w : Int32) (h : Hp), run 2 1101 40 [l0, some (vi w), l2] [vo s0] h = run 2 1101 41 [l0, some (vi w), l2] [vi w, vo s0] h) ∧
  (∀ (l0 l1 l2 : Option AV) (s0 : Int32) (o z : Nat) (h : Hp), run 2 1101 41 [l0, l1, l2] [vi s0, vo (some (o, 4, z))] h = (call 403 [vo (some (o, 4, z)), vi s0] h).bind (fun z => run 2 1101 44 [l0, l1, l2] (z.1.toList ++ []) z.2)) ∧
  (∀ (l0 l1 l2 : Option AV) (s0 : Int32) (h : Hp), run 2 1101 44 [l0, l1, l2] [vi s0] h = some (some (vi s0), h)) := ⟨(fun _ _ _ _ => run_next rfl rfl),
  (fun _ _ _ s0 _ => run_next rfl rfl),
  (fun _ _ _ s0 _ _ => run_next rfl rfl),
  (fun _ _ _ s0 _ _ _ => run_calx rfl rfl (Nat.le_of_ble_eq_true rfl) (Nat.le_of_ble_eq_true rfl) rfl),
  (fun _ _ s0 _ => run_next rfl rfl),
  (fun _ _ s0 _ _ => run_next rfl rfl),
  (fun _ _ s0 _ _ => run_next rfl rfl),
  (fun _ _ _ _ => run_next rfl rfl),
  (fun _ _ _ s0 _ => run_if rfl rfl (run_next rfl) (run_next rfl)),
  (fun _ _ _ _ => run_next rfl rfl),
  (fun _ _ _ _ _ _ => run_next rfl rfl),
  (fun _ _ _ _ _ _ => run_calx rfl rfl (Nat.le_of_ble_eq_true rfl) (Nat.le_of_ble_eq_true rfl) rfl),
  (fun _ _ _ s0 _ => run_if rfl rfl (run_next rfl) (run_next rfl)),
  (fun _ _ _ _ => run_next rfl rfl),
  (fun _ _ s0 _ => run_next rfl rfl),
  (fun _ _ s0 _ _ => run_next rfl rfl),
  (fun _ _ s0 _ _ => run_next rfl rfl),
  (fun _ _ _ _ => run_next rfl rfl),
  (fun _ _ _ s0 _ => run_if rfl rfl (run_next rfl) (run_next rfl)),
  (fun _ _ _ _ => run_next rfl rfl),
  (fun _ _ s0 _ _ => run_next rfl rfl),
  (fun _ _ _ s0 _ _ _ => run_calx rfl rfl (Nat.le_of_ble_eq_true rfl) (Nat.le_of_ble_eq_true rfl) rfl),
  (fun _ _ _ s0 _ => run_ret rfl rfl),
  (fun _ _ _ _ => run_next rfl rfl),
  (fun _ _ _ _ _ _ => run_next rfl rfl),
  (fun _ _ s0 _ _ => run_next rfl rfl),
  (fun _ _ _ s0 _ _ _ => run_calx rfl rfl (Nat.le_of_ble_eq_true rfl) (Nat.le_of_ble_eq_true rfl) rfl),
  (fun _ _ _ s0 _ => run_ret rfl rfl)⟩
theorem e_1101 (v : Option Rf) (a0 : Int32) (h : Hp) : call 1101 [vo v, vi a0] h = run 2 1101 0 [some (vo v), some (vi a0), none] [] h := rfl
set_option maxRecDepth 20000 in
theorem x_1102 : (∀ (l1 l2 l3 : Option AV) (w : Option Rf) (h : Hp), run 6 1102 0 [some (vo w), l1, l2, l3] [] h = run 6 1102 1 [some (vo w), l1, l2, l3] [vo w] h) ∧
  (∀ (l0 l1 l2 l3 : Option AV) (o z : Nat) (h : Hp), run 6 1102 1 [l0, l1, l2, l3] [vo (some (o, 11, z))] h = run 6 1102 4 [l0, l1, l2, l3] [vo (hR h o 4)] h) ∧
  (∀ (l0 l1 l2 l3 : Option AV) (o z : Nat) (h : Hp), run 6 1102 4 [l0, l1, l2, l3] [vo (some (o, 4, z))] h = (call 404 [vo (some (o, 4, z))] h).bind (fun z => run 6 1102 7 [l0, l1, l2, l3] (z.1.toList ++ []) z.2)) ∧
  (∀ (l0 l2 l3 : Option AV) (s0 : Int32) (h : Hp), run 6 1102 7 [l0, none, l2, l3] [vi s0] h = run 6 1102 8 [l0, none, some (vi s0), l3] [] h) ∧
  (∀ (l0 l2 l3 : Option AV) (s0 : Int32) (w1 : Int32) (h : Hp), run 6 1102 7 [l0, some (vi w1), l2, l3] [vi s0] h = run 6 1102 8 [l0, some (vi w1), some (vi s0), l3] [] h) ∧
  (∀ (l0 l2 l3 : Option AV) (s0 : Int32) (w1 : Option Rf) (h : Hp), run 6 1102 7 [l0, some (vo w1), l2, l3] [vi s0] h = run 6 1102 8 [l0, some (vo w1), some (vi s0), l3] [] h) ∧
  (∀ (l0 l1 l3 : Option AV) (w : Int32) (h : Hp), run 6 1102 8 [l0, l1, some (vi w), l3] [] h = run 6 1102 9 [l0, l1, some (vi w), l3] [vi w] h) ∧
  (∀ (l0 l1 l2 l3 : Option AV) (s0 : Int32) (h : Hp), run 6 1102 9 [l0, l1, l2, l3] [vi s0] h = if s0 < 0 then run 6 1102 21 [l0, l1, l2, l3] [] h else run 6 1102 12 [l0, l1, l2, l3] [] h) ∧
  (∀ (l0 l1 l2 l3 : Option AV) (h : Hp), run 6 1102 12 [l0, l1, l2, l3] [] h = run 6 1102 15 [l0, l1, l2, l3] [vi (-1000 : Int32)] h) ∧
  (∀ (l0 l1 l3 : Option AV) (s0 : Int32) (w : Int32) (h : Hp), run 6 1102 15 [l0, l1, some (vi w), l3] [vi s0] h = run 6 1102 16 [l0, l1, some (vi w), l3] [vi w, vi s0] h) ∧
  (∀ (l0 l1 l2 l3 : Option AV) (s0 : Int32) (s1 : Int32) (h : Hp), run 6 1102 16 [l0, l1, l2, l3] [vi s0, vi s1] h = run 6 1102 17 [l0, l1, l2, l3] [vi (s1 - s0)] h) ∧
  (∀ (l1 l2 l3 : Option AV) (s0 : Int32) (h : Hp), run 6 1102 17 [none, l1, l2, l3] [vi s0] h = run 6 1102 18 [none, some (vi s0), l2, l3] [] h) ∧
  (∀ (l1 l2 l3 : Option AV) (s0 : Int32) (w1 : Int32) (h : Hp), run 6 1102 17 [some (vi w1), l1, l2, l3] [vi s0] h = run 6 1102 18 [some (vi w1), some (vi s0), l2, l3] [] h) ∧
  (∀ (l1 l2 l3 : Option AV) (s0 : Int32) (w1 : Option Rf) (h : Hp), run 6 1102 17 [some (vo w1), l1, l2, l3] [vi s0] h = run 6 1102 18 [some (vo w1), some (vi s0), l2, l3] [] h) ∧
  (∀ (l0 l1 l2 l3 : Option AV) (h : Hp), run 6 1102 18 [l0, l1, l2, l3] [] h = run 6 1102 66 [l0, l1, l2, l3] [] h) ∧
  (∀ (l1 l2 l3 : Option AV) (w : Option Rf) (h : Hp), run 6 1102 21 [some (vo w), l1, l2, l3] [] h = run 6 1102 22 [some (vo w), l1, l2, l3] [vo w] h) ∧
  (∀ (l0 l1 l2 l3 : Option AV) (o z : Nat) (h : Hp), run 6 1102 22 [l0, l1, l2, l3] [vo (some (o, 11, z))] h = run 6 1102 25 [l0, l1, l2, l3] [vo (hR h o 1)] h) ∧
  (∀ (l1 l2 l3 : Option AV) (s0 : Option Rf) (w : Option Rf) (h : Hp), run 6 1102 25 [some (vo w), l1, l2, l3] [vo s0] h = run 6 1102 26 [some (vo w), l1, l2, l3] [vo w, vo s0] h) ∧
  (∀ (l0 l1 l2 l3 : Option AV) (s1 : Option Rf) (o z : Nat) (h : Hp), run 6 1102 26 [l0, l1, l2, l3] [vo (some (o, 11, z)), vo s1] h = run 6 1102 29 [l0, l1, l2, l3] [vo (hR h o 0), vo s1] h) ∧
  (∀ (l0 l1 l2 l3 : Option AV) (s0 : Option Rf) (o z : Nat) (h : Hp), run 6 1102 29 [l0, l1, l2, l3] [vo s0, vo (some (o, 10, z))] h = (call 1001 [vo (some (o, 10, z)), vo s0] h).bind (fun z => run 6 1102 32 [l0, l1, l2, l3] (z.1.toList ++ []) z.2)) ∧
  (∀ (l1 l2 l3 : Option AV) (w : Option Rf) (h : Hp), run 6 1102 32 [some (vo w), l1, l2, l3] [] h = run 6 1102 33 [some (vo w), l1, l2, l3] [vo w] h) ∧
  (∀ (l0 l1 l2 l3 : Option AV) (o z : Nat) (h : Hp), run 6 1102 33 [l0, l1, l2, l3] [vo (some (o, 11, z))] h = run 6 1102 36 [l0, l1, l2, l3] [vo (hR h o 4)] h) ∧
  (∀ (l1 l2 l3 : Option AV) (s0 : Option Rf) (w : Option Rf) (h : Hp), run 6 1102 36 [some (vo w), l1, l2, l3] [vo s0] h = run 6 1102 37 [some (vo w), l1, l2, l3] [vo w, vo s0] h) ∧
  (∀ (l0 l1 l2 l3 : Option AV) (s1 : Option Rf) (o z : Nat) (h : Hp), run 6 1102 37 [l0, l1, l2, l3] [vo (some (o, 11, z)), vo s1] h = run 6 1102 40 [l0, l1, l2, l3] [vo (hR h o 1), vo s1] h) ∧
  (∀ (l0 l1 l2 l3 : Option AV) (s0 : Option Rf) (o z : Nat) (h : Hp), run 6 1102 40 [l0, l1, l2, l3] [vo s0, vo (some (o, 4, z))] h = (call 415 [vo (some (o, 4, z)), vo s0] h).bind (fun z => run 6 1102 43 [l0, l1, l2, l3] (z.1.toList ++ []) z.2)) ∧
  (∀ (l1 l2 l3 : Option AV) (s0 : Int32) (h : Hp), run 6 1102 43 [none, l1, l2, l3] [vi s0] h = run 6 1102 44 [none, some (vi s0), l2, l3] [] h) ∧
  (∀ (l1 l2 l3 : Option AV) (s0 : Int32) (w1 : Int32) (h : Hp), run 6 1102 43 [some (vi w1), l1, l2, l3] [vi s0] h = run 6 1102 44 [some (vi w1), some (vi s0), l2, l3] [] h) ∧
  (∀ (l1 l2 l3 : Option AV) (s0 : Int32) (w1 : Option Rf) (h : Hp), run 6 1102 43 [some (vo w1), l1, l2, l3] [vi s0] h = run 6 1102 44 [some (vo w1), some (vi s0), l2, l3] [] h) ∧
  (∀ (l0 l2 l3 : Option AV) (w : Int32) (h : Hp), run 6 1102 44 [l0, some (vi w), l2, l3] [] h = run 6 1102 45 [l0, some (vi w), l2, l3] [vi w] h) ∧
  (∀ (l0 l1 l2 l3 : Option AV) (s0 : Int32) (h : Hp), run 6 1102 45 [l0, l1, l2, l3] [vi s0] h = if s0 < 0 then run 6 1102 66 [l0, l1, l2, l3] [] h else run 6 1102 48 [l0, l1, l2, l3] [] h) ∧
  (∀ (l1 l2 l3 : Option AV) (w : Option Rf) (h : Hp), run 6 1102 48 [some (vo w), l1, l2, l3] [] h = run 6 1102 49 [some (vo w), l1, l2, l3] [vo w] h) ∧
  (∀ (l0 l1 l2 l3 : Option AV) (o z : Nat) (h : Hp), run 6 1102 49 [l0, l1, l2, l3] [vo (some (o, 11, z))] h = run 6 1102 52 [l0, l1, l2, l3] [vo (hR h o 0)] h) ∧
  (∀ (l0 l1 l3 : Option AV) (s0 : Option Rf) (h : Hp), run 6 1102 52 [l0, l1, none, l3] [vo s0] h = run 6 1102 53 [l0, l1, none, some (vo s0)] [] h) ∧
  (∀ (l0 l1 l3 : Option AV) (s0 : Option Rf) (w1 : Int32) (h : Hp), run 6 1102 52 [l0, l1, some (vi w1), l3] [vo s0] h = run 6 1102 53 [l0, l1, some (vi w1), some (vo s0)] [] h) ∧
  (∀ (l0 l1 l3 : Option AV) (s0 : Option Rf) (w1 : Option Rf) (h : Hp), run 6 1102 52 [l0, l1, some (vo w1), l3] [vo s0] h = run 6 1102 53 [l0, l1, some (vo w1), some (vo s0)] [] h) ∧
  (∀ (l1 l2 l3 : Option AV) (w : Option Rf) (h : Hp), run 6 1102 53 [some (vo w), l1, l2, l3] [] h = run 6 1102 54 [some (vo w), l1, l2, l3] [vo w] h) ∧
  (∀ (l1 l2 l3 : Option AV) (s0 : Option Rf) (w : Option Rf) (h : Hp), run 6 1102 54 [some (vo w), l1, l2, l3] [vo s0] h = run 6 1102 55 [some (vo w), l1, l2, l3] [vo w, vo s0] h) ∧
  (∀ (l0 l1 l2 l3 : Option AV) (s1 : Option Rf) (o z : Nat) (h : Hp), run 6 1102 55 [l0, l1, l2, l3] [vo (some (o, 11, z)), vo s1] h = run 6 1102 58 [l0, l1, l2, l3] [vo (hR h o 1), vo s1] h) ∧
  (∀ (l0 l1 l2 l3 : Option AV) (s0 : Option Rf) (o z : Nat) (h : Hp), run 6 1102 58 [l0, l1, l2, l3] [vo s0, vo (some (o, 11, z))] h = run 6 1102 61 [l0, l1, l2, l3] [] (hsR h o 0 s0)) ∧
  (∀ (l1 l2 l3 : Option AV) (w : Option Rf) (h : Hp), run 6 1102 61 [some (vo w), l1, l2, l3] [] h = run 6 1102 62 [some (vo w), l1, l2, l3] [vo w] h) ∧
  (∀ (l0 l1 l2 : Option AV) (s0 : Option Rf) (w : Option Rf) (h : Hp), run 6 1102 62 [l0, l1, l2, some (vo w)] [vo s0] h = run 6 1102 63 [l0, l1, l2, some (vo w)] [vo w, vo s0] h) ∧
  (∀ (l0 l1 l2 l3 : Option AV) (s0 : Option Rf) (o z : Nat) (h : Hp), run 6 1102 63 [l0, l1, l2, l3] [vo s0, vo (some (o, 11, z))] h = run 6 1102 66 [l0, l1, l2, l3] [] (hsR h o 1 s0)) ∧
  (∀ (l1 l2 l3 : Option AV) (w : Option Rf) (h : Hp), run 6 1102 66 [some (vo w), l1, l2, l3] [] h = run 6 1102 67 [some (vo w), l1, l2, l3] [vo w] h) ∧
  (∀ (l0 l1 l2 l3 : Option AV) (o z : Nat) (h : Hp), run 6 1102 67 [l0, l1, l2, l3] [vo (some (o, 11, z))] h = run 6 1102 70 [l0, l1, l2, l3] [vo (hR h o 4)] h) ∧
  (∀ (l0 l1 l2 l3 : Option AV) (o z : Nat) (h : Hp), run 6 1102 70 [l0, l1, l2, l3] [vo (some (o, 4, z))] h = (call 401 [vo (some (o, 4, z))] h).bind (fun z => run 6 1102 73 [l0, l1, l2, l3] (z.1.toList ++ []) z.2)) ∧
  (∀ (l0 l2 l3 : Option AV) (w : Int32) (h : Hp), run 6 1102 73 [l0, some (vi w), l2, l3] [] h = run 6 1102 74 [l0, some (vi w), l2, l3] [vi w] h) ∧
  (∀ (l0 l1 l2 l3 : Option AV) (s0 : Int32) (h : Hp), run 6 1102 74 [l0, l1, l2, l3] [vi s0] h = some (some (vi s0), h)) := ⟨(fun _ _ _ _ _ => run_next rfl rfl),
  (fun _ _ _ _ _ _ _ => run_next rfl rfl),
  (fun _ _ _ _ _ _ _ => run_calx rfl rfl (Nat.le_of_ble_eq_true rfl) (Nat.le_of_ble_eq_true rfl) rfl),
  (fun _ _ _ s0 _ => run_next rfl rfl),
  (fun _ _ _ s0 _ _ => run_next rfl rfl),
  (fun _ _ _ s0 _ _ => run_next rfl rfl),
  (fun _ _ _ _ _ => run_next rfl rfl),
  (fun _ _ _ _ s0 _ => run_if rfl rfl (run_next rfl) (run_next rfl)),
  (fun _ _ _ _ _ => run_next rfl rfl),
  (fun _ _ _ s0 _ _ => run_next rfl rfl),
  (fun _ _ _ _ s0 _ _ => run_next rfl rfl),
  (fun _ _ _ s0 _ => run_next rfl rfl),
  (fun _ _ _ s0 _ _ => run_next rfl rfl),
  (fun _ _ _ s0 _ _ => run_next rfl rfl),
  (fun _ _ _ _ _ => run_next rfl rfl),
  (fun _ _ _ _ _ => run_next rfl rfl),
  (fun _ _ _ _ _ _ _ => run_next rfl rfl),
  (fun _ _ _ s0 _ _ => run_next rfl rfl),
  (fun _ _ _ _ _ _ _ _ => run_next rfl rfl),
  (fun _ _ _ _ s0 _ _ _ => run_calx rfl rfl (Nat.le_of_ble_eq_true rfl) (Nat.le_of_ble_eq_true rfl) rfl),
  (fun _ _ _ _ _ => run_next rfl rfl),
  (fun _ _ _ _ _ _ _ => run_next rfl rfl),
  (fun _ _ _ s0 _ _ => run_next rfl rfl),
  (fun _ _ _ _ _ _ _ _ => run_next rfl rfl),
  (fun _ _ _ _ s0 _ _ _ => run_calx rfl rfl (Nat.le_of_ble_eq_true rfl) (Nat.le_of_ble_eq_true rfl) rfl),
  (fun _ _ _ s0 _ => run_next rfl rfl),
  (fun _ _ _ s0 _ _ => run_next rfl rfl),
  (fun _ _ _ s0 _ _ => run_next rfl rfl),
  (fun _ _ _ _ _ => run_next rfl rfl),
  (fun _ _ _ _ s0 _ => run_if rfl rfl (run_next rfl) (run_next rfl)),
  (fun _ _ _ _ _ => run_next rfl rfl),
  (fun _ _ _ _ _ _ _ => run_next rfl rfl),
  (fun _ _ _ s0 _ => run_next rfl rfl),
  (fun _ _ _ s0 _ _ => run_next rfl rfl),
  (fun _ _ _ s0 _ _ => run_next rfl rfl),
  (fun _ _ _ _ _ => run_next rfl rfl),
  (fun _ _ _ s0 _ _ => run_next rfl rfl),
  (fun _ _ _ _ _ _ _ _ => run_next rfl rfl),
  (fun _ _ _ _ s0 _ _ _ => run_next rfl rfl),
  (fun _ _ _ _ _ => run_next rfl rfl),
  (fun _ _ _ s0 _ _ => run_next rfl rfl),
  (fun _ _ _ _ s0 _ _ _ => run_next rfl rfl),
  (fun _ _ _ _ _ => run_next rfl rfl),
  (fun _ _ _ _ _ _ _ => run_next rfl rfl),
  (fun _ _ _ _ _ _ _ => run_calx rfl rfl (Nat.le_of_ble_eq_true rfl) (Nat.le_of_ble_eq_true rfl) rfl),
  (fun _ _ _ _ _ => run_next rfl rfl),
  (fun _ _ _ _ s0 _ => run_ret rfl rfl)⟩
theorem e_1102 (v : Option Rf) (h : Hp) : call 1102 [vo v] h = run 6 1102 0 [some (vo v), none, none, none] [] h := rfl
set_option maxRecDepth 20000 in
theorem x_1103 : (∀ (l1 l2 l3 : Option AV) (w : Option Rf) (h : Hp), run 5 1103 0 [some (vo w), l1, l2, l3] [] h = run 5 1103 1 [some (vo w), l1, l2, l3] [vo w] h) ∧
  (∀ (l0 l2 l3 : Option AV) (s0 : Option Rf) (w : Int32) (h : Hp), run 5 1103 1 [l0, some (vi w), l2, l3] [vo s0] h = run 5 1103 2 [l0, some (vi w), l2, l3] [vi w, vo s0] h) ∧
  (∀ (l0 l1 l2 l3 : Option AV) (s0 : Int32) (o z : Nat) (h : Hp), run 5 1103 2 [l0, l1, l2, l3] [vi s0, vo (some (o, 11, z))] h = (call 1131 [vo (some (o, 11, z)), vi s0] h).bind (fun z => run 5 1103 5 [l0, l1, l2, l3] (z.1.toList ++ []) z.2)) ∧
  (∀ (l0 l1 l3 : Option AV) (s0 : Int32) (h : Hp), run 5 1103 5 [l0, l1, none, l3] [vi s0] h = run 5 1103 6 [l0, l1, none, some (vi s0)] [] h) ∧
  (∀ (l0 l1 l3 : Option AV) (s0 : Int32) (w1 : Int32) (h : Hp), run 5 1103 5 [l0, l1, some (vi w1), l3] [vi s0] h = run 5 1103 6 [l0, l1, some (vi w1), some (vi s0)] [] h) ∧
  (∀ (l0 l1 l3 : Option AV) (s0 : Int32) (w1 : Option Rf) (h : Hp), run 5 1103 5 [l0, l1, some (vo w1), l3] [vi s0] h = run 5 1103 6 [l0, l1, some (vo w1), some (vi s0)] [] h) ∧
  (∀ (l0 l1 l2 : Option AV) (w : Int32) (h : Hp), run 5 1103 6 [l0, l1, l2, some (vi w)] [] h = run 5 1103 7 [l0, l1, l2, some (vi w)] [vi w] h) ∧
  (∀ (l0 l1 l2 l3 : Option AV) (s0 : Int32) (h : Hp), run 5 1103 7 [l0, l1, l2, l3] [vi s0] h = if s0 = 0 then run 5 1103 10 [l0, l1, l2, l3] [] h else run 5 1103 16 [l0, l1, l2, l3] [] h) ∧
  (∀ (l0 l1 l3 : Option AV) (w : Int32) (h : Hp), run 5 1103 10 [l0, l1, some (vi w), l3] [] h = run 5 1103 11 [l0, l1, some (vi w), l3] [vi w] h) ∧
  (∀ (l0 l1 l2 l3 : Option AV) (s0 : Int32) (h : Hp), run 5 1103 11 [l0, l1, l2, l3] [vi s0] h = run 5 1103 12 [l0, l1, l2, l3] [vi (4 : Int32), vi s0] h) ∧
  (∀ (l0 l1 l2 l3 : Option AV) (s0 : Int32) (s1 : Int32) (h : Hp), run 5 1103 12 [l0, l1, l2, l3] [vi s0, vi s1] h = (call 1130 [vi s1, vi s0] h).bind (fun z => run 5 1103 15 [l0, l1, l2, l3] (z.1.toList ++ []) z.2)) ∧
  (∀ (l0 l1 l3 : Option AV) (s0 : Int32) (h : Hp), run 5 1103 15 [l0, l1, none, l3] [vi s0] h = run 5 1103 16 [l0, l1, none, some (vi s0)] [] h) ∧
  (∀ (l0 l1 l3 : Option AV) (s0 : Int32) (w1 : Int32) (h : Hp), run 5 1103 15 [l0, l1, some (vi w1), l3] [vi s0] h = run 5 1103 16 [l0, l1, some (vi w1), some (vi s0)] [] h) ∧
  (∀ (l0 l1 l3 : Option AV) (s0 : Int32) (w1 : Option Rf) (h : Hp), run 5 1103 15 [l0, l1, some (vo w1), l3] [vi s0] h = run 5 1103 16 [l0, l1, some (vo w1), some (vi s0)] [] h) ∧
  (∀ (l0 l1 l2 : Option AV) (w : Int32) (h : Hp), run 5 1103 16 [l0, l1, l2, some (vi w)] [] h = run 5 1103 17 [l0, l1, l2, some (vi w)] [vi w] h) ∧
  (∀ (l0 l1 l2 l3 : Option AV) (s0 : Int32) (h : Hp), run 5 1103 17 [l0, l1, l2, l3] [vi s0] h = if s0 = 0 then run 5 1103 26 [l0, l1, l2, l3] [] h else run 5 1103 20 [l0, l1, l2, l3] [] h) ∧
  (∀ (l1 l2 l3 : Option AV) (w : Option Rf) (h : Hp), run 5 1103 20 [some (vo w), l1, l2, l3] [] h = run 5 1103 21 [some (vo w), l1, l2, l3] [vo w] h) ∧
  (∀ (l0 l1 l2 : Option AV) (s0 : Option Rf) (w : Int32) (h : Hp), run 5 1103 21 [l0, l1, l2, some (vi w)] [vo s0] h = run 5 1103 22 [l0, l1, l2, some (vi w)] [vi w, vo s0] h) ∧
  (∀ (l0 l1 l2 l3 : Option AV) (s0 : Int32) (o z : Nat) (h : Hp), run 5 1103 22 [l0, l1, l2, l3] [vi s0, vo (some (o, 11, z))] h = (call 1128 [vo (some (o, 11, z)), vi s0] h).bind (fun z => run 5 1103 25 [l0, l1, l2, l3] (z.1.toList ++ []) z.2)) ∧
  (∀ (l0 l1 l2 l3 : Option AV) (s0 : Int32) (h : Hp), run 5 1103 25 [l0, l1, l2, l3] [vi s0] h = some (some (vi s0), h)) ∧
  (∀ (l1 l2 l3 : Option AV) (w : Option Rf) (h : Hp), run 5 1103 26 [some (vo w), l1, l2, l3] [] h = run 5 1103 27 [some (vo w), l1, l2, l3] [vo w] h) ∧
  (∀ (l0 l1 l2 l3 : Option AV) (o z : Nat) (h : Hp), run 5 1103 27 [l0, l1, l2, l3] [vo (some (o, 11, z))] h = run 5 1103 30 [l0, l1, l2, l3] [vo (hR h o 0)] h) ∧
  (∀ (l0 l2 l3 : Option AV) (s0 : Option Rf) (w : Int32) (h : Hp), run 5 1103 30 [l0, some (vi w), l2, l3] [vo s0] h = run 5 1103 31 [l0, some (vi w), l2, l3] [vi w, vo s0] h) ∧
  (∀ (l0 l1 l3 : Option AV) (s0 : Int32) (s1 : Option Rf) (w : Int32) (h : Hp), run 5 1103 31 [l0, l1, some (vi w), l3] [vi s0, vo s1] h = run 5 1103 32 [l0, l1, some (vi w), l3] [vi w, vi s0, vo s1] h) ∧
  (∀ (l0 l1 l2 l3 : Option AV) (s0 : Int32) (s1 : Int32) (o z : Nat) (h : Hp), run 5 1103 32 [l0, l1, l2, l3] [vi s0, vi s1, vo (some (o, 10, z))] h = (call 1005 [vo (some (o, 10, z)), vi s1, vi s0] h).bind (fun z => run 5 1103 35 [l0, l1, l2, l3] (z.1.toList ++ []) z.2)) ∧
  (∀ (l0 l1 l2 l3 : Option AV) (s0 : Int32) (h : Hp), run 5 1103 35 [l0, l1, l2, l3] [vi s0] h = some (some (vi s0), h)) := ⟨(fun _ _ _ _ _ => run_next rfl rfl),
  (fun _ _ _ s0 _ _ => run_next rfl rfl),
  (fun _ _ _ _ s0 _ _ _ => run_calx rfl rfl (Nat.le_of_ble_eq_true rfl) (Nat.le_of_ble_eq_true rfl) rfl),
  (fun _ _ _ s0 _ => run_next rfl rfl),
  (fun _ _ _ s0 _ _ => run_next rfl rfl),
  (fun _ _ _ s0 _ _ => run_next rfl rfl),
  (fun _ _ _ _ _ => run_next rfl rfl),
  (fun _ _ _ _ s0 _ => run_if rfl rfl (run_next rfl) (run_next rfl)),
  (fun _ _ _ _ _ => run_next rfl rfl),
  (fun _ _ _ _ s0 _ => run_next rfl rfl),
  (fun _ _ _ _ s0 _ _ => run_calx rfl rfl (Nat.le_of_ble_eq_true rfl) (Nat.le_of_ble_eq_true rfl) rfl),
  (fun _ _ _ s0 _ => run_next rfl rfl),
  (fun _ _ _ s0 _ _ => run_next rfl rfl),
  (fun _ _ _ s0 _ _ => run_next rfl rfl),
  (fun _ _ _ _ _ => run_next rfl rfl),
  (fun _ _ _ _ s0 _ => run_if rfl rfl (run_next rfl) (run_next rfl)),
  (fun _ _ _ _ _ => run_next rfl rfl),
  (fun _ _ _ s0 _ _ => run_next rfl rfl),
  (fun _ _ _ _ s0 _ _ _ => run_calx rfl rfl (Nat.le_of_ble_eq_true rfl) (Nat.le_of_ble_eq_true rfl) rfl),
  (fun _ _ _ _ s0 _ => run_ret rfl rfl),
  (fun _ _ _ _ _ => run_next rfl rfl),
  (fun _ _ _ _ _ _ _ => run_next rfl rfl),
  (fun _ _ _ s0 _ _ => run_next rfl rfl),
  (fun _ _ _ s0 _ _ _ => run_next rfl rfl),
  (fun _ _ _ _ s0 _ _ _ _ => run_calx rfl rfl (Nat.le_of_ble_eq_true rfl) (Nat.le_of_ble_eq_true rfl) rfl),
  (fun _ _ _ _ s0 _ => run_ret rfl rfl)⟩
theorem e_1103 (v : Option Rf) (a0 : Int32) (a1 : Int32) (h : Hp) : call 1103 [vo v, vi a0, vi a1] h = run 5 1103 0 [some (vo v), some (vi a0), some (vi a1), none] [] h := rfl
set_option maxRecDepth 20000 in
theorem x_1104 : (∀ (l0 l2 l3 : Option AV) (w : Int32) (h : Hp), run 1 1104 0 [l0, some (vi w), l2, l3] [] h = run 1 1104 1 [l0, some (vi w), l2, l3] [vi w] h) ∧
  (∀ (l0 l1 l2 l3 : Option AV) (s0 : Int32) (h : Hp), run 1 1104 1 [l0, l1, l2, l3] [vi s0] h = run 1 1104 2 [l0, l1, l2, l3] [vi (0 : Int32), vi s0] h) ∧
  (∀ (l0 l1 l2 l3 : Option AV) (s0 : Int32) (s1 : Int32) (h : Hp), run 1 1104 2 [l0, l1, l2, l3] [vi s0, vi s1] h = run 1 1104 3 [l0, l1, l2, l3] [vi (3 : Int32), vi s0, vi s1] h) ∧
  (∀ (l0 l1 l2 l3 : Option AV) (s0 : Int32) (s1 : Int32) (s2 : Int32) (h : Hp), run 1 1104 3 [l0, l1, l2, l3] [vi s0, vi s1, vi s2] h = (call 1129 [vi s2, vi s1, vi s0] h).bind (fun z => run 1 1104 6 [l0, l1, l2, l3] (z.1.toList ++ []) z.2)) ∧
  (∀ (l0 l2 l3 : Option AV) (s0 : Int32) (h : Hp), run 1 1104 6 [l0, none, l2, l3] [vi s0] h = run 1 1104 7 [l0, none, some (vi s0), l3] [] h) ∧
  (∀ (l0 l2 l3 : Option AV) (s0 : Int32) (w1 : Int32) (h : Hp), run 1 1104 6 [l0, some (vi w1), l2, l3] [vi s0] h = run 1 1104 7 [l0, some (vi w1), some (vi s0), l3] [] h) ∧
  (∀ (l0 l2 l3 : Option AV) (s0 : Int32) (w1 : Option Rf) (h : Hp), run 1 1104 6 [l0, some (vo w1), l2, l3] [vi s0] h = run 1 1104 7 [l0, some (vo w1), some (vi s0), l3] [] h) ∧
  (∀ (l0 l1 l3 : Option AV) (w : Int32) (h : Hp), run 1 1104 7 [l0, l1, some (vi w), l3] [] h = run 1 1104 8 [l0, l1, some (vi w), l3] [vi w] h) ∧
  (∀ (l0 l1 l2 l3 : Option AV) (s0 : Int32) (h : Hp), run 1 1104 8 [l0, l1, l2, l3] [vi s0] h = if s0 = 0 then run 1 1104 17 [l0, l1, l2, l3] [] h else run 1 1104 11 [l0, l1, l2, l3] [] h) ∧
  (∀ (l1 l2 l3 : Option AV) (w : Option Rf) (h : Hp), run 1 1104 11 [some (vo w), l1, l2, l3] [] h = run 1 1104 12 [some (vo w), l1, l2, l3] [vo w] h) ∧
  (∀ (l0 l1 l3 : Option AV) (s0 : Option Rf) (w : Int32) (h : Hp), run 1 1104 12 [l0, l1, some (vi w), l3] [vo s0] h = run 1 1104 13 [l0, l1, some (vi w), l3] [vi w, vo s0] h) ∧
  (∀ (l0 l1 l2 l3 : Option AV) (s0 : Int32) (o z : Nat) (h : Hp), run 1 1104 13 [l0, l1, l2, l3] [vi s0, vo (some (o, 11, z))] h = (call 1128 [vo (some (o, 11, z)), vi s0] h).bind (fun z => run 1 1104 16 [l0, l1, l2, l3] (z.1.toList ++ []) z.2)) ∧
  (∀ (l0 l1 l2 l3 : Option AV) (s0 : Int32) (h : Hp), run 1 1104 16 [l0, l1, l2, l3] [vi s0] h = some (some (vi s0), h)) ∧
  (∀ (l1 l2 l3 : Option AV) (w : Option Rf) (h : Hp), run 1 1104 17 [some (vo w), l1, l2, l3] [] h = run 1 1104 18 [some (vo w), l1, l2, l3] [vo w] h) ∧
  (∀ (l0 l1 l2 l3 : Option AV) (o z : Nat) (h : Hp), run 1 1104 18 [l0, l1, l2, l3] [vo (some (o, 11, z))] h = run 1 1104 21 [l0, l1, l2, l3] [vo (hR h o 0)] h) ∧
  (∀ (l0 l1 l2 l3 : Option AV) (o z : Nat) (h : Hp), run 1 1104 21 [l0, l1, l2, l3] [vo (some (o, 10, z))] h = run 1 1104 24 [l0, l1, l2, l3] [vi (hI h o 1)] h) ∧
  (∀ (l0 l1 l3 : Option AV) (s0 : Int32) (h : Hp), run 1 1104 24 [l0, l1, none, l3] [vi s0] h = run 1 1104 25 [l0, l1, none, some (vi s0)] [] h) ∧
  (∀ (l0 l1 l3 : Option AV) (s0 : Int32) (w1 : Int32) (h : Hp), run 1 1104 24 [l0, l1, some (vi w1), l3] [vi s0] h = run 1 1104 25 [l0, l1, some (vi w1), some (vi s0)] [] h) ∧
  (∀ (l0 l1 l3 : Option AV) (s0 : Int32) (w1 : Option Rf) (h : Hp), run 1 1104 24 [l0, l1, some (vo w1), l3] [vi s0] h = run 1 1104 25 [l0, l1, some (vo w1), some (vi s0)] [] h) ∧
  (∀ (l1 l2 l3 : Option AV) (w : Option Rf) (h : Hp), run 1 1104 25 [some (vo w), l1, l2, l3] [] h = run 1 1104 26 [some (vo w), l1, l2, l3] [vo w] h) ∧
  (∀ (l0 l1 l2 l3 : Option AV) (o z : Nat) (h : Hp), run 1 1104 26 [l0, l1, l2, l3] [vo (some (o, 11, z))] h = run 1 1104 29 [l0, l1, l2, l3] [vo (hR h o 0)] h) ∧
  (∀ (l0 l2 l3 : Option AV) (s0 : Option Rf) (w : Int32) (h : Hp), run 1 1104 29 [l0, some (vi w), l2, l3] [vo s0] h = run 1 1104 30 [l0, some (vi w), l2, l3] [vi w, vo s0] h) ∧
  (∀ (l0 l1 l2 l3 : Option AV) (s0 : Int32) (o z : Nat) (h : Hp), run 1 1104 30 [l0, l1, l2, l3] [vi s0, vo (some (o, 10, z))] h = run 1 1104 33 [l0, l1, l2, l3] [] (hsI h o 1 s0)) ∧
  (∀ (l0 l1 l2 : Option AV) (w : Int32) (h : Hp), run 1 1104 33 [l0, l1, l2, some (vi w)] [] h = run 1 1104 34 [l0, l1, l2, some (vi w)] [vi w] h) ∧
  (∀ (l0 l1 l2 l3 : Option AV) (s0 : Int32) (h : Hp), run 1 1104 34 [l0, l1, l2, l3] [vi s0] h = some (some (vi s0), h)) := ⟨(fun _ _ _ _ _ => run_next rfl rfl),
  (fun _ _ _ _ s0 _ => run_next rfl rfl),
  (fun _ _ _ _ s0 _ _ => run_next rfl rfl),
  (fun _ _ _ _ s0 _ _ _ => run_calx rfl rfl (Nat.le_of_ble_eq_true rfl) (Nat.le_of_ble_eq_true rfl) rfl),
  (fun _ _ _ s0 _ => run_next rfl rfl),
  (fun _ _ _ s0 _ _ => run_next rfl rfl),
  (fun _ _ _ s0 _ _ => run_next rfl rfl),
  (fun _ _ _ _ _ => run_next rfl rfl),
  (fun _ _ _ _ s0 _ => run_if rfl rfl (run_next rfl) (run_next rfl)),
  (fun _ _ _ _ _ => run_next rfl rfl),
  (fun _ _ _ s0 _ _ => run_next rfl rfl),
  (fun _ _ _ _ s0 _ _ _ => run_calx rfl rfl (Nat.le_of_ble_eq_true rfl) (Nat.le_of_ble_eq_true rfl) rfl),
  (fun _ _ _ _ s0 _ => run_ret rfl rfl),
  (fun _ _ _ _ _ => run_next rfl rfl),
  (fun _ _ _ _ _ _ _ => run_next rfl rfl),
  (fun _ _ _ _ _ _ _ => run_next rfl rfl),
  (fun _ _ _ s0 _ => run_next rfl rfl),
  (fun _ _ _ s0 _ _ => run_next rfl rfl),
  (fun _ _ _ s0 _ _ => run_next rfl rfl),
  (fun _ _ _ _ _ => run_next rfl rfl),
  (fun _ _ _ _ _ _ _ => run_next rfl rfl),
  (fun _ _ _ s0 _ _ => run_next rfl rfl),
  (fun _ _ _ _ s0 _ _ _ => run_next rfl rfl),
  (fun _ _ _ _ _ => run_next rfl rfl),
  (fun _ _ _ _ s0 _ => run_ret rfl rfl)⟩
theorem e_1104 (v : Option Rf) (a0 : Int32) (h : Hp) : call 1104 [vo v, vi a0] h = run 1 1104 0 [some (vo v), some (vi a0), none, none] [] h := rfl
set_option maxRecDepth 20000 in
theorem x_1105 : (∀  (w : Option Rf) (h : Hp), run 6 1105 0 [some (vo w)] [] h = run 6 1105 1 [some (vo w)] [vo w] h) ∧
  (∀ (l0 : Option AV) (o z : Nat) (h : Hp), run 6 1105 1 [l0] [vo (some (o, 11, z))] h = run 6 1105 4 [l0] [vo (hR h o 0)] h) ∧
  (∀ (l0 : Option AV) (o z : Nat) (h : Hp), run 6 1105 4 [l0] [vo (some (o, 10, z))] h = run 6 1105 7 [l0] [vi (hI h o 2)] h) ∧
  (∀ (l0 : Option AV) (s0 : Int32) (h : Hp), run 6 1105 7 [l0] [vi s0] h = run 6 1105 9 [l0] [vi (60 : Int32), vi s0] h) ∧
  (∀ (l0 : Option AV) (s0 : Int32) (s1 : Int32) (h : Hp), run 6 1105 9 [l0] [vi s0, vi s1] h = if s1 < s0 then run 6 1105 19 [l0] [] h else run 6 1105 12 [l0] [] h) ∧
  (∀  (w : Option Rf) (h : Hp), run 6 1105 12 [some (vo w)] [] h = run 6 1105 13 [some (vo w)] [vo w] h) ∧
  (∀ (l0 : Option AV) (s0 : Option Rf) (h : Hp), run 6 1105 13 [l0] [vo s0] h = run 6 1105 15 [l0] [vi (-6 : Int32), vo s0] h) ∧
  (∀ (l0 : Option AV) (s0 : Int32) (o z : Nat) (h : Hp), run 6 1105 15 [l0] [vi s0, vo (some (o, 11, z))] h = (call 1128 [vo (some (o, 11, z)), vi s0] h).bind (fun z => run 6 1105 18 [l0] (z.1.toList ++ []) z.2)) ∧
  (∀ (l0 : Option AV) (s0 : Int32) (h : Hp), run 6 1105 18 [l0] [vi s0] h = some (some (vi s0), h)) ∧
  (∀  (w : Option Rf) (h : Hp), run 6 1105 19 [some (vo w)] [] h = run 6 1105 20 [some (vo w)] [vo w] h) ∧
  (∀ (l0 : Option AV) (o z : Nat) (h : Hp), run 6 1105 20 [l0] [vo (some (o, 11, z))] h = run 6 1105 23 [l0] [vo (hR h o 0)] h) ∧
  (∀ (l0 : Option AV) (o z : Nat) (h : Hp), run 6 1105 23 [l0] [vo (some (o, 10, z))] h = (call 1009 [vo (some (o, 10, z))] h).bind (fun z => run 6 1105 26 [l0] (z.1.toList ++ []) z.2)) ∧
  (∀ (l0 : Option AV) (s0 : Int32) (h : Hp), run 6 1105 26 [l0] [vi s0] h = some (some (vi s0), h)) := ⟨(fun _ _ => run_next rfl rfl),
  (fun _ _ _ _ => run_next rfl rfl),
  (fun _ _ _ _ => run_next rfl rfl),
  (fun _ s0 _ => run_next rfl rfl),
  (fun _ s0 _ _ => run_if rfl rfl (run_next rfl) (run_next rfl)),
  (fun _ _ => run_next rfl rfl),
  (fun _ s0 _ => run_next rfl rfl),
  (fun _ s0 _ _ _ => run_calx rfl rfl (Nat.le_of_ble_eq_true rfl) (Nat.le_of_ble_eq_true rfl) rfl),
  (fun _ s0 _ => run_ret rfl rfl),
  (fun _ _ => run_next rfl rfl),
  (fun _ _ _ _ => run_next rfl rfl),
  (fun _ _ _ _ => run_calx rfl rfl (Nat.le_of_ble_eq_true rfl) (Nat.le_of_ble_eq_true rfl) rfl),
  (fun _ s0 _ => run_ret rfl rfl)⟩
theorem e_1105 (v : Option Rf) (h : Hp) : call 1105 [vo v] h = run 6 1105 0 [some (vo v)] [] h := rfl
set_option maxRecDepth 20000 in
theorem x_1106 : (∀ (l1 l2 l3 : Option AV) (w : Option Rf) (h : Hp), run 2 1106 0 [some (vo w), l1, l2, l3] [] h = run 2 1106 1 [some (vo w), l1, l2, l3] [vo w] h) ∧
  (∀ (l0 l2 l3 : Option AV) (s0 : Option Rf) (w : Int32) (h : Hp), run 2 1106 1 [l0, some (vi w), l2, l3] [vo s0] h = run 2 1106 2 [l0, some (vi w), l2, l3] [vi w, vo s0] h) ∧
  (∀ (l0 l1 l2 l3 : Option AV) (s0 : Int32) (o z : Nat) (h : Hp), run 2 1106 2 [l0, l1, l2, l3] [vi s0, vo (some (o, 11, z))] h = (call 1131 [vo (some (o, 11, z)), vi s0] h).bind (fun z => run 2 1106 5 [l0, l1, l2, l3] (z.1.toList ++ []) z.2)) ∧
  (∀ (l0 l1 l3 : Option AV) (s0 : Int32) (h : Hp), run 2 1106 5 [l0, l1, none, l3] [vi s0] h = run 2 1106 6 [l0, l1, none, some (vi s0)] [] h) ∧
  (∀ (l0 l1 l3 : Option AV) (s0 : Int32) (w1 : Int32) (h : Hp), run 2 1106 5 [l0, l1, some (vi w1), l3] [vi s0] h = run 2 1106 6 [l0, l1, some (vi w1), some (vi s0)] [] h) ∧
  (∀ (l0 l1 l3 : Option AV) (s0 : Int32) (w1 : Option Rf) (h : Hp), run 2 1106 5 [l0, l1, some (vo w1), l3] [vi s0] h = run 2 1106 6 [l0, l1, some (vo w1), some (vi s0)] [] h) ∧
  (∀ (l0 l1 l2 : Option AV) (w : Int32) (h : Hp), run 2 1106 6 [l0, l1, l2, some (vi w)] [] h = run 2 1106 7 [l0, l1, l2, some (vi w)] [vi w] h) ∧
  (∀ (l0 l1 l2 l3 : Option AV) (s0 : Int32) (h : Hp), run 2 1106 7 [l0, l1, l2, l3] [vi s0] h = if s0 = 0 then run 2 1106 10 [l0, l1, l2, l3] [] h else run 2 1106 23 [l0, l1, l2, l3] [] h) ∧
  (∀ (l0 l1 l3 : Option AV) (w : Int32) (h : Hp), run 2 1106 10 [l0, l1, some (vi w), l3] [] h = run 2 1106 11 [l0, l1, some (vi w), l3] [vi w] h) ∧
  (∀ (l0 l1 l2 l3 : Option AV) (s0 : Int32) (h : Hp), run 2 1106 11 [l0, l1, l2, l3] [vi s0] h = run 2 1106 12 [l0, l1, l2, l3] [vi (0 : Int32), vi s0] h) ∧
  (∀ (l1 l2 l3 : Option AV) (s0 : Int32) (s1 : Int32) (w : Option Rf) (h : Hp), run 2 1106 12 [some (vo w), l1, l2, l3] [vi s0, vi s1] h = run 2 1106 13 [some (vo w), l1, l2, l3] [vo w, vi s0, vi s1] h) ∧
  (∀ (l0 l1 l2 l3 : Option AV) (s1 : Int32) (s2 : Int32) (o z : Nat) (h : Hp), run 2 1106 13 [l0, l1, l2, l3] [vo (some (o, 11, z)), vi s1, vi s2] h = run 2 1106 16 [l0, l1, l2, l3] [vo (hR h o 0), vi s1, vi s2] h) ∧
  (∀ (l0 l1 l2 l3 : Option AV) (s1 : Int32) (s2 : Int32) (o z : Nat) (h : Hp), run 2 1106 16 [l0, l1, l2, l3] [vo (some (o, 10, z)), vi s1, vi s2] h = run 2 1106 19 [l0, l1, l2, l3] [vi (hI h o 2), vi s1, vi s2] h) ∧
  (∀ (l0 l1 l2 l3 : Option AV) (s0 : Int32) (s1 : Int32) (s2 : Int32) (h : Hp), run 2 1106 19 [l0, l1, l2, l3] [vi s0, vi s1, vi s2] h = (call 1129 [vi s2, vi s1, vi s0] h).bind (fun z => run 2 1106 22 [l0, l1, l2, l3] (z.1.toList ++ []) z.2)) ∧
  (∀ (l0 l1 l3 : Option AV) (s0 : Int32) (h : Hp), run 2 1106 22 [l0, l1, none, l3] [vi s0] h = run 2 1106 23 [l0, l1, none, some (vi s0)] [] h) ∧
  (∀ (l0 l1 l3 : Option AV) (s0 : Int32) (w1 : Int32) (h : Hp), run 2 1106 22 [l0, l1, some (vi w1), l3] [vi s0] h = run 2 1106 23 [l0, l1, some (vi w1), some (vi s0)] [] h) ∧
  (∀ (l0 l1 l3 : Option AV) (s0 : Int32) (w1 : Option Rf) (h : Hp), run 2 1106 22 [l0, l1, some (vo w1), l3] [vi s0] h = run 2 1106 23 [l0, l1, some (vo w1), some (vi s0)] [] h) ∧
  (∀ (l0 l1 l2 : Option AV) (w : Int32) (h : Hp), run 2 1106 23 [l0, l1, l2, some (vi w)] [] h = run 2 1106 24 [l0, l1, l2, some (vi w)] [vi w] h) ∧
  (∀ (l0 l1 l2 l3 : Option AV) (s0 : Int32) (h : Hp), run 2 1106 24 [l0, l1, l2, l3] [vi s0] h = if s0 = 0 then run 2 1106 33 [l0, l1, l2, l3] [] h else run 2 1106 27 [l0, l1, l2, l3] [] h) ∧
  (∀ (l1 l2 l3 : Option AV) (w : Option Rf) (h : Hp), run 2 1106 27 [some (vo w), l1, l2, l3] [] h = run 2 1106 28 [some (vo w), l1, l2, l3] [vo w] h) ∧
  (∀ (l0 l1 l2 : Option AV) (s0 : Option Rf) (w : Int32) (h : Hp), run 2 1106 28 [l0, l1, l2, some (vi w)] [vo s0] h = run 2 1106 29 [l0, l1, l2, some (vi w)] [vi w, vo s0] h) ∧
  (∀ (l0 l1 l2 l3 : Option AV) (s0 : Int32) (o z : Nat) (h : Hp), run 2 1106 29 [l0, l1, l2, l3] [vi s0, vo (some (o, 11, z))] h = (call 1128 [vo (some (o, 11, z)), vi s0] h).bind (fun z => run 2 1106 32 [l0, l1, l2, l3] (z.1.toList ++ []) z.2)) ∧
  (∀ (l0 l1 l2 l3 : Option AV) (s0 : Int32) (h : Hp), run 2 1106 32 [l0, l1, l2, l3] [vi s0] h = some (some (vi s0), h)) ∧
  (∀ (l1 l2 l3 : Option AV) (w : Option Rf) (h : Hp), run 2 1106 33 [some (vo w), l1, l2, l3] [] h = run 2 1106 34 [some (vo w), l1, l2, l3] [vo w] h) ∧
  (∀ (l0 l1 l2 l3 : Option AV) (o z : Nat) (h : Hp), run 2 1106 34 [l0, l1, l2, l3] [vo (some (o, 11, z))] h = run 2 1106 37 [l0, l1, l2, l3] [vo (hR h o 0)] h) ∧
  (∀ (l0 l2 l3 : Option AV) (s0 : Option Rf) (w : Int32) (h : Hp), run 2 1106 37 [l0, some (vi w), l2, l3] [vo s0] h = run 2 1106 38 [l0, some (vi w), l2, l3] [vi w, vo s0] h) ∧
  (∀ (l0 l1 l3 : Option AV) (s0 : Int32) (s1 : Option Rf) (w : Int32) (h : Hp), run 2 1106 38 [l0, l1, some (vi w), l3] [vi s0, vo s1] h = run 2 1106 39 [l0, l1, some (vi w), l3] [vi w, vi s0, vo s1] h) ∧
  (∀ (l0 l1 l2 l3 : Option AV) (s0 : Int32) (s1 : Int32) (o z : Nat) (h : Hp), run 2 1106 39 [l0, l1, l2, l3] [vi s0, vi s1, vo (some (o, 10, z))] h = (call 1006 [vo (some (o, 10, z)), vi s1, vi s0] h).bind (fun z => run 2 1106 42 [l0, l1, l2, l3] (z.1.toList ++ []) z.2)) ∧
  (∀ (l0 l1 l2 l3 : Option AV) (s0 : Int32) (h : Hp), run 2 1106 42 [l0, l1, l2, l3] [vi s0] h = some (some (vi s0), h)) := ⟨(fun _ _ _ _ _ => run_next rfl rfl),
  (fun _ _ _ s0 _ _ => run_next rfl rfl),
  (fun _ _ _ _ s0 _ _ _ => run_calx rfl rfl (Nat.le_of_ble_eq_true rfl) (Nat.le_of_ble_eq_true rfl) rfl),
  (fun _ _ _ s0 _ => run_next rfl rfl),
  (fun _ _ _ s0 _ _ => run_next rfl rfl),
  (fun _ _ _ s0 _ _ => run_next rfl rfl),
  (fun _ _ _ _ _ => run_next rfl rfl),
  (fun _ _ _ _ s0 _ => run_if rfl rfl (run_next rfl) (run_next rfl)),
  (fun _ _ _ _ _ => run_next rfl rfl),
  (fun _ _ _ _ s0 _ => run_next rfl rfl),
  (fun _ _ _ s0 _ _ _ => run_next rfl rfl),
  (fun _ _ _ _ _ _ _ _ _ => run_next rfl rfl),
  (fun _ _ _ _ _ _ _ _ _ => run_next rfl rfl),
  (fun _ _ _ _ s0 _ _ _ => run_calx rfl rfl (Nat.le_of_ble_eq_true rfl) (Nat.le_of_ble_eq_true rfl) rfl),
  (fun _ _ _ s0 _ => run_next rfl rfl),
  (fun _ _ _ s0 _ _ => run_next rfl rfl),
  (fun _ _ _ s0 _ _ => run_next rfl rfl),
  (fun _ _ _ _ _ => run_next rfl rfl),
  (fun _ _ _ _ s0 _ => run_if rfl rfl (run_next rfl) (run_next rfl)),
  (fun _ _ _ _ _ => run_next rfl rfl),
  (fun _ _ _ s0 _ _ => run_next rfl rfl),
  (fun _ _ _ _ s0 _ _ _ => run_calx rfl rfl (Nat.le_of_ble_eq_true rfl) (Nat.le_of_ble_eq_true rfl) rfl),
  (fun _ _ _ _ s0 _ => run_ret rfl rfl),
  (fun _ _ _ _ _ => run_next rfl rfl),
  (fun _ _ _ _ _ _ _ => run_next rfl rfl),
  (fun _ _ _ s0 _ _ => run_next rfl rfl),
  (fun _ _ _ s0 _ _ _ => run_next rfl rfl),
  (fun _ _ _ _ s0 _ _ _ _ => run_calx rfl rfl (Nat.le_of_ble_eq_true rfl) (Nat.le_of_ble_eq_true rfl) rfl),
  (fun _ _ _ _ s0 _ => run_ret rfl rfl)⟩
theorem e_1106 (v : Option Rf) (a0 : Int32) (a1 : Int32) (h : Hp) : call 1106 [vo v, vi a0, vi a1] h = run 2 1106 0 [some (vo v), some (vi a0), some (vi a1), none] [] h := rfl
set_option maxRecDepth 20000 in
theorem x_1107 : (∀ (l1 l2 l3 : Option AV) (w : Option Rf) (h : Hp), run 3 1107 0 [some (vo w), l1, l2, l3] [] h = run 3 1107 1 [some (vo w), l1, l2, l3] [vo w] h) ∧
  (∀ (l0 l2 l3 : Option AV) (s0 : Option Rf) (w : Int32) (h : Hp), run 3 1107 1 [l0, some (vi w), l2, l3] [vo s0] h = run 3 1107 2 [l0, some (vi w), l2, l3] [vi w, vo s0] h) ∧
  (∀ (l0 l1 l3 : Option AV) (s0 : Int32) (s1 : Option Rf) (w : Int32) (h : Hp), run 3 1107 2 [l0, l1, some (vi w), l3] [vi s0, vo s1] h = run 3 1107 3 [l0, l1, some (vi w), l3] [vi w, vi s0, vo s1] h) ∧
  (∀ (l0 l1 l2 l3 : Option AV) (s0 : Int32) (s1 : Int32) (o z : Nat) (h : Hp), run 3 1107 3 [l0, l1, l2, l3] [vi s0, vi s1, vo (some (o, 11, z))] h = (call 1132 [vo (some (o, 11, z)), vi s1, vi s0] h).bind (fun z => run 3 1107 6 [l0, l1, l2, l3] (z.1.toList ++ []) z.2)) ∧
  (∀ (l0 l1 l3 : Option AV) (s0 : Int32) (h : Hp), run 3 1107 6 [l0, l1, none, l3] [vi s0] h = run 3 1107 7 [l0, l1, none, some (vi s0)] [] h) ∧
  (∀ (l0 l1 l3 : Option AV) (s0 : Int32) (w1 : Int32) (h : Hp), run 3 1107 6 [l0, l1, some (vi w1), l3] [vi s0] h = run 3 1107 7 [l0, l1, some (vi w1), some (vi s0)] [] h) ∧
  (∀ (l0 l1 l3 : Option AV) (s0 : Int32) (w1 : Option Rf) (h : Hp), run 3 1107 6 [l0, l1, some (vo w1), l3] [vi s0] h = run 3 1107 7 [l0, l1, some (vo w1), some (vi s0)] [] h) ∧
  (∀ (l0 l1 l2 : Option AV) (w : Int32) (h : Hp), run 3 1107 7 [l0, l1, l2, some (vi w)] [] h = run 3 1107 8 [l0, l1, l2, some (vi w)] [vi w] h) ∧
  (∀ (l0 l1 l2 l3 : Option AV) (s0 : Int32) (h : Hp), run 3 1107 8 [l0, l1, l2, l3] [vi s0] h = if s0 = 0 then run 3 1107 17 [l0, l1, l2, l3] [] h else run 3 1107 11 [l0, l1, l2, l3] [] h) ∧
  (∀ (l1 l2 l3 : Option AV) (w : Option Rf) (h : Hp), run 3 1107 11 [some (vo w), l1, l2, l3] [] h = run 3 1107 12 [some (vo w), l1, l2, l3] [vo w] h) ∧
  (∀ (l0 l1 l2 : Option AV) (s0 : Option Rf) (w : Int32) (h : Hp), run 3 1107 12 [l0, l1, l2, some (vi w)] [vo s0] h = run 3 1107 13 [l0, l1, l2, some (vi w)] [vi w, vo s0] h) ∧
  (∀ (l0 l1 l2 l3 : Option AV) (s0 : Int32) (o z : Nat) (h : Hp), run 3 1107 13 [l0, l1, l2, l3] [vi s0, vo (some (o, 11, z))] h = (call 1128 [vo (some (o, 11, z)), vi s0] h).bind (fun z => run 3 1107 16 [l0, l1, l2, l3] (z.1.toList ++ []) z.2)) ∧
  (∀ (l0 l1 l2 l3 : Option AV) (s0 : Int32) (h : Hp), run 3 1107 16 [l0, l1, l2, l3] [vi s0] h = some (some (vi s0), h)) ∧
  (∀ (l1 l2 l3 : Option AV) (w : Option Rf) (h : Hp), run 3 1107 17 [some (vo w), l1, l2, l3] [] h = run 3 1107 18 [some (vo w), l1, l2, l3] [vo w] h) ∧
  (∀ (l0 l1 l2 l3 : Option AV) (o z : Nat) (h : Hp), run 3 1107 18 [l0, l1, l2, l3] [vo (some (o, 11, z))] h = run 3 1107 21 [l0, l1, l2, l3] [vo (hR h o 0)] h) ∧
  (∀ (l0 l1 l3 : Option AV) (s0 : Option Rf) (w : Int32) (h : Hp), run 3 1107 21 [l0, l1, some (vi w), l3] [vo s0] h = run 3 1107 22 [l0, l1, some (vi w), l3] [vi w, vo s0] h) ∧
  (∀ (l1 l2 l3 : Option AV) (s0 : Int32) (s1 : Option Rf) (w : Option Rf) (h : Hp), run 3 1107 22 [some (vo w), l1, l2, l3] [vi s0, vo s1] h = run 3 1107 23 [some (vo w), l1, l2, l3] [vo w, vi s0, vo s1] h) ∧
  (∀ (l0 l1 l2 l3 : Option AV) (s1 : Int32) (s2 : Option Rf) (o z : Nat) (h : Hp), run 3 1107 23 [l0, l1, l2, l3] [vo (some (o, 11, z)), vi s1, vo s2] h = run 3 1107 26 [l0, l1, l2, l3] [vo (hR h o 0), vi s1, vo s2] h) ∧
  (∀ (l0 l1 l2 l3 : Option AV) (s1 : Int32) (s2 : Option Rf) (o z : Nat) (h : Hp), run 3 1107 26 [l0, l1, l2, l3] [vo (some (o, 10, z)), vi s1, vo s2] h = run 3 1107 29 [l0, l1, l2, l3] [vi (hI h o 2), vi s1, vo s2] h) ∧
  (∀ (l0 l1 l2 l3 : Option AV) (s0 : Int32) (s1 : Int32) (o z : Nat) (h : Hp), run 3 1107 29 [l0, l1, l2, l3] [vi s0, vi s1, vo (some (o, 10, z))] h = (call 1007 [vo (some (o, 10, z)), vi s1, vi s0] h).bind (fun z => run 3 1107 32 [l0, l1, l2, l3] (z.1.toList ++ []) z.2)) ∧
  (∀ (l0 l1 l2 l3 : Option AV) (s0 : Int32) (h : Hp), run 3 1107 32 [l0, l1, l2, l3] [vi s0] h = some (some (vi s0), h)) := ⟨(fun _ _ _ _ _ => run_next rfl rfl),
  (fun _ _ _ s0 _ _ => run_next rfl rfl),
  (fun _ _ _ s0 _ _ _ => run_next rfl rfl),
  (fun _ _ _ _ s0 _ _ _ _ => run_calx rfl rfl (Nat.le_of_ble_eq_true rfl) (Nat.le_of_ble_eq_true rfl) rfl),
  (fun _ _ _ s0 _ => run_next rfl rfl),
  (fun _ _ _ s0 _ _ => run_next rfl rfl),
  (fun _ _ _ s0 _ _ => run_next rfl rfl),
  (fun _ _ _ _ _ => run_next rfl rfl),
  (fun _ _ _ _ s0 _ => run_if rfl rfl (run_next rfl) (run_next rfl)),
  (fun _ _ _ _ _ => run_next rfl rfl),
  (fun _ _ _ s0 _ _ => run_next rfl rfl),
  (fun _ _ _ _ s0 _ _ _ => run_calx rfl rfl (Nat.le_of_ble_eq_true rfl) (Nat.le_of_ble_eq_true rfl) rfl),
  (fun _ _ _ _ s0 _ => run_ret rfl rfl),
  (fun _ _ _ _ _ => run_next rfl rfl),
  (fun _ _ _ _ _ _ _ => run_next rfl rfl),
  (fun _ _ _ s0 _ _ => run_next rfl rfl),
  (fun _ _ _ s0 _ _ _ => run_next rfl rfl),
  (fun _ _ _ _ _ _ _ _ _ => run_next rfl rfl),
  (fun _ _ _ _ _ _ _ _ _ => run_next rfl rfl),
  (fun _ _ _ _ s0 _ _ _ _ => run_calx rfl rfl (Nat.le_of_ble_eq_true rfl) (Nat.le_of_ble_eq_true rfl) rfl),
  (fun _ _ _ _ s0 _ => run_ret rfl rfl)⟩
theorem e_1107 (v : Option Rf) (a0 : Int32) (a1 : Int32) (h : Hp) : call 1107 [vo v, vi a0, vi a1] h = run 3 1107 0 [some (vo v), some (vi a0), some (vi a1), none] [] h := rfl
set_option maxRecDepth 20000 in
theorem x_1108 : (∀ (l1 l2 l3 : Option AV) (w : Option Rf) (h : Hp), run 6 1108 0 [some (vo w), l1, l2, l3] [] h = run 6 1108 1 [some (vo w), l1, l2, l3] [vo w] h) ∧
  (∀ (l0 l2 l3 : Option AV) (s0 : Option Rf) (w : Int32) (h : Hp), run 6 1108 1 [l0, some (vi w), l2, l3] [vo s0] h = run 6 1108 2 [l0, some (vi w), l2, l3] [vi w, vo s0] h) ∧
  (∀ (l0 l1 l2 l3 : Option AV) (s0 : Int32) (o z : Nat) (h : Hp), run 6 1108 2 [l0, l1, l2, l3] [vi s0, vo (some (o, 11, z))] h = (call 1131 [vo (some (o, 11, z)), vi s0] h).bind (fun z => run 6 1108 5 [l0, l1, l2, l3] (z.1.toList ++ []) z.2)) ∧
  (∀ (l0 l1 l3 : Option AV) (s0 : Int32) (h : Hp), run 6 1108 5 [l0, l1, none, l3] [vi s0] h = run 6 1108 6 [l0, l1, none, some (vi s0)] [] h) ∧
  (∀ (l0 l1 l3 : Option AV) (s0 : Int32) (w1 : Int32) (h : Hp), run 6 1108 5 [l0, l1, some (vi w1), l3] [vi s0] h = run 6 1108 6 [l0, l1, some (vi w1), some (vi s0)] [] h) ∧
  (∀ (l0 l1 l3 : Option AV) (s0 : Int32) (w1 : Option Rf) (h : Hp), run 6 1108 5 [l0, l1, some (vo w1), l3] [vi s0] h = run 6 1108 6 [l0, l1, some (vo w1), some (vi s0)] [] h) ∧
  (∀ (l0 l1 l2 : Option AV) (w : Int32) (h : Hp), run 6 1108 6 [l0, l1, l2, some (vi w)] [] h = run 6 1108 7 [l0, l1, l2, some (vi w)] [vi w] h) ∧
  (∀ (l0 l1 l2 l3 : Option AV) (s0 : Int32) (h : Hp), run 6 1108 7 [l0, l1, l2, l3] [vi s0] h = if s0 = 0 then run 6 1108 10 [l0, l1, l2, l3] [] h else run 6 1108 18 [l0, l1, l2, l3] [] h) ∧
  (∀ (l0 l1 l3 : Option AV) (w : Int32) (h : Hp), run 6 1108 10 [l0, l1, some (vi w), l3] [] h = run 6 1108 11 [l0, l1, some (vi w), l3] [vi w] h) ∧
  (∀ (l0 l1 l2 l3 : Option AV) (s0 : Int32) (h : Hp), run 6 1108 11 [l0, l1, l2, l3] [vi s0] h = run 6 1108 12 [l0, l1, l2, l3] [vi (0 : Int32), vi s0] h) ∧
  (∀ (l0 l1 l2 l3 : Option AV) (s0 : Int32) (s1 : Int32) (h : Hp), run 6 1108 12 [l0, l1, l2, l3] [vi s0, vi s1] h = run 6 1108 14 [l0, l1, l2, l3] [vi (60 : Int32), vi s0, vi s1] h) ∧
  (∀ (l0 l1 l2 l3 : Option AV) (s0 : Int32) (s1 : Int32) (s2 : Int32) (h : Hp), run 6 1108 14 [l0, l1, l2, l3] [vi s0, vi s1, vi s2] h = (call 1129 [vi s2, vi s1, vi s0] h).bind (fun z => run 6 1108 17 [l0, l1, l2, l3] (z.1.toList ++ []) z.2)) ∧
  (∀ (l0 l1 l3 : Option AV) (s0 : Int32) (h : Hp), run 6 1108 17 [l0, l1, none, l3] [vi s0] h = run 6 1108 18 [l0, l1, none, some (vi s0)] [] h) ∧
  (∀ (l0 l1 l3 : Option AV) (s0 : Int32) (w1 : Int32) (h : Hp), run 6 1108 17 [l0, l1, some (vi w1), l3] [vi s0] h = run 6 1108 18 [l0, l1, some (vi w1), some (vi s0)] [] h) ∧
  (∀ (l0 l1 l3 : Option AV) (s0 : Int32) (w1 : Option Rf) (h : Hp), run 6 1108 17 [l0, l1, some (vo w1), l3] [vi s0] h = run 6 1108 18 [l0, l1, some (vo w1), some (vi s0)] [] h) ∧
  (∀ (l0 l1 l2 : Option AV) (w : Int32) (h : Hp), run 6 1108 18 [l0, l1, l2, some (vi w)] [] h = run 6 1108 19 [l0, l1, l2, some (vi w)] [vi w] h) ∧
  (∀ (l0 l1 l2 l3 : Option AV) (s0 : Int32) (h : Hp), run 6 1108 19 [l0, l1, l2, l3] [vi s0] h = if s0 = 0 then run 6 1108 28 [l0, l1, l2, l3] [] h else run 6 1108 22 [l0, l1, l2, l3] [] h) ∧
  (∀ (l1 l2 l3 : Option AV) (w : Option Rf) (h : Hp), run 6 1108 22 [some (vo w), l1, l2, l3] [] h = run 6 1108 23 [some (vo w), l1, l2, l3] [vo w] h) ∧
  (∀ (l0 l1 l2 : Option AV) (s0 : Option Rf) (w : Int32) (h : Hp), run 6 1108 23 [l0, l1, l2, some (vi w)] [vo s0] h = run 6 1108 24 [l0, l1, l2, some (vi w)] [vi w, vo s0] h) ∧
  (∀ (l0 l1 l2 l3 : Option AV) (s0 : Int32) (o z : Nat) (h : Hp), run 6 1108 24 [l0, l1, l2, l3] [vi s0, vo (some (o, 11, z))] h = (call 1128 [vo (some (o, 11, z)), vi s0] h).bind (fun z => run 6 1108 27 [l0, l1, l2, l3] (z.1.toList ++ []) z.2)) ∧
  (∀ (l0 l1 l2 l3 : Option AV) (s0 : Int32) (h : Hp), run 6 1108 27 [l0, l1, l2, l3] [vi s0] h = some (some (vi s0), h)) ∧
  (∀ (l1 l2 l3 : Option AV) (w : Option Rf) (h : Hp), run 6 1108 28 [some (vo w), l1, l2, l3] [] h = run 6 1108 29 [some (vo w), l1, l2, l3] [vo w] h) ∧
  (∀ (l0 l1 l2 l3 : Option AV) (o z : Nat) (h : Hp), run 6 1108 29 [l0, l1, l2, l3] [vo (some (o, 11, z))] h = run 6 1108 32 [l0, l1, l2, l3] [vo (hR h o 0)] h) ∧
  (∀ (l0 l1 l3 : Option AV) (s0 : Option Rf) (w : Int32) (h : Hp), run 6 1108 32 [l0, l1, some (vi w), l3] [vo s0] h = run 6 1108 33 [l0, l1, some (vi w), l3] [vi w, vo s0] h) ∧
  (∀ (l0 l1 l2 l3 : Option AV) (s0 : Int32) (o z : Nat) (h : Hp), run 6 1108 33 [l0, l1, l2, l3] [vi s0, vo (some (o, 10, z))] h = (call 1010 [vo (some (o, 10, z)), vi s0] h).bind (fun z => run 6 1108 36 [l0, l1, l2, l3] (z.1.toList ++ []) z.2)) ∧
  (∀ (l1 l2 l3 : Option AV) (w : Option Rf) (h : Hp), run 6 1108 36 [some (vo w), l1, l2, l3] [] h = run 6 1108 37 [some (vo w), l1, l2, l3] [vo w] h) ∧
  (∀ (l0 l1 l2 l3 : Option AV) (o z : Nat) (h : Hp), run 6 1108 37 [l0, l1, l2, l3] [vo (some (o, 11, z))] h = run 6 1108 40 [l0, l1, l2, l3] [vo (hR h o 0)] h) ∧
  (∀ (l0 l2 l3 : Option AV) (s0 : Option Rf) (w : Int32) (h : Hp), run 6 1108 40 [l0, some (vi w), l2, l3] [vo s0] h = run 6 1108 41 [l0, some (vi w), l2, l3] [vi w, vo s0] h) ∧
  (∀ (l1 l2 l3 : Option AV) (s0 : Int32) (s1 : Option Rf) (w : Option Rf) (h : Hp), run 6 1108 41 [some (vo w), l1, l2, l3] [vi s0, vo s1] h = run 6 1108 42 [some (vo w), l1, l2, l3] [vo w, vi s0, vo s1] h) ∧
  (∀ (l0 l1 l2 l3 : Option AV) (s1 : Int32) (s2 : Option Rf) (o z : Nat) (h : Hp), run 6 1108 42 [l0, l1, l2, l3] [vo (some (o, 11, z)), vi s1, vo s2] h = run 6 1108 45 [l0, l1, l2, l3] [vo (hR h o 0), vi s1, vo s2] h) ∧
  (∀ (l0 l1 l2 l3 : Option AV) (s1 : Int32) (s2 : Option Rf) (o z : Nat) (h : Hp), run 6 1108 45 [l0, l1, l2, l3] [vo (some (o, 10, z)), vi s1, vo s2] h = run 6 1108 48 [l0, l1, l2, l3] [vi (hI h o 2), vi s1, vo s2] h) ∧
  (∀ (l0 l1 l3 : Option AV) (s0 : Int32) (s1 : Int32) (s2 : Option Rf) (w : Int32) (h : Hp), run 6 1108 48 [l0, l1, some (vi w), l3] [vi s0, vi s1, vo s2] h = run 6 1108 49 [l0, l1, some (vi w), l3] [vi w, vi s0, vi s1, vo s2] h) ∧
  (∀ (l0 l1 l2 l3 : Option AV) (s0 : Int32) (s1 : Int32) (s2 : Int32) (s3 : Option Rf) (h : Hp), run 6 1108 49 [l0, l1, l2, l3] [vi s0, vi s1, vi s2, vo s3] h = run 6 1108 50 [l0, l1, l2, l3] [vi (s1 + s0), vi s2, vo s3] h) ∧
  (∀ (l0 l1 l2 l3 : Option AV) (s0 : Int32) (s1 : Int32) (o z : Nat) (h : Hp), run 6 1108 50 [l0, l1, l2, l3] [vi s0, vi s1, vo (some (o, 10, z))] h = (call 1006 [vo (some (o, 10, z)), vi s1, vi s0] h).bind (fun z => run 6 1108 53 [l0, l1, l2, l3] (z.1.toList ++ []) z.2)) ∧
  (∀ (l0 l1 l2 l3 : Option AV) (s0 : Int32) (h : Hp), run 6 1108 53 [l0, l1, l2, l3] [vi s0] h = some (some (vi s0), h)) := ⟨(fun _ _ _ _ _ => run_next rfl rfl),
  (fun _ _ _ s0 _ _ => run_next rfl rfl),
  (fun _ _ _ _ s0 _ _ _ => run_calx rfl rfl (Nat.le_of_ble_eq_true rfl) (Nat.le_of_ble_eq_true rfl) rfl),
  (fun _ _ _ s0 _ => run_next rfl rfl),
  (fun _ _ _ s0 _ _ => run_next rfl rfl),
  (fun _ _ _ s0 _ _ => run_next rfl rfl),
  (fun _ _ _ _ _ => run_next rfl rfl),
  (fun _ _ _ _ s0 _ => run_if rfl rfl (run_next rfl) (run_next rfl)),
  (fun _ _ _ _ _ => run_next rfl rfl),
  (fun _ _ _ _ s0 _ => run_next rfl rfl),
  (fun _ _ _ _ s0 _ _ => run_next rfl rfl),
  (fun _ _ _ _ s0 _ _ _ => run_calx rfl rfl (Nat.le_of_ble_eq_true rfl) (Nat.le_of_ble_eq_true rfl) rfl),
  (fun _ _ _ s0 _ => run_next rfl rfl),
  (fun _ _ _ s0 _ _ => run_next rfl rfl),
  (fun _ _ _ s0 _ _ => run_next rfl rfl),
  (fun _ _ _ _ _ => run_next rfl rfl),
  (fun _ _ _ _ s0 _ => run_if rfl rfl (run_next rfl) (run_next rfl)),
  (fun _ _ _ _ _ => run_next rfl rfl),
  (fun _ _ _ s0 _ _ => run_next rfl rfl),
  (fun _ _ _ _ s0 _ _ _ => run_calx rfl rfl (Nat.le_of_ble_eq_true rfl) (Nat.le_of_ble_eq_true rfl) rfl),
  (fun _ _ _ _ s0 _ => run_ret rfl rfl),
  (fun _ _ _ _ _ => run_next rfl rfl),
  (fun _ _ _ _ _ _ _ => run_next rfl rfl),
  (fun _ _ _ s0 _ _ => run_next rfl rfl),
  (fun _ _ _ _ s0 _ _ _ => run_calx rfl rfl (Nat.le_of_ble_eq_true rfl) (Nat.le_of_ble_eq_true rfl) rfl),
  (fun _ _ _ _ _ => run_next rfl rfl),
  (fun _ _ _ _ _ _ _ => run_next rfl rfl),
  (fun _ _ _ s0 _ _ => run_next rfl rfl),
  (fun _ _ _ s0 _ _ _ => run_next rfl rfl),
  (fun _ _ _ _ _ _ _ _ _ => run_next rfl rfl),
  (fun _ _ _ _ _ _ _ _ _ => run_next rfl rfl),
  (fun _ _ _ s0 _ _ _ _ => run_next rfl rfl),
  (fun _ _ _ _ s0 _ _ _ _ => run_next rfl rfl),
  (fun _ _ _ _ s0 _ _ _ _ => run_calx rfl rfl (Nat.le_of_ble_eq_true rfl) (Nat.le_of_ble_eq_true rfl) rfl),
  (fun _ _ _ _ s0 _ => run_ret rfl rfl)⟩
theorem e_1108 (v : Option Rf) (a0 : Int32) (a1 : Int32) (h : Hp) : call 1108 [vo v, vi a0, vi a1] h = run 6 1108 0 [some (vo v), some (vi a0), some (vi a1), none] [] h := rfl
set_option maxRecDepth 20000 in
theorem x_1109 : (∀ (l1 l2 l3 l4 : Option AV) (w : Option Rf) (h : Hp), run 6 1109 0 [some (vo w), l1, l2, l3, l4] [] h = run 6 1109 1 [some (vo w), l1, l2, l3, l4] [vo w] h) ∧
  (∀ (l0 l2 l3 l4 : Option AV) (s0 : Option Rf) (w : Int32) (h : Hp), run 6 1109 1 [l0, some (vi w), l2, l3, l4] [vo s0] h = run 6 1109 2 [l0, some (vi w), l2, l3, l4] [vi w, vo s0] h) ∧
  (∀ (l0 l1 l3 l4 : Option AV) (s0 : Int32) (s1 : Option Rf) (w : Int32) (h : Hp), run 6 1109 2 [l0, l1, some (vi w), l3, l4] [vi s0, vo s1] h = run 6 1109 3 [l0, l1, some (vi w), l3, l4] [vi w, vi s0, vo s1] h) ∧
  (∀ (l0 l1 l2 l3 l4 : Option AV) (s0 : Int32) (s1 : Int32) (o z : Nat) (h : Hp), run 6 1109 3 [l0, l1, l2, l3, l4] [vi s0, vi s1, vo (some (o, 11, z))] h = (call 1132 [vo (some (o, 11, z)), vi s1, vi s0] h).bind (fun z => run 6 1109 6 [l0, l1, l2, l3, l4] (z.1.toList ++ []) z.2)) ∧
  (∀ (l0 l1 l2 l4 : Option AV) (s0 : Int32) (h : Hp), run 6 1109 6 [l0, l1, l2, none, l4] [vi s0] h = run 6 1109 8 [l0, l1, l2, none, some (vi s0)] [] h) ∧
  (∀ (l0 l1 l2 l4 : Option AV) (s0 : Int32) (w1 : Int32) (h : Hp), run 6 1109 6 [l0, l1, l2, some (vi w1), l4] [vi s0] h = run 6 1109 8 [l0, l1, l2, some (vi w1), some (vi s0)] [] h) ∧
  (∀ (l0 l1 l2 l4 : Option AV) (s0 : Int32) (w1 : Option Rf) (h : Hp), run 6 1109 6 [l0, l1, l2, some (vo w1), l4] [vi s0] h = run 6 1109 8 [l0, l1, l2, some (vo w1), some (vi s0)] [] h) ∧
  (∀ (l0 l1 l2 l3 : Option AV) (w : Int32) (h : Hp), run 6 1109 8 [l0, l1, l2, l3, some (vi w)] [] h = run 6 1109 10 [l0, l1, l2, l3, some (vi w)] [vi w] h) ∧
  (∀ (l0 l1 l2 l3 l4 : Option AV) (s0 : Int32) (h : Hp), run 6 1109 10 [l0, l1, l2, l3, l4] [vi s0] h = if s0 = 0 then run 6 1109 13 [l0, l1, l2, l3, l4] [] h else run 6 1109 20 [l0, l1, l2, l3, l4] [] h) ∧
  (∀ (l0 l1 l2 l4 : Option AV) (w : Int32) (h : Hp), run 6 1109 13 [l0, l1, l2, some (vi w), l4] [] h = run 6 1109 14 [l0, l1, l2, some (vi w), l4] [vi w] h) ∧
  (∀ (l0 l1 l2 l3 l4 : Option AV) (s0 : Int32) (h : Hp), run 6 1109 14 [l0, l1, l2, l3, l4] [vi s0] h = run 6 1109 15 [l0, l1, l2, l3, l4] [vi (1 : Int32), vi s0] h) ∧
  (∀ (l0 l1 l2 l3 l4 : Option AV) (s0 : Int32) (s1 : Int32) (h : Hp), run 6 1109 15 [l0, l1, l2, l3, l4] [vi s0, vi s1] h = (call 1130 [vi s1, vi s0] h).bind (fun z => run 6 1109 18 [l0, l1, l2, l3, l4] (z.1.toList ++ []) z.2)) ∧
  (∀ (l0 l1 l2 l4 : Option AV) (s0 : Int32) (h : Hp), run 6 1109 18 [l0, l1, l2, none, l4] [vi s0] h = run 6 1109 20 [l0, l1, l2, none, some (vi s0)] [] h) ∧
  (∀ (l0 l1 l2 l4 : Option AV) (s0 : Int32) (w1 : Int32) (h : Hp), run 6 1109 18 [l0, l1, l2, some (vi w1), l4] [vi s0] h = run 6 1109 20 [l0, l1, l2, some (vi w1), some (vi s0)] [] h) ∧
  (∀ (l0 l1 l2 l4 : Option AV) (s0 : Int32) (w1 : Option Rf) (h : Hp), run 6 1109 18 [l0, l1, l2, some (vo w1), l4] [vi s0] h = run 6 1109 20 [l0, l1, l2, some (vo w1), some (vi s0)] [] h) ∧
  (∀ (l0 l1 l2 l3 : Option AV) (w : Int32) (h : Hp), run 6 1109 20 [l0, l1, l2, l3, some (vi w)] [] h = run 6 1109 22 [l0, l1, l2, l3, some (vi w)] [vi w] h) ∧
  (∀ (l0 l1 l2 l3 l4 : Option AV) (s0 : Int32) (h : Hp), run 6 1109 22 [l0, l1, l2, l3, l4] [vi s0] h = if s0 = 0 then run 6 1109 32 [l0, l1, l2, l3, l4] [] h else run 6 1109 25 [l0, l1, l2, l3, l4] [] h) ∧
  (∀ (l1 l2 l3 l4 : Option AV) (w : Option Rf) (h : Hp), run 6 1109 25 [some (vo w), l1, l2, l3, l4] [] h = run 6 1109 26 [some (vo w), l1, l2, l3, l4] [vo w] h) ∧
  (∀ (l0 l1 l2 l3 : Option AV) (s0 : Option Rf) (w : Int32) (h : Hp), run 6 1109 26 [l0, l1, l2, l3, some (vi w)] [vo s0] h = run 6 1109 28 [l0, l1, l2, l3, some (vi w)] [vi w, vo s0] h) ∧
  (∀ (l0 l1 l2 l3 l4 : Option AV) (s0 : Int32) (o z : Nat) (h : Hp), run 6 1109 28 [l0, l1, l2, l3, l4] [vi s0, vo (some (o, 11, z))] h = (call 1128 [vo (some (o, 11, z)), vi s0] h).bind (fun z => run 6 1109 31 [l0, l1, l2, l3, l4] (z.1.toList ++ []) z.2)) ∧
  (∀ (l0 l1 l2 l3 l4 : Option AV) (s0 : Int32) (h : Hp), run 6 1109 31 [l0, l1, l2, l3, l4] [vi s0] h = some (some (vi s0), h)) ∧
  (∀ (l1 l2 l3 l4 : Option AV) (w : Option Rf) (h : Hp), run 6 1109 32 [some (vo w), l1, l2, l3, l4] [] h = run 6 1109 33 [some (vo w), l1, l2, l3, l4] [vo w] h) ∧
  (∀ (l0 l1 l2 l3 l4 : Option AV) (o z : Nat) (h : Hp), run 6 1109 33 [l0, l1, l2, l3, l4] [vo (some (o, 11, z))] h = run 6 1109 36 [l0, l1, l2, l3, l4] [vo (hR h o 0)] h) ∧
  (∀ (l0 l1 l2 l3 l4 : Option AV) (s0 : Option Rf) (h : Hp), run 6 1109 36 [l0, l1, l2, l3, l4] [vo s0] h = run 6 1109 38 [l0, l1, l2, l3, l4] [vi (60 : Int32), vo s0] h) ∧
  (∀ (l0 l1 l2 l3 l4 : Option AV) (s0 : Int32) (o z : Nat) (h : Hp), run 6 1109 38 [l0, l1, l2, l3, l4] [vi s0, vo (some (o, 10, z))] h = (call 1010 [vo (some (o, 10, z)), vi s0] h).bind (fun z => run 6 1109 41 [l0, l1, l2, l3, l4] (z.1.toList ++ []) z.2)) ∧
  (∀ (l0 l1 l2 l4 : Option AV) (w : Int32) (h : Hp), run 6 1109 41 [l0, l1, l2, some (vi w), l4] [] h = run 6 1109 42 [l0, l1, l2, some (vi w), l4] [vi w] h) ∧
  (∀ (l0 l1 l2 l3 l4 : Option AV) (s0 : Int32) (h : Hp), run 6 1109 42 [l0, l1, l2, l3, l4] [vi s0] h = if s0 = 0 then run 6 1109 45 [l0, l1, l2, l3, l4] [] h else run 6 1109 57 [l0, l1, l2, l3, l4] [] h) ∧
  (∀ (l1 l2 l3 l4 : Option AV) (w : Option Rf) (h : Hp), run 6 1109 45 [some (vo w), l1, l2, l3, l4] [] h = run 6 1109 46 [some (vo w), l1, l2, l3, l4] [vo w] h) ∧
  (∀ (l0 l1 l2 l3 l4 : Option AV) (o z : Nat) (h : Hp), run 6 1109 46 [l0, l1, l2, l3, l4] [vo (some (o, 11, z))] h = run 6 1109 49 [l0, l1, l2, l3, l4] [vo (hR h o 0)] h) ∧
  (∀ (l0 l2 l3 l4 : Option AV) (s0 : Option Rf) (w : Int32) (h : Hp), run 6 1109 49 [l0, some (vi w), l2, l3, l4] [vo s0] h = run 6 1109 50 [l0, some (vi w), l2, l3, l4] [vi w, vo s0] h) ∧
  (∀ (l0 l1 l3 l4 : Option AV) (s0 : Int32) (s1 : Option Rf) (w : Int32) (h : Hp), run 6 1109 50 [l0, l1, some (vi w), l3, l4] [vi s0, vo s1] h = run 6 1109 51 [l0, l1, some (vi w), l3, l4] [vi w, vi s0, vo s1] h) ∧
  (∀ (l0 l1 l2 l3 l4 : Option AV) (s0 : Int32) (s1 : Int32) (o z : Nat) (h : Hp), run 6 1109 51 [l0, l1, l2, l3, l4] [vi s0, vi s1, vo (some (o, 10, z))] h = (call 1012 [vo (some (o, 10, z)), vi s1, vi s0] h).bind (fun z => run 6 1109 54 [l0, l1, l2, l3, l4] (z.1.toList ++ []) z.2)) ∧
  (∀ (l0 l1 l2 l3 l4 : Option AV) (s0 : Int32) (h : Hp), run 6 1109 54 [l0, l1, l2, l3, l4] [vi s0] h = run 6 1109 66 [l0, l1, l2, l3, l4] [vi s0] h) ∧
  (∀ (l1 l2 l3 l4 : Option AV) (w : Option Rf) (h : Hp), run 6 1109 57 [some (vo w), l1, l2, l3, l4] [] h = run 6 1109 58 [some (vo w), l1, l2, l3, l4] [vo w] h) ∧
  (∀ (l0 l1 l2 l3 l4 : Option AV) (o z : Nat) (h : Hp), run 6 1109 58 [l0, l1, l2, l3, l4] [vo (some (o, 11, z))] h = run 6 1109 61 [l0, l1, l2, l3, l4] [vo (hR h o 0)] h) ∧
  (∀ (l0 l2 l3 l4 : Option AV) (s0 : Option Rf) (w : Int32) (h : Hp), run 6 1109 61 [l0, some (vi w), l2, l3, l4] [vo s0] h = run 6 1109 62 [l0, some (vi w), l2, l3, l4] [vi w, vo s0] h) ∧
  (∀ (l0 l1 l3 l4 : Option AV) (s0 : Int32) (s1 : Option Rf) (w : Int32) (h : Hp), run 6 1109 62 [l0, l1, some (vi w), l3, l4] [vi s0, vo s1] h = run 6 1109 63 [l0, l1, some (vi w), l3, l4] [vi w, vi s0, vo s1] h) ∧
  (∀ (l0 l1 l2 l3 l4 : Option AV) (s0 : Int32) (s1 : Int32) (o z : Nat) (h : Hp), run 6 1109 63 [l0, l1, l2, l3, l4] [vi s0, vi s1, vo (some (o, 10, z))] h = (call 1013 [vo (some (o, 10, z)), vi s1, vi s0] h).bind (fun z => run 6 1109 66 [l0, l1, l2, l3, l4] (z.1.toList ++ []) z.2)) ∧
  (∀ (l0 l1 l2 l3 l4 : Option AV) (s0 : Int32) (h : Hp), run 6 1109 66 [l0, l1, l2, l3, l4] [vi s0] h = some (some (vi s0), h)) := ⟨(fun _ _ _ _ _ _ => run_next rfl rfl),
  (fun _ _ _ _ s0 _ _ => run_next rfl rfl),
  (fun _ _ _ _ s0 _ _ _ => run_next rfl rfl),
  (fun _ _ _ _ _ s0 _ _ _ _ => run_calx rfl rfl (Nat.le_of_ble_eq_true rfl) (Nat.le_of_ble_eq_true rfl) rfl),
  (fun _ _ _ _ s0 _ => run_next rfl rfl),
  (fun _ _ _ _ s0 _ _ => run_next rfl rfl),
  (fun _ _ _ _ s0 _ _ => run_next rfl rfl),
  (fun _ _ _ _ _ _ => run_next rfl rfl),
  (fun _ _ _ _ _ s0 _ => run_if rfl rfl (run_next rfl) (run_next rfl)),
  (fun _ _ _ _ _ _ => run_next rfl rfl),
  (fun _ _ _ _ _ s0 _ => run_next rfl rfl),
  (fun _ _ _ _ _ s0 _ _ => run_calx rfl rfl (Nat.le_of_ble_eq_true rfl) (Nat.le_of_ble_eq_true rfl) rfl),
  (fun _ _ _ _ s0 _ => run_next rfl rfl),
  (fun _ _ _ _ s0 _ _ => run_next rfl rfl),
  (fun _ _ _ _ s0 _ _ => run_next rfl rfl),
  (fun _ _ _ _ _ _ => run_next rfl rfl),
  (fun _ _ _ _ _ s0 _ => run_if rfl rfl (run_next rfl) (run_next rfl)),
  (fun _ _ _ _ _ _ => run_next rfl rfl),
  (fun _ _ _ _ s0 _ _ => run_next rfl rfl),
  (fun _ _ _ _ _ s0 _ _ _ => run_calx rfl rfl (Nat.le_of_ble_eq_true rfl) (Nat.le_of_ble_eq_true rfl) rfl),
  (fun _ _ _ _ _ s0 _ => run_ret rfl rfl),
  (fun _ _ _ _ _ _ => run_next rfl rfl),
  (fun _ _ _ _ _ _ _ _ => run_next rfl rfl),
  (fun _ _ _ _ _ s0 _ => run_next rfl rfl),
  (fun _ _ _ _ _ s0 _ _ _ => run_calx rfl rfl (Nat.le_of_ble_eq_true rfl) (Nat.le_of_ble_eq_true rfl) rfl),
  (fun _ _ _ _ _ _ => run_next rfl rfl),
  (fun _ _ _ _ _ s0 _ => run_if rfl rfl (run_next rfl) (run_next rfl)),
  (fun _ _ _ _ _ _ => run_next rfl rfl),
  (fun _ _ _ _ _ _ _ _ => run_next rfl rfl),
  (fun _ _ _ _ s0 _ _ => run_next rfl rfl),
  (fun _ _ _ _ s0 _ _ _ => run_next rfl rfl),
  (fun _ _ _ _ _ s0 _ _ _ _ => run_calx rfl rfl (Nat.le_of_ble_eq_true rfl) (Nat.le_of_ble_eq_true rfl) rfl),
  (fun _ _ _ _ _ s0 _ => run_next rfl rfl),
  (fun _ _ _ _ _ _ => run_next rfl rfl),
  (fun _ _ _ _ _ _ _ _ => run_next rfl rfl),
  (fun _ _ _ _ s0 _ _ => run_next rfl rfl),
  (fun _ _ _ _ s0 _ _ _ => run_next rfl rfl),
  (fun _ _ _ _ _ s0 _ _ _ _ => run_calx rfl rfl (Nat.le_of_ble_eq_true rfl) (Nat.le_of_ble_eq_true rfl) rfl),
  (fun _ _ _ _ _ s0 _ => run_ret rfl rfl)⟩
theorem e_1109 (v : Option Rf) (a0 : Int32) (a1 : Int32) (a2 : Int32) (h : Hp) : call 1109 [vo v, vi a0, vi a1, vi a2] h = run 6 1109 0 [some (vo v), some (vi a0), some (vi a1), some (vi a2), none] [] h := rfl
set_option maxRecDepth 20000 in
theorem x_1110 : (∀ (l1 l2 l3 : Option AV) (w : Option Rf) (h : Hp), run 6 1110 0 [some (vo w), l1, l2, l3] [] h = run 6 1110 1 [some (vo w), l1, l2, l3] [vo w] h) ∧
  (∀ (l0 l2 l3 : Option AV) (s0 : Option Rf) (w : Int32) (h : Hp), run 6 1110 1 [l0, some (vi w), l2, l3] [vo s0] h = run 6 1110 2 [l0, some (vi w), l2, l3] [vi w, vo s0] h) ∧
  (∀ (l0 l1 l2 l3 : Option AV) (s0 : Int32) (o z : Nat) (h : Hp), run 6 1110 2 [l0, l1, l2, l3] [vi s0, vo (some (o, 11, z))] h = (call 1131 [vo (some (o, 11, z)), vi s0] h).bind (fun z => run 6 1110 5 [l0, l1, l2, l3] (z.1.toList ++ []) z.2)) ∧
  (∀ (l0 l1 l3 : Option AV) (s0 : Int32) (h : Hp), run 6 1110 5 [l0, l1, none, l3] [vi s0] h = run 6 1110 6 [l0, l1, none, some (vi s0)] [] h) ∧
  (∀ (l0 l1 l3 : Option AV) (s0 : Int32) (w1 : Int32) (h : Hp), run 6 1110 5 [l0, l1, some (vi w1), l3] [vi s0] h = run 6 1110 6 [l0, l1, some (vi w1), some (vi s0)] [] h) ∧
  (∀ (l0 l1 l3 : Option AV) (s0 : Int32) (w1 : Option Rf) (h : Hp), run 6 1110 5 [l0, l1, some (vo w1), l3] [vi s0] h = run 6 1110 6 [l0, l1, some (vo w1), some (vi s0)] [] h) ∧
  (∀ (l0 l1 l2 : Option AV) (w : Int32) (h : Hp), run 6 1110 6 [l0, l1, l2, some (vi w)] [] h = run 6 1110 7 [l0, l1, l2, some (vi w)] [vi w] h) ∧
  (∀ (l0 l1 l2 l3 : Option AV) (s0 : Int32) (h : Hp), run 6 1110 7 [l0, l1, l2, l3] [vi s0] h = if s0 = 0 then run 6 1110 10 [l0, l1, l2, l3] [] h else run 6 1110 18 [l0, l1, l2, l3] [] h) ∧
  (∀ (l0 l1 l3 : Option AV) (w : Int32) (h : Hp), run 6 1110 10 [l0, l1, some (vi w), l3] [] h = run 6 1110 11 [l0, l1, some (vi w), l3] [vi w] h) ∧
  (∀ (l0 l1 l2 l3 : Option AV) (s0 : Int32) (h : Hp), run 6 1110 11 [l0, l1, l2, l3] [vi s0] h = run 6 1110 12 [l0, l1, l2, l3] [vi (0 : Int32), vi s0] h) ∧
  (∀ (l0 l1 l2 l3 : Option AV) (s0 : Int32) (s1 : Int32) (h : Hp), run 6 1110 12 [l0, l1, l2, l3] [vi s0, vi s1] h = run 6 1110 14 [l0, l1, l2, l3] [vi (60 : Int32), vi s0, vi s1] h) ∧
  (∀ (l0 l1 l2 l3 : Option AV) (s0 : Int32) (s1 : Int32) (s2 : Int32) (h : Hp), run 6 1110 14 [l0, l1, l2, l3] [vi s0, vi s1, vi s2] h = (call 1129 [vi s2, vi s1, vi s0] h).bind (fun z => run 6 1110 17 [l0, l1, l2, l3] (z.1.toList ++ []) z.2)) ∧
  (∀ (l0 l1 l3 : Option AV) (s0 : Int32) (h : Hp), run 6 1110 17 [l0, l1, none, l3] [vi s0] h = run 6 1110 18 [l0, l1, none, some (vi s0)] [] h) ∧
  (∀ (l0 l1 l3 : Option AV) (s0 : Int32) (w1 : Int32) (h : Hp), run 6 1110 17 [l0, l1, some (vi w1), l3] [vi s0] h = run 6 1110 18 [l0, l1, some (vi w1), some (vi s0)] [] h) ∧
  (∀ (l0 l1 l3 : Option AV) (s0 : Int32) (w1 : Option Rf) (h : Hp), run 6 1110 17 [l0, l1, some (vo w1), l3] [vi s0] h = run 6 1110 18 [l0, l1, some (vo w1), some (vi s0)] [] h) ∧
  (∀ (l0 l1 l2 : Option AV) (w : Int32) (h : Hp), run 6 1110 18 [l0, l1, l2, some (vi w)] [] h = run 6 1110 19 [l0, l1, l2, some (vi w)] [vi w] h) ∧
  (∀ (l0 l1 l2 l3 : Option AV) (s0 : Int32) (h : Hp), run 6 1110 19 [l0, l1, l2, l3] [vi s0] h = if s0 = 0 then run 6 1110 28 [l0, l1, l2, l3] [] h else run 6 1110 22 [l0, l1, l2, l3] [] h) ∧
  (∀ (l1 l2 l3 : Option AV) (w : Option Rf) (h : Hp), run 6 1110 22 [some (vo w), l1, l2, l3] [] h = run 6 1110 23 [some (vo w), l1, l2, l3] [vo w] h) ∧
  (∀ (l0 l1 l2 : Option AV) (s0 : Option Rf) (w : Int32) (h : Hp), run 6 1110 23 [l0, l1, l2, some (vi w)] [vo s0] h = run 6 1110 24 [l0, l1, l2, some (vi w)] [vi w, vo s0] h) ∧
  (∀ (l0 l1 l2 l3 : Option AV) (s0 : Int32) (o z : Nat) (h : Hp), run 6 1110 24 [l0, l1, l2, l3] [vi s0, vo (some (o, 11, z))] h = (call 1128 [vo (some (o, 11, z)), vi s0] h).bind (fun z => run 6 1110 27 [l0, l1, l2, l3] (z.1.toList ++ []) z.2)) ∧
  (∀ (l0 l1 l2 l3 : Option AV) (s0 : Int32) (h : Hp), run 6 1110 27 [l0, l1, l2, l3] [vi s0] h = some (some (vi s0), h)) ∧
  (∀ (l1 l2 l3 : Option AV) (w : Option Rf) (h : Hp), run 6 1110 28 [some (vo w), l1, l2, l3] [] h = run 6 1110 29 [some (vo w), l1, l2, l3] [vo w] h) ∧
  (∀ (l0 l1 l2 l3 : Option AV) (o z : Nat) (h : Hp), run 6 1110 29 [l0, l1, l2, l3] [vo (some (o, 11, z))] h = run 6 1110 32 [l0, l1, l2, l3] [vo (hR h o 0)] h) ∧
  (∀ (l0 l1 l3 : Option AV) (s0 : Option Rf) (w : Int32) (h : Hp), run 6 1110 32 [l0, l1, some (vi w), l3] [vo s0] h = run 6 1110 33 [l0, l1, some (vi w), l3] [vi w, vo s0] h) ∧
  (∀ (l0 l1 l2 l3 : Option AV) (s0 : Int32) (o z : Nat) (h : Hp), run 6 1110 33 [l0, l1, l2, l3] [vi s0, vo (some (o, 10, z))] h = (call 1010 [vo (some (o, 10, z)), vi s0] h).bind (fun z => run 6 1110 36 [l0, l1, l2, l3] (z.1.toList ++ []) z.2)) ∧
  (∀ (l1 l2 l3 : Option AV) (w : Option Rf) (h : Hp), run 6 1110 36 [some (vo w), l1, l2, l3] [] h = run 6 1110 37 [some (vo w), l1, l2, l3] [vo w] h) ∧
  (∀ (l0 l1 l2 l3 : Option AV) (o z : Nat) (h : Hp), run 6 1110 37 [l0, l1, l2, l3] [vo (some (o, 11, z))] h = run 6 1110 40 [l0, l1, l2, l3] [vo (hR h o 0)] h) ∧
  (∀ (l0 l1 l2 l3 : Option AV) (o z : Nat) (h : Hp), run 6 1110 40 [l0, l1, l2, l3] [vo (some (o, 10, z))] h = run 6 1110 43 [l0, l1, l2, l3] [vo (hR h o 0)] h) ∧
  (∀ (l0 l1 l2 l3 : Option AV) (o z : Nat) (h : Hp), run 6 1110 43 [l0, l1, l2, l3] [vo (some (o, 5, z))] h = run 6 1110 46 [l0, l1, l2, l3] [vi (hI h o 3)] h) ∧
  (∀ (l1 l2 l3 : Option AV) (s0 : Int32) (w : Option Rf) (h : Hp), run 6 1110 46 [some (vo w), l1, l2, l3] [vi s0] h = run 6 1110 47 [some (vo w), l1, l2, l3] [vo w, vi s0] h) ∧
  (∀ (l0 l1 l2 l3 : Option AV) (s1 : Int32) (o z : Nat) (h : Hp), run 6 1110 47 [l0, l1, l2, l3] [vo (some (o, 11, z)), vi s1] h = run 6 1110 50 [l0, l1, l2, l3] [vo (hR h o 0), vi s1] h) ∧
  (∀ (l0 l2 l3 : Option AV) (s0 : Option Rf) (s1 : Int32) (w : Int32) (h : Hp), run 6 1110 50 [l0, some (vi w), l2, l3] [vo s0, vi s1] h = run 6 1110 51 [l0, some (vi w), l2, l3] [vi w, vo s0, vi s1] h) ∧
  (∀ (l0 l1 l3 : Option AV) (s0 : Int32) (s1 : Option Rf) (s2 : Int32) (w : Int32) (h : Hp), run 6 1110 51 [l0, l1, some (vi w), l3] [vi s0, vo s1, vi s2] h = run 6 1110 52 [l0, l1, some (vi w), l3] [vi w, vi s0, vo s1, vi s2] h) ∧
  (∀ (l0 l1 l2 l3 : Option AV) (s0 : Int32) (s1 : Int32) (s3 : Int32) (o z : Nat) (h : Hp), run 6 1110 52 [l0, l1, l2, l3] [vi s0, vi s1, vo (some (o, 10, z)), vi s3] h = (call 1014 [vo (some (o, 10, z)), vi s1, vi s0] h).bind (fun z => run 6 1110 55 [l0, l1, l2, l3] (z.1.toList ++ [vi s3]) z.2)) ∧
  (∀ (l0 l1 l2 l3 : Option AV) (s0 : Int32) (s1 : Int32) (h : Hp), run 6 1110 55 [l0, l1, l2, l3] [vi s0, vi s1] h = run 6 1110 56 [l0, l1, l2, l3] [vi (-1 : Int32), vi s0, vi s1] h) ∧
  (∀ (l0 l1 l2 l3 : Option AV) (s0 : Int32) (s1 : Int32) (s2 : Int32) (h : Hp), run 6 1110 56 [l0, l1, l2, l3] [vi s0, vi s1, vi s2] h = run 6 1110 57 [l0, l1, l2, l3] [vi (s1 ^^^ s0), vi s2] h) ∧
  (∀ (l0 l1 l2 l3 : Option AV) (s0 : Int32) (s1 : Int32) (h : Hp), run 6 1110 57 [l0, l1, l2, l3] [vi s0, vi s1] h = run 6 1110 58 [l0, l1, l2, l3] [vi (s1 &&& s0)] h) ∧
  (∀ (l0 l1 l2 l3 : Option AV) (s0 : Int32) (h : Hp), run 6 1110 58 [l0, l1, l2, l3] [vi s0] h = some (some (vi s0), h)) := ⟨(fun _ _ _ _ _ => run_next rfl rfl),
  (fun _ _ _ s0 _ _ => run_next rfl rfl),
  (fun _ _ _ _ s0 _ _ _ => run_calx rfl rfl (Nat.le_of_ble_eq_true rfl) (Nat.le_of_ble_eq_true rfl) rfl),
  (fun _ _ _ s0 _ => run_next rfl rfl),
  (fun _ _ _ s0 _ _ => run_next rfl rfl),
  (fun _ _ _ s0 _ _ => run_next rfl rfl),
  (fun _ _ _ _ _ => run_next rfl rfl),
  (fun _ _ _ _ s0 _ => run_if rfl rfl (run_next rfl) (run_next rfl)),
  (fun _ _ _ _ _ => run_next rfl rfl),
  (fun _ _ _ _ s0 _ => run_next rfl rfl),
  (fun _ _ _ _ s0 _ _ => run_next rfl rfl),
  (fun _ _ _ _ s0 _ _ _ => run_calx rfl rfl (Nat.le_of_ble_eq_true rfl) (Nat.le_of_ble_eq_true rfl) rfl),
  (fun _ _ _ s0 _ => run_next rfl rfl),
  (fun _ _ _ s0 _ _ => run_next rfl rfl),
  (fun _ _ _ s0 _ _ => run_next rfl rfl),
  (fun _ _ _ _ _ => run_next rfl rfl),
  (fun _ _ _ _ s0 _ => run_if rfl rfl (run_next rfl) (run_next rfl)),
  (fun _ _ _ _ _ => run_next rfl rfl),
  (fun _ _ _ s0 _ _ => run_next rfl rfl),
  (fun _ _ _ _ s0 _ _ _ => run_calx rfl rfl (Nat.le_of_ble_eq_true rfl) (Nat.le_of_ble_eq_true rfl) rfl),
  (fun _ _ _ _ s0 _ => run_ret rfl rfl),
  (fun _ _ _ _ _ => run_next rfl rfl),
  (fun _ _ _ _ _ _ _ => run_next rfl rfl),
  (fun _ _ _ s0 _ _ => run_next rfl rfl),
  (fun _ _ _ _ s0 _ _ _ => run_calx rfl rfl (Nat.le_of_ble_eq_true rfl) (Nat.le_of_ble_eq_true rfl) rfl),
  (fun _ _ _ _ _ => run_next rfl rfl),
  (fun _ _ _ _ _ _ _ => run_next rfl rfl),
  (fun _ _ _ _ _ _ _ => run_next rfl rfl),
  (fun _ _ _ _ _ _ _ => run_next rfl rfl),
  (fun _ _ _ s0 _ _ => run_next rfl rfl),
  (fun _ _ _ _ _ _ _ _ => run_next rfl rfl),
  (fun _ _ _ s0 _ _ _ => run_next rfl rfl),
  (fun _ _ _ s0 _ _ _ _ => run_next rfl rfl),
  (fun _ _ _ _ s0 _ _ _ _ _ => run_calx rfl rfl (Nat.le_of_ble_eq_true rfl) (Nat.le_of_ble_eq_true rfl) rfl),
  (fun _ _ _ _ s0 _ _ => run_next rfl rfl),
  (fun _ _ _ _ s0 _ _ _ => run_next rfl rfl),
  (fun _ _ _ _ s0 _ _ => run_next rfl rfl),
  (fun _ _ _ _ s0 _ => run_ret rfl rfl)⟩
theorem e_1110 (v : Option Rf) (a0 : Int32) (a1 : Int32) (h : Hp) : call 1110 [vo v, vi a0, vi a1] h = run 6 1110 0 [some (vo v), some (vi a0), some (vi a1), none] [] h := rfl
set_option maxRecDepth 20000 in
theorem x_1111 : (∀ (l0 l1 l3 l4 : Option AV) (w : Int32) (h : Hp), run 6 1111 0 [l0, l1, some (vi w), l3, l4] [] h = run 6 1111 1 [l0, l1, some (vi w), l3, l4] [vi w] h) ∧
  (∀ (l0 l1 l2 l3 l4 : Option AV) (s0 : Int32) (h : Hp), run 6 1111 1 [l0, l1, l2, l3, l4] [vi s0] h = run 6 1111 2 [l0, l1, l2, l3, l4] [vi (1 : Int32), vi s0] h) ∧
  (∀ (l0 l1 l2 l3 l4 : Option AV) (s0 : Int32) (s1 : Int32) (h : Hp), run 6 1111 2 [l0, l1, l2, l3, l4] [vi s0, vi s1] h = (call 1130 [vi s1, vi s0] h).bind (fun z => run 6 1111 5 [l0, l1, l2, l3, l4] (z.1.toList ++ []) z.2)) ∧
  (∀ (l0 l1 l3 l4 : Option AV) (s0 : Int32) (h : Hp), run 6 1111 5 [l0, l1, none, l3, l4] [vi s0] h = run 6 1111 6 [l0, l1, none, some (vi s0), l4] [] h) ∧
  (∀ (l0 l1 l3 l4 : Option AV) (s0 : Int32) (w1 : Int32) (h : Hp), run 6 1111 5 [l0, l1, some (vi w1), l3, l4] [vi s0] h = run 6 1111 6 [l0, l1, some (vi w1), some (vi s0), l4] [] h) ∧
  (∀ (l0 l1 l3 l4 : Option AV) (s0 : Int32) (w1 : Option Rf) (h : Hp), run 6 1111 5 [l0, l1, some (vo w1), l3, l4] [vi s0] h = run 6 1111 6 [l0, l1, some (vo w1), some (vi s0), l4] [] h) ∧
  (∀ (l0 l1 l2 l4 : Option AV) (w : Int32) (h : Hp), run 6 1111 6 [l0, l1, l2, some (vi w), l4] [] h = run 6 1111 7 [l0, l1, l2, some (vi w), l4] [vi w] h) ∧
  (∀ (l0 l1 l2 l3 l4 : Option AV) (s0 : Int32) (h : Hp), run 6 1111 7 [l0, l1, l2, l3, l4] [vi s0] h = if s0 = 0 then run 6 1111 10 [l0, l1, l2, l3, l4] [] h else run 6 1111 18 [l0, l1, l2, l3, l4] [] h) ∧
  (∀ (l0 l2 l3 l4 : Option AV) (w : Int32) (h : Hp), run 6 1111 10 [l0, some (vi w), l2, l3, l4] [] h = run 6 1111 11 [l0, some (vi w), l2, l3, l4] [vi w] h) ∧
  (∀ (l0 l1 l2 l3 l4 : Option AV) (s0 : Int32) (h : Hp), run 6 1111 11 [l0, l1, l2, l3, l4] [vi s0] h = run 6 1111 12 [l0, l1, l2, l3, l4] [vi (0 : Int32), vi s0] h) ∧
  (∀ (l0 l1 l2 l3 l4 : Option AV) (s0 : Int32) (s1 : Int32) (h : Hp), run 6 1111 12 [l0, l1, l2, l3, l4] [vi s0, vi s1] h = run 6 1111 14 [l0, l1, l2, l3, l4] [vi (60 : Int32), vi s0, vi s1] h) ∧
  (∀ (l0 l1 l2 l3 l4 : Option AV) (s0 : Int32) (s1 : Int32) (s2 : Int32) (h : Hp), run 6 1111 14 [l0, l1, l2, l3, l4] [vi s0, vi s1, vi s2] h = (call 1129 [vi s2, vi s1, vi s0] h).bind (fun z => run 6 1111 17 [l0, l1, l2, l3, l4] (z.1.toList ++ []) z.2)) ∧
  (∀ (l0 l1 l3 l4 : Option AV) (s0 : Int32) (h : Hp), run 6 1111 17 [l0, l1, none, l3, l4] [vi s0] h = run 6 1111 18 [l0, l1, none, some (vi s0), l4] [] h) ∧
  (∀ (l0 l1 l3 l4 : Option AV) (s0 : Int32) (w1 : Int32) (h : Hp), run 6 1111 17 [l0, l1, some (vi w1), l3, l4] [vi s0] h = run 6 1111 18 [l0, l1, some (vi w1), some (vi s0), l4] [] h) ∧
  (∀ (l0 l1 l3 l4 : Option AV) (s0 : Int32) (w1 : Option Rf) (h : Hp), run 6 1111 17 [l0, l1, some (vo w1), l3, l4] [vi s0] h = run 6 1111 18 [l0, l1, some (vo w1), some (vi s0), l4] [] h) ∧
  (∀ (l0 l1 l2 l4 : Option AV) (w : Int32) (h : Hp), run 6 1111 18 [l0, l1, l2, some (vi w), l4] [] h = run 6 1111 19 [l0, l1, l2, some (vi w), l4] [vi w] h) ∧
  (∀ (l0 l1 l2 l3 l4 : Option AV) (s0 : Int32) (h : Hp), run 6 1111 19 [l0, l1, l2, l3, l4] [vi s0] h = if s0 = 0 then run 6 1111 28 [l0, l1, l2, l3, l4] [] h else run 6 1111 22 [l0, l1, l2, l3, l4] [] h) ∧
  (∀ (l1 l2 l3 l4 : Option AV) (w : Option Rf) (h : Hp), run 6 1111 22 [some (vo w), l1, l2, l3, l4] [] h = run 6 1111 23 [some (vo w), l1, l2, l3, l4] [vo w] h) ∧
  (∀ (l0 l1 l2 l4 : Option AV) (s0 : Option Rf) (w : Int32) (h : Hp), run 6 1111 23 [l0, l1, l2, some (vi w), l4] [vo s0] h = run 6 1111 24 [l0, l1, l2, some (vi w), l4] [vi w, vo s0] h) ∧
  (∀ (l0 l1 l2 l3 l4 : Option AV) (s0 : Int32) (o z : Nat) (h : Hp), run 6 1111 24 [l0, l1, l2, l3, l4] [vi s0, vo (some (o, 11, z))] h = (call 1128 [vo (some (o, 11, z)), vi s0] h).bind (fun z => run 6 1111 27 [l0, l1, l2, l3, l4] (z.1.toList ++ []) z.2)) ∧
  (∀ (l0 l1 l2 l3 l4 : Option AV) (s0 : Int32) (h : Hp), run 6 1111 27 [l0, l1, l2, l3, l4] [vi s0] h = some (some (vi s0), h)) ∧
  (∀ (l1 l2 l3 l4 : Option AV) (w : Option Rf) (h : Hp), run 6 1111 28 [some (vo w), l1, l2, l3, l4] [] h = run 6 1111 29 [some (vo w), l1, l2, l3, l4] [vo w] h) ∧
  (∀ (l0 l1 l2 l3 l4 : Option AV) (o z : Nat) (h : Hp), run 6 1111 29 [l0, l1, l2, l3, l4] [vo (some (o, 11, z))] h = run 6 1111 32 [l0, l1, l2, l3, l4] [vo (hR h o 0)] h) ∧
  (∀ (l0 l2 l3 l4 : Option AV) (s0 : Option Rf) (w : Int32) (h : Hp), run 6 1111 32 [l0, some (vi w), l2, l3, l4] [vo s0] h = run 6 1111 33 [l0, some (vi w), l2, l3, l4] [vi w, vo s0] h) ∧
  (∀ (l0 l1 l2 l3 l4 : Option AV) (s0 : Int32) (o z : Nat) (h : Hp), run 6 1111 33 [l0, l1, l2, l3, l4] [vi s0, vo (some (o, 10, z))] h = (call 1010 [vo (some (o, 10, z)), vi s0] h).bind (fun z => run 6 1111 36 [l0, l1, l2, l3, l4] (z.1.toList ++ []) z.2)) ∧
  (∀ (l1 l2 l3 l4 : Option AV) (w : Option Rf) (h : Hp), run 6 1111 36 [some (vo w), l1, l2, l3, l4] [] h = run 6 1111 37 [some (vo w), l1, l2, l3, l4] [vo w] h) ∧
  (∀ (l0 l1 l2 l3 l4 : Option AV) (o z : Nat) (h : Hp), run 6 1111 37 [l0, l1, l2, l3, l4] [vo (some (o, 11, z))] h = run 6 1111 40 [l0, l1, l2, l3, l4] [vo (hR h o 0)] h) ∧
  (∀ (l1 l2 l3 l4 : Option AV) (s0 : Option Rf) (w : Option Rf) (h : Hp), run 6 1111 40 [some (vo w), l1, l2, l3, l4] [vo s0] h = run 6 1111 41 [some (vo w), l1, l2, l3, l4] [vo w, vo s0] h) ∧
  (∀ (l0 l1 l2 l3 l4 : Option AV) (s1 : Option Rf) (o z : Nat) (h : Hp), run 6 1111 41 [l0, l1, l2, l3, l4] [vo (some (o, 11, z)), vo s1] h = run 6 1111 44 [l0, l1, l2, l3, l4] [vo (hR h o 0), vo s1] h) ∧
  (∀ (l0 l1 l2 l3 l4 : Option AV) (s1 : Option Rf) (o z : Nat) (h : Hp), run 6 1111 44 [l0, l1, l2, l3, l4] [vo (some (o, 10, z)), vo s1] h = run 6 1111 47 [l0, l1, l2, l3, l4] [vi (hI h o 2), vo s1] h) ∧
  (∀ (l0 l2 l3 l4 : Option AV) (s0 : Int32) (s1 : Option Rf) (w : Int32) (h : Hp), run 6 1111 47 [l0, some (vi w), l2, l3, l4] [vi s0, vo s1] h = run 6 1111 48 [l0, some (vi w), l2, l3, l4] [vi w, vi s0, vo s1] h) ∧
  (∀ (l0 l1 l2 l3 l4 : Option AV) (s0 : Int32) (s1 : Int32) (s2 : Option Rf) (h : Hp), run 6 1111 48 [l0, l1, l2, l3, l4] [vi s0, vi s1, vo s2] h = run 6 1111 49 [l0, l1, l2, l3, l4] [vi (s1 + s0), vo s2] h) ∧
  (∀ (l0 l1 l2 l3 l4 : Option AV) (s0 : Int32) (o z : Nat) (h : Hp), run 6 1111 49 [l0, l1, l2, l3, l4] [vi s0, vo (some (o, 10, z))] h = (call 1016 [vo (some (o, 10, z)), vi s0] h).bind (fun z => run 6 1111 52 [l0, l1, l2, l3, l4] (z.1.toList ++ []) z.2)) ∧
  (∀ (l0 l1 l2 l4 : Option AV) (s0 : Int32) (h : Hp), run 6 1111 52 [l0, l1, l2, none, l4] [vi s0] h = run 6 1111 54 [l0, l1, l2, none, some (vi s0)] [] h) ∧
  (∀ (l0 l1 l2 l4 : Option AV) (s0 : Int32) (w1 : Int32) (h : Hp), run 6 1111 52 [l0, l1, l2, some (vi w1), l4] [vi s0] h = run 6 1111 54 [l0, l1, l2, some (vi w1), some (vi s0)] [] h) ∧
  (∀ (l0 l1 l2 l4 : Option AV) (s0 : Int32) (w1 : Option Rf) (h : Hp), run 6 1111 52 [l0, l1, l2, some (vo w1), l4] [vi s0] h = run 6 1111 54 [l0, l1, l2, some (vo w1), some (vi s0)] [] h) ∧
  (∀ (l0 l1 l3 l4 : Option AV) (w : Int32) (h : Hp), run 6 1111 54 [l0, l1, some (vi w), l3, l4] [] h = run 6 1111 55 [l0, l1, some (vi w), l3, l4] [vi w] h) ∧
  (∀ (l0 l1 l2 l3 l4 : Option AV) (s0 : Int32) (h : Hp), run 6 1111 55 [l0, l1, l2, l3, l4] [vi s0] h = run 6 1111 56 [l0, l1, l2, l3, l4] [vi (1 : Int32), vi s0] h) ∧
  (∀ (l0 l1 l2 l3 l4 : Option AV) (s0 : Int32) (s1 : Int32) (h : Hp), run 6 1111 56 [l0, l1, l2, l3, l4] [vi s0, vi s1] h = if s1 = s0 then run 6 1111 59 [l0, l1, l2, l3, l4] [] h else run 6 1111 62 [l0, l1, l2, l3, l4] [] h) ∧
  (∀ (l0 l1 l2 l3 : Option AV) (w : Int32) (h : Hp), run 6 1111 59 [l0, l1, l2, l3, some (vi w)] [] h = run 6 1111 61 [l0, l1, l2, l3, some (vi w)] [vi w] h) ∧
  (∀ (l0 l1 l2 l3 l4 : Option AV) (s0 : Int32) (h : Hp), run 6 1111 61 [l0, l1, l2, l3, l4] [vi s0] h = some (some (vi s0), h)) ∧
  (∀ (l0 l1 l2 l3 : Option AV) (w : Int32) (h : Hp), run 6 1111 62 [l0, l1, l2, l3, some (vi w)] [] h = run 6 1111 64 [l0, l1, l2, l3, some (vi w)] [vi w] h) ∧
  (∀ (l0 l1 l2 l3 l4 : Option AV) (s0 : Int32) (h : Hp), run 6 1111 64 [l0, l1, l2, l3, l4] [vi s0] h = run 6 1111 66 [l0, l1, l2, l3, l4] [vi (-9 : Int32), vi s0] h) ∧
  (∀ (l0 l1 l2 l3 l4 : Option AV) (s0 : Int32) (s1 : Int32) (h : Hp), run 6 1111 66 [l0, l1, l2, l3, l4] [vi s0, vi s1] h = if s1 = s0 then run 6 1111 69 [l0, l1, l2, l3, l4] [] h else run 6 1111 73 [l0, l1, l2, l3, l4] [] h) ∧
  (∀ (l0 l1 l2 l3 l4 : Option AV) (h : Hp), run 6 1111 69 [l0, l1, l2, l3, l4] [] h = run 6 1111 70 [l0, l1, l2, l3, l4] [vi (0 : Int32)] h) ∧
  (∀ (l0 l1 l2 l3 l4 : Option AV) (s0 : Int32) (h : Hp), run 6 1111 70 [l0, l1, l2, l3, l4] [vi s0] h = run 6 1111 91 [l0, l1, l2, l3, l4] [vi s0] h) ∧
  (∀ (l1 l2 l3 l4 : Option AV) (w : Option Rf) (h : Hp), run 6 1111 73 [some (vo w), l1, l2, l3, l4] [] h = run 6 1111 74 [some (vo w), l1, l2, l3, l4] [vo w] h) ∧
  (∀ (l0 l1 l2 l3 l4 : Option AV) (o z : Nat) (h : Hp), run 6 1111 74 [l0, l1, l2, l3, l4] [vo (some (o, 11, z))] h = run 6 1111 77 [l0, l1, l2, l3, l4] [vo (hR h o 0)] h) ∧
  (∀ (l0 l1 l2 l3 : Option AV) (s0 : Option Rf) (w : Int32) (h : Hp), run 6 1111 77 [l0, l1, l2, l3, some (vi w)] [vo s0] h = run 6 1111 79 [l0, l1, l2, l3, some (vi w)] [vi w, vo s0] h) ∧
  (∀ (l1 l2 l3 l4 : Option AV) (s0 : Int32) (s1 : Option Rf) (w : Option Rf) (h : Hp), run 6 1111 79 [some (vo w), l1, l2, l3, l4] [vi s0, vo s1] h = run 6 1111 80 [some (vo w), l1, l2, l3, l4] [vo w, vi s0, vo s1] h) ∧
  (∀ (l0 l1 l2 l3 l4 : Option AV) (s1 : Int32) (s2 : Option Rf) (o z : Nat) (h : Hp), run 6 1111 80 [l0, l1, l2, l3, l4] [vo (some (o, 11, z)), vi s1, vo s2] h = run 6 1111 83 [l0, l1, l2, l3, l4] [vo (hR h o 0), vi s1, vo s2] h) ∧
  (∀ (l0 l1 l2 l3 l4 : Option AV) (s1 : Int32) (s2 : Option Rf) (o z : Nat) (h : Hp), run 6 1111 83 [l0, l1, l2, l3, l4] [vo (some (o, 10, z)), vi s1, vo s2] h = run 6 1111 86 [l0, l1, l2, l3, l4] [vi (hI h o 2), vi s1, vo s2] h) ∧
  (∀ (l0 l2 l3 l4 : Option AV) (s0 : Int32) (s1 : Int32) (s2 : Option Rf) (w : Int32) (h : Hp), run 6 1111 86 [l0, some (vi w), l2, l3, l4] [vi s0, vi s1, vo s2] h = run 6 1111 87 [l0, some (vi w), l2, l3, l4] [vi w, vi s0, vi s1, vo s2] h) ∧
  (∀ (l0 l1 l2 l3 l4 : Option AV) (s0 : Int32) (s1 : Int32) (s2 : Int32) (s3 : Option Rf) (h : Hp), run 6 1111 87 [l0, l1, l2, l3, l4] [vi s0, vi s1, vi s2, vo s3] h = run 6 1111 88 [l0, l1, l2, l3, l4] [vi (s1 + s0), vi s2, vo s3] h) ∧
  (∀ (l0 l1 l2 l3 l4 : Option AV) (s0 : Int32) (s1 : Int32) (o z : Nat) (h : Hp), run 6 1111 88 [l0, l1, l2, l3, l4] [vi s0, vi s1, vo (some (o, 10, z))] h = (call 1015 [vo (some (o, 10, z)), vi s1, vi s0] h).bind (fun z => run 6 1111 91 [l0, l1, l2, l3, l4] (z.1.toList ++ []) z.2)) ∧
  (∀ (l0 l1 l2 l3 l4 : Option AV) (s0 : Int32) (h : Hp), run 6 1111 91 [l0, l1, l2, l3, l4] [vi s0] h = some (some (vi s0), h)) := ⟨(fun _ _ _ _ _ _ => run_next rfl rfl),
  (fun _ _ _ _ _ s0 _ => run_next rfl rfl),
  (fun _ _ _ _ _ s0 _ _ => run_calx rfl rfl (Nat.le_of_ble_eq_true rfl) (Nat.le_of_ble_eq_true rfl) rfl),
  (fun _ _ _ _ s0 _ => run_next rfl rfl),
  (fun _ _ _ _ s0 _ _ => run_next rfl rfl),
  (fun _ _ _ _ s0 _ _ => run_next rfl rfl),
  (fun _ _ _ _ _ _ => run_next rfl rfl),
  (fun _ _ _ _ _ s0 _ => run_if rfl rfl (run_next rfl) (run_next rfl)),
  (fun _ _ _ _ _ _ => run_next rfl rfl),
  (fun _ _ _ _ _ s0 _ => run_next rfl rfl),
  (fun _ _ _ _ _ s0 _ _ => run_next rfl rfl),
  (fun _ _ _ _ _ s0 _ _ _ => run_calx rfl rfl (Nat.le_of_ble_eq_true rfl) (Nat.le_of_ble_eq_true rfl) rfl),
  (fun _ _ _ _ s0 _ => run_next rfl rfl),
  (fun _ _ _ _ s0 _ _ => run_next rfl rfl),
  (fun _ _ _ _ s0 _ _ => run_next rfl rfl),
  (fun _ _ _ _ _ _ => run_next rfl rfl),
  (fun _ _ _ _ _ s0 _ => run_if rfl rfl (run_next rfl) (run_next rfl)),
  (fun _ _ _ _ _ _ => run_next rfl rfl),
  (fun _ _ _ _ s0 _ _ => run_next rfl rfl),
  (fun _ _ _ _ _ s0 _ _ _ => run_calx rfl rfl (Nat.le_of_ble_eq_true rfl) (Nat.le_of_ble_eq_true rfl) rfl),
  (fun _ _ _ _ _ s0 _ => run_ret rfl rfl),
  (fun _ _ _ _ _ _ => run_next rfl rfl),
  (fun _ _ _ _ _ _ _ _ => run_next rfl rfl),
  (fun _ _ _ _ s0 _ _ => run_next rfl rfl),
  (fun _ _ _ _ _ s0 _ _ _ => run_calx rfl rfl (Nat.le_of_ble_eq_true rfl) (Nat.le_of_ble_eq_true rfl) rfl),
  (fun _ _ _ _ _ _ => run_next rfl rfl),
  (fun _ _ _ _ _ _ _ _ => run_next rfl rfl),
  (fun _ _ _ _ s0 _ _ => run_next rfl rfl),
  (fun _ _ _ _ _ _ _ _ _ => run_next rfl rfl),
  (fun _ _ _ _ _ _ _ _ _ => run_next rfl rfl),
  (fun _ _ _ _ s0 _ _ _ => run_next rfl rfl),
  (fun _ _ _ _ _ s0 _ _ _ => run_next rfl rfl),
  (fun _ _ _ _ _ s0 _ _ _ => run_calx rfl rfl (Nat.le_of_ble_eq_true rfl) (Nat.le_of_ble_eq_true rfl) rfl),
  (fun _ _ _ _ s0 _ => run_next rfl rfl),
  (fun _ _ _ _ s0 _ _ => run_next rfl rfl),
  (fun _ _ _ _ s0 _ _ => run_next rfl rfl),
  (fun _ _ _ _ _ _ => run_next rfl rfl),
  (fun _ _ _ _ _ s0 _ => run_next rfl rfl),
  (fun _ _ _ _ _ s0 _ _ => run_if rfl rfl (run_next rfl) (run_next rfl)),
  (fun _ _ _ _ _ _ => run_next rfl rfl),
  (fun _ _ _ _ _ s0 _ => run_ret rfl rfl),
  (fun _ _ _ _ _ _ => run_next rfl rfl),
  (fun _ _ _ _ _ s0 _ => run_next rfl rfl),
  (fun _ _ _ _ _ s0 _ _ => run_if rfl rfl (run_next rfl) (run_next rfl)),
  (fun _ _ _ _ _ _ => run_next rfl rfl),
  (fun _ _ _ _ _ s0 _ => run_next rfl rfl),
  (fun _ _ _ _ _ _ => run_next rfl rfl),
  (fun _ _ _ _ _ _ _ _ => run_next rfl rfl),
  (fun _ _ _ _ s0 _ _ => run_next rfl rfl),
  (fun _ _ _ _ s0 _ _ _ => run_next rfl rfl),
  (fun _ _ _ _ _ _ _ _ _ _ => run_next rfl rfl),
  (fun _ _ _ _ _ _ _ _ _ _ => run_next rfl rfl),
  (fun _ _ _ _ s0 _ _ _ _ => run_next rfl rfl),
  (fun _ _ _ _ _ s0 _ _ _ _ => run_next rfl rfl),
  (fun _ _ _ _ _ s0 _ _ _ _ => run_calx rfl rfl (Nat.le_of_ble_eq_true rfl) (Nat.le_of_ble_eq_true rfl) rfl),
  (fun _ _ _ _ _ s0 _ => run_ret rfl rfl)⟩
theorem e_1111 (v : Option Rf) (a0 : Int32) (a1 : Int32) (h : Hp) : call 1111 [vo v, vi a0, vi a1] h = run 6 1111 0 [some (vo v), some (vi a0), some (vi a1), none, none] [] h := rfl
set_option maxRecDepth 20000 in
theorem x_1112 : (∀ (l1 l2 l3 : Option AV) (w : Option Rf) (h : Hp), run 2 1112 0 [some (vo w), l1, l2, l3] [] h = run 2 1112 1 [some (vo w), l1, l2, l3] [vo w] h) ∧
  (∀ (l0 l2 l3 : Option AV) (s0 : Option Rf) (w : Int32) (h : Hp), run 2 1112 1 [l0, some (vi w), l2, l3] [vo s0] h = run 2 1112 2 [l0, some (vi w), l2, l3] [vi w, vo s0] h) ∧
  (∀ (l0 l1 l2 l3 : Option AV) (s0 : Int32) (o z : Nat) (h : Hp), run 2 1112 2 [l0, l1, l2, l3] [vi s0, vo (some (o, 11, z))] h = (call 1133 [vo (some (o, 11, z)), vi s0] h).bind (fun z => run 2 1112 5 [l0, l1, l2, l3] (z.1.toList ++ []) z.2)) ∧
  (∀ (l0 l1 l3 : Option AV) (s0 : Int32) (h : Hp), run 2 1112 5 [l0, l1, none, l3] [vi s0] h = run 2 1112 6 [l0, l1, none, some (vi s0)] [] h) ∧
  (∀ (l0 l1 l3 : Option AV) (s0 : Int32) (w1 : Int32) (h : Hp), run 2 1112 5 [l0, l1, some (vi w1), l3] [vi s0] h = run 2 1112 6 [l0, l1, some (vi w1), some (vi s0)] [] h) ∧
  (∀ (l0 l1 l3 : Option AV) (s0 : Int32) (w1 : Option Rf) (h : Hp), run 2 1112 5 [l0, l1, some (vo w1), l3] [vi s0] h = run 2 1112 6 [l0, l1, some (vo w1), some (vi s0)] [] h) ∧
  (∀ (l0 l1 l2 : Option AV) (w : Int32) (h : Hp), run 2 1112 6 [l0, l1, l2, some (vi w)] [] h = run 2 1112 7 [l0, l1, l2, some (vi w)] [vi w] h) ∧
  (∀ (l0 l1 l2 l3 : Option AV) (s0 : Int32) (h : Hp), run 2 1112 7 [l0, l1, l2, l3] [vi s0] h = if s0 = 0 then run 2 1112 10 [l0, l1, l2, l3] [] h else run 2 1112 18 [l0, l1, l2, l3] [] h) ∧
  (∀ (l0 l1 l3 : Option AV) (w : Int32) (h : Hp), run 2 1112 10 [l0, l1, some (vi w), l3] [] h = run 2 1112 11 [l0, l1, some (vi w), l3] [vi w] h) ∧
  (∀ (l0 l1 l2 l3 : Option AV) (s0 : Int32) (h : Hp), run 2 1112 11 [l0, l1, l2, l3] [vi s0] h = run 2 1112 12 [l0, l1, l2, l3] [vi (0 : Int32), vi s0] h) ∧
  (∀ (l0 l1 l2 l3 : Option AV) (s0 : Int32) (s1 : Int32) (h : Hp), run 2 1112 12 [l0, l1, l2, l3] [vi s0, vi s1] h = run 2 1112 14 [l0, l1, l2, l3] [vi (30 : Int32), vi s0, vi s1] h) ∧
  (∀ (l0 l1 l2 l3 : Option AV) (s0 : Int32) (s1 : Int32) (s2 : Int32) (h : Hp), run 2 1112 14 [l0, l1, l2, l3] [vi s0, vi s1, vi s2] h = (call 1129 [vi s2, vi s1, vi s0] h).bind (fun z => run 2 1112 17 [l0, l1, l2, l3] (z.1.toList ++ []) z.2)) ∧
  (∀ (l0 l1 l3 : Option AV) (s0 : Int32) (h : Hp), run 2 1112 17 [l0, l1, none, l3] [vi s0] h = run 2 1112 18 [l0, l1, none, some (vi s0)] [] h) ∧
  (∀ (l0 l1 l3 : Option AV) (s0 : Int32) (w1 : Int32) (h : Hp), run 2 1112 17 [l0, l1, some (vi w1), l3] [vi s0] h = run 2 1112 18 [l0, l1, some (vi w1), some (vi s0)] [] h) ∧
  (∀ (l0 l1 l3 : Option AV) (s0 : Int32) (w1 : Option Rf) (h : Hp), run 2 1112 17 [l0, l1, some (vo w1), l3] [vi s0] h = run 2 1112 18 [l0, l1, some (vo w1), some (vi s0)] [] h) ∧
  (∀ (l0 l1 l2 : Option AV) (w : Int32) (h : Hp), run 2 1112 18 [l0, l1, l2, some (vi w)] [] h = run 2 1112 19 [l0, l1, l2, some (vi w)] [vi w] h) ∧
  (∀ (l0 l1 l2 l3 : Option AV) (s0 : Int32) (h : Hp), run 2 1112 19 [l0, l1, l2, l3] [vi s0] h = if s0 = 0 then run 2 1112 28 [l0, l1, l2, l3] [] h else run 2 1112 22 [l0, l1, l2, l3] [] h) ∧
  (∀ (l1 l2 l3 : Option AV) (w : Option Rf) (h : Hp), run 2 1112 22 [some (vo w), l1, l2, l3] [] h = run 2 1112 23 [some (vo w), l1, l2, l3] [vo w] h) ∧
  (∀ (l0 l1 l2 : Option AV) (s0 : Option Rf) (w : Int32) (h : Hp), run 2 1112 23 [l0, l1, l2, some (vi w)] [vo s0] h = run 2 1112 24 [l0, l1, l2, some (vi w)] [vi w, vo s0] h) ∧
  (∀ (l0 l1 l2 l3 : Option AV) (s0 : Int32) (o z : Nat) (h : Hp), run 2 1112 24 [l0, l1, l2, l3] [vi s0, vo (some (o, 11, z))] h = (call 1128 [vo (some (o, 11, z)), vi s0] h).bind (fun z => run 2 1112 27 [l0, l1, l2, l3] (z.1.toList ++ []) z.2)) ∧
  (∀ (l0 l1 l2 l3 : Option AV) (s0 : Int32) (h : Hp), run 2 1112 27 [l0, l1, l2, l3] [vi s0] h = some (some (vi s0), h)) ∧
  (∀ (l1 l2 l3 : Option AV) (w : Option Rf) (h : Hp), run 2 1112 28 [some (vo w), l1, l2, l3] [] h = run 2 1112 29 [some (vo w), l1, l2, l3] [vo w] h) ∧
  (∀ (l0 l1 l2 l3 : Option AV) (o z : Nat) (h : Hp), run 2 1112 29 [l0, l1, l2, l3] [vo (some (o, 11, z))] h = run 2 1112 32 [l0, l1, l2, l3] [vo (hR h o 0)] h) ∧
  (∀ (l0 l1 l2 l3 : Option AV) (o z : Nat) (h : Hp), run 2 1112 32 [l0, l1, l2, l3] [vo (some (o, 10, z))] h = run 2 1112 35 [l0, l1, l2, l3] [vo (hR h o 0)] h) ∧
  (∀ (l0 l2 l3 : Option AV) (s0 : Option Rf) (w : Int32) (h : Hp), run 2 1112 35 [l0, some (vi w), l2, l3] [vo s0] h = run 2 1112 36 [l0, some (vi w), l2, l3] [vi w, vo s0] h) ∧
  (∀ (l0 l1 l3 : Option AV) (s0 : Int32) (s1 : Option Rf) (w : Int32) (h : Hp), run 2 1112 36 [l0, l1, some (vi w), l3] [vi s0, vo s1] h = run 2 1112 37 [l0, l1, some (vi w), l3] [vi w, vi s0, vo s1] h) ∧
  (∀ (l0 l1 l2 l3 : Option AV) (s0 : Int32) (s1 : Int32) (o z : Nat) (h : Hp), run 2 1112 37 [l0, l1, l2, l3] [vi s0, vi s1, vo (some (o, 5, z))] h = (call 510 [vo (some (o, 5, z)), vi s1, vi s0] h).bind (fun z => run 2 1112 40 [l0, l1, l2, l3] (z.1.toList ++ []) z.2)) ∧
  (∀ (l0 l1 l2 l3 : Option AV) (s0 : Int32) (h : Hp), run 2 1112 40 [l0, l1, l2, l3] [vi s0] h = some (some (vi s0), h)) := ⟨(fun _ _ _ _ _ => run_next rfl rfl),
  (fun _ _ _ s0 _ _ => run_next rfl rfl),
  (fun _ _ _ _ s0 _ _ _ => run_calx rfl rfl (Nat.le_of_ble_eq_true rfl) (Nat.le_of_ble_eq_true rfl) rfl),
  (fun _ _ _ s0 _ => run_next rfl rfl),
  (fun _ _ _ s0 _ _ => run_next rfl rfl),
  (fun _ _ _ s0 _ _ => run_next rfl rfl),
  (fun _ _ _ _ _ => run_next rfl rfl),
  (fun _ _ _ _ s0 _ => run_if rfl rfl (run_next rfl) (run_next rfl)),
  (fun _ _ _ _ _ => run_next rfl rfl),
  (fun _ _ _ _ s0 _ => run_next rfl rfl),
  (fun _ _ _ _ s0 _ _ => run_next rfl rfl),
  (fun _ _ _ _ s0 _ _ _ => run_calx rfl rfl (Nat.le_of_ble_eq_true rfl) (Nat.le_of_ble_eq_true rfl) rfl),
  (fun _ _ _ s0 _ => run_next rfl rfl),
  (fun _ _ _ s0 _ _ => run_next rfl rfl),
  (fun _ _ _ s0 _ _ => run_next rfl rfl),
  (fun _ _ _ _ _ => run_next rfl rfl),
  (fun _ _ _ _ s0 _ => run_if rfl rfl (run_next rfl) (run_next rfl)),
  (fun _ _ _ _ _ => run_next rfl rfl),
  (fun _ _ _ s0 _ _ => run_next rfl rfl),
  (fun _ _ _ _ s0 _ _ _ => run_calx rfl rfl (Nat.le_of_ble_eq_true rfl) (Nat.le_of_ble_eq_true rfl) rfl),
  (fun _ _ _ _ s0 _ => run_ret rfl rfl),
  (fun _ _ _ _ _ => run_next rfl rfl),
  (fun _ _ _ _ _ _ _ => run_next rfl rfl),
  (fun _ _ _ _ _ _ _ => run_next rfl rfl),
  (fun _ _ _ s0 _ _ => run_next rfl rfl),
  (fun _ _ _ s0 _ _ _ => run_next rfl rfl),
  (fun _ _ _ _ s0 _ _ _ _ => run_calx rfl rfl (Nat.le_of_ble_eq_true rfl) (Nat.le_of_ble_eq_true rfl) rfl),
  (fun _ _ _ _ s0 _ => run_ret rfl rfl)⟩
theorem e_1112 (v : Option Rf) (a0 : Int32) (a1 : Int32) (h : Hp) : call 1112 [vo v, vi a0, vi a1] h = run 2 1112 0 [some (vo v), some (vi a0), some (vi a1), none] [] h := rfl
set_option maxRecDepth 20000 in
theorem x_1113 : (∀ (l1 l2 l3 : Option AV) (w : Option Rf) (h : Hp), run 3 1113 0 [some (vo w), l1, l2, l3] [] h = run 3 1113 1 [some (vo w), l1, l2, l3] [vo w] h) ∧
  (∀ (l0 l2 l3 : Option AV) (s0 : Option Rf) (w : Int32) (h : Hp), run 3 1113 1 [l0, some (vi w), l2, l3] [vo s0] h = run 3 1113 2 [l0, some (vi w), l2, l3] [vi w, vo s0] h) ∧
  (∀ (l0 l1 l3 : Option AV) (s0 : Int32) (s1 : Option Rf) (w : Int32) (h : Hp), run 3 1113 2 [l0, l1, some (vi w), l3] [vi s0, vo s1] h = run 3 1113 3 [l0, l1, some (vi w), l3] [vi w, vi s0, vo s1] h) ∧
  (∀ (l0 l1 l2 l3 : Option AV) (s0 : Int32) (s1 : Int32) (o z : Nat) (h : Hp), run 3 1113 3 [l0, l1, l2, l3] [vi s0, vi s1, vo (some (o, 11, z))] h = (call 1132 [vo (some (o, 11, z)), vi s1, vi s0] h).bind (fun z => run 3 1113 6 [l0, l1, l2, l3] (z.1.toList ++ []) z.2)) ∧
  (∀ (l0 l1 l3 : Option AV) (s0 : Int32) (h : Hp), run 3 1113 6 [l0, l1, none, l3] [vi s0] h = run 3 1113 7 [l0, l1, none, some (vi s0)] [] h) ∧
  (∀ (l0 l1 l3 : Option AV) (s0 : Int32) (w1 : Int32) (h : Hp), run 3 1113 6 [l0, l1, some (vi w1), l3] [vi s0] h = run 3 1113 7 [l0, l1, some (vi w1), some (vi s0)] [] h) ∧
  (∀ (l0 l1 l3 : Option AV) (s0 : Int32) (w1 : Option Rf) (h : Hp), run 3 1113 6 [l0, l1, some (vo w1), l3] [vi s0] h = run 3 1113 7 [l0, l1, some (vo w1), some (vi s0)] [] h) ∧
  (∀ (l0 l1 l2 : Option AV) (w : Int32) (h : Hp), run 3 1113 7 [l0, l1, l2, some (vi w)] [] h = run 3 1113 8 [l0, l1, l2, some (vi w)] [vi w] h) ∧
  (∀ (l0 l1 l2 l3 : Option AV) (s0 : Int32) (h : Hp), run 3 1113 8 [l0, l1, l2, l3] [vi s0] h = if s0 = 0 then run 3 1113 17 [l0, l1, l2, l3] [] h else run 3 1113 11 [l0, l1, l2, l3] [] h) ∧
  (∀ (l1 l2 l3 : Option AV) (w : Option Rf) (h : Hp), run 3 1113 11 [some (vo w), l1, l2, l3] [] h = run 3 1113 12 [some (vo w), l1, l2, l3] [vo w] h) ∧
  (∀ (l0 l1 l2 : Option AV) (s0 : Option Rf) (w : Int32) (h : Hp), run 3 1113 12 [l0, l1, l2, some (vi w)] [vo s0] h = run 3 1113 13 [l0, l1, l2, some (vi w)] [vi w, vo s0] h) ∧
  (∀ (l0 l1 l2 l3 : Option AV) (s0 : Int32) (o z : Nat) (h : Hp), run 3 1113 13 [l0, l1, l2, l3] [vi s0, vo (some (o, 11, z))] h = (call 1128 [vo (some (o, 11, z)), vi s0] h).bind (fun z => run 3 1113 16 [l0, l1, l2, l3] (z.1.toList ++ []) z.2)) ∧
  (∀ (l0 l1 l2 l3 : Option AV) (s0 : Int32) (h : Hp), run 3 1113 16 [l0, l1, l2, l3] [vi s0] h = some (some (vi s0), h)) ∧
  (∀ (l1 l2 l3 : Option AV) (w : Option Rf) (h : Hp), run 3 1113 17 [some (vo w), l1, l2, l3] [] h = run 3 1113 18 [some (vo w), l1, l2, l3] [vo w] h) ∧
  (∀ (l0 l1 l2 l3 : Option AV) (o z : Nat) (h : Hp), run 3 1113 18 [l0, l1, l2, l3] [vo (some (o, 11, z))] h = run 3 1113 21 [l0, l1, l2, l3] [vo (hR h o 0)] h) ∧
  (∀ (l0 l1 l2 l3 : Option AV) (o z : Nat) (h : Hp), run 3 1113 21 [l0, l1, l2, l3] [vo (some (o, 10, z))] h = run 3 1113 24 [l0, l1, l2, l3] [vo (hR h o 0)] h) ∧
  (∀ (l1 l2 l3 : Option AV) (s0 : Option Rf) (w : Option Rf) (h : Hp), run 3 1113 24 [some (vo w), l1, l2, l3] [vo s0] h = run 3 1113 25 [some (vo w), l1, l2, l3] [vo w, vo s0] h) ∧
  (∀ (l0 l1 l2 l3 : Option AV) (s1 : Option Rf) (o z : Nat) (h : Hp), run 3 1113 25 [l0, l1, l2, l3] [vo (some (o, 11, z)), vo s1] h = run 3 1113 28 [l0, l1, l2, l3] [vo (hR h o 0), vo s1] h) ∧
  (∀ (l0 l1 l3 : Option AV) (s0 : Option Rf) (s1 : Option Rf) (w : Int32) (h : Hp), run 3 1113 28 [l0, l1, some (vi w), l3] [vo s0, vo s1] h = run 3 1113 29 [l0, l1, some (vi w), l3] [vi w, vo s0, vo s1] h) ∧
  (∀ (l1 l2 l3 : Option AV) (s0 : Int32) (s1 : Option Rf) (s2 : Option Rf) (w : Option Rf) (h : Hp), run 3 1113 29 [some (vo w), l1, l2, l3] [vi s0, vo s1, vo s2] h = run 3 1113 30 [some (vo w), l1, l2, l3] [vo w, vi s0, vo s1, vo s2] h) ∧
  (∀ (l0 l1 l2 l3 : Option AV) (s1 : Int32) (s2 : Option Rf) (s3 : Option Rf) (o z : Nat) (h : Hp), run 3 1113 30 [l0, l1, l2, l3] [vo (some (o, 11, z)), vi s1, vo s2, vo s3] h = run 3 1113 33 [l0, l1, l2, l3] [vo (hR h o 0), vi s1, vo s2, vo s3] h) ∧
  (∀ (l0 l1 l2 l3 : Option AV) (s1 : Int32) (s2 : Option Rf) (s3 : Option Rf) (o z : Nat) (h : Hp), run 3 1113 33 [l0, l1, l2, l3] [vo (some (o, 10, z)), vi s1, vo s2, vo s3] h = run 3 1113 36 [l0, l1, l2, l3] [vi (hI h o 2), vi s1, vo s2, vo s3] h) ∧
  (∀ (l0 l1 l2 l3 : Option AV) (s0 : Int32) (s1 : Int32) (s3 : Option Rf) (o z : Nat) (h : Hp), run 3 1113 36 [l0, l1, l2, l3] [vi s0, vi s1, vo (some (o, 10, z)), vo s3] h = (call 1007 [vo (some (o, 10, z)), vi s1, vi s0] h).bind (fun z => run 3 1113 39 [l0, l1, l2, l3] (z.1.toList ++ [vo s3]) z.2)) ∧
  (∀ (l1 l2 l3 : Option AV) (s0 : Int32) (s1 : Option Rf) (w : Option Rf) (h : Hp), run 3 1113 39 [some (vo w), l1, l2, l3] [vi s0, vo s1] h = run 3 1113 40 [some (vo w), l1, l2, l3] [vo w, vi s0, vo s1] h) ∧
  (∀ (l0 l1 l2 l3 : Option AV) (s1 : Int32) (s2 : Option Rf) (o z : Nat) (h : Hp), run 3 1113 40 [l0, l1, l2, l3] [vo (some (o, 11, z)), vi s1, vo s2] h = run 3 1113 43 [l0, l1, l2, l3] [vo (hR h o 0), vi s1, vo s2] h) ∧
  (∀ (l0 l1 l2 l3 : Option AV) (s1 : Int32) (s2 : Option Rf) (o z : Nat) (h : Hp), run 3 1113 43 [l0, l1, l2, l3] [vo (some (o, 10, z)), vi s1, vo s2] h = run 3 1113 46 [l0, l1, l2, l3] [vi (hI h o 1), vi s1, vo s2] h) ∧
  (∀ (l0 l1 l2 l3 : Option AV) (s0 : Int32) (s1 : Int32) (o z : Nat) (h : Hp), run 3 1113 46 [l0, l1, l2, l3] [vi s0, vi s1, vo (some (o, 5, z))] h = (call 510 [vo (some (o, 5, z)), vi s1, vi s0] h).bind (fun z => run 3 1113 49 [l0, l1, l2, l3] (z.1.toList ++ []) z.2)) ∧
  (∀ (l0 l1 l2 l3 : Option AV) (s0 : Int32) (h : Hp), run 3 1113 49 [l0, l1, l2, l3] [vi s0] h = some (some (vi s0), h)) := ⟨(fun _ _ _ _ _ => run_next rfl rfl),
  (fun _ _ _ s0 _ _ => run_next rfl rfl),
  (fun _ _ _ s0 _ _ _ => run_next rfl rfl),
  (fun _ _ _ _ s0 _ _ _ _ => run_calx rfl rfl (Nat.le_of_ble_eq_true rfl) (Nat.le_of_ble_eq_true rfl) rfl),
  (fun _ _ _ s0 _ => run_next rfl rfl),
  (fun _ _ _ s0 _ _ => run_next rfl rfl),
  (fun _ _ _ s0 _ _ => run_next rfl rfl),
  (fun _ _ _ _ _ => run_next rfl rfl),
  (fun _ _ _ _ s0 _ => run_if rfl rfl (run_next rfl) (run_next rfl)),
  (fun _ _ _ _ _ => run_next rfl rfl),
  (fun _ _ _ s0 _ _ => run_next rfl rfl),
  (fun _ _ _ _ s0 _ _ _ => run_calx rfl rfl (Nat.le_of_ble_eq_true rfl) (Nat.le_of_ble_eq_true rfl) rfl),
  (fun _ _ _ _ s0 _ => run_ret rfl rfl),
  (fun _ _ _ _ _ => run_next rfl rfl),
  (fun _ _ _ _ _ _ _ => run_next rfl rfl),
  (fun _ _ _ _ _ _ _ => run_next rfl rfl),
  (fun _ _ _ s0 _ _ => run_next rfl rfl),
  (fun _ _ _ _ _ _ _ _ => run_next rfl rfl),
  (fun _ _ _ s0 _ _ _ => run_next rfl rfl),
  (fun _ _ _ s0 _ _ _ _ => run_next rfl rfl),
  (fun _ _ _ _ _ _ _ _ _ _ => run_next rfl rfl),
  (fun _ _ _ _ _ _ _ _ _ _ => run_next rfl rfl),
  (fun _ _ _ _ s0 _ _ _ _ _ => run_calx rfl rfl (Nat.le_of_ble_eq_true rfl) (Nat.le_of_ble_eq_true rfl) rfl),
  (fun _ _ _ s0 _ _ _ => run_next rfl rfl),
  (fun _ _ _ _ _ _ _ _ _ => run_next rfl rfl),
  (fun _ _ _ _ _ _ _ _ _ => run_next rfl rfl),
  (fun _ _ _ _ s0 _ _ _ _ => run_calx rfl rfl (Nat.le_of_ble_eq_true rfl) (Nat.le_of_ble_eq_true rfl) rfl),
  (fun _ _ _ _ s0 _ => run_ret rfl rfl)⟩
theorem e_1113 (v : Option Rf) (a0 : Int32) (a1 : Int32) (h : Hp) : call 1113 [vo v, vi a0, vi a1] h = run 3 1113 0 [some (vo v), some (vi a0), some (vi a1), none] [] h := rfl
set_option maxRecDepth 20000 in
theorem x_1114 : (∀ (l1 l2 l3 l4 : Option AV) (w : Option Rf) (h : Hp), run 4 1114 0 [some (vo w), l1, l2, l3, l4] [] h = run 4 1114 1 [some (vo w), l1, l2, l3, l4] [vo w] h) ∧
  (∀ (l0 l2 l3 l4 : Option AV) (s0 : Option Rf) (w : Int32) (h : Hp), run 4 1114 1 [l0, some (vi w), l2, l3, l4] [vo s0] h = run 4 1114 2 [l0, some (vi w), l2, l3, l4] [vi w, vo s0] h) ∧
  (∀ (l0 l1 l2 l3 l4 : Option AV) (s0 : Int32) (o z : Nat) (h : Hp), run 4 1114 2 [l0, l1, l2, l3, l4] [vi s0, vo (some (o, 11, z))] h = (call 1133 [vo (some (o, 11, z)), vi s0] h).bind (fun z => run 4 1114 5 [l0, l1, l2, l3, l4] (z.1.toList ++ []) z.2)) ∧
  (∀ (l0 l1 l2 l4 : Option AV) (s0 : Int32) (h : Hp), run 4 1114 5 [l0, l1, l2, none, l4] [vi s0] h = run 4 1114 7 [l0, l1, l2, none, some (vi s0)] [] h) ∧
  (∀ (l0 l1 l2 l4 : Option AV) (s0 : Int32) (w1 : Int32) (h : Hp), run 4 1114 5 [l0, l1, l2, some (vi w1), l4] [vi s0] h = run 4 1114 7 [l0, l1, l2, some (vi w1), some (vi s0)] [] h) ∧
  (∀ (l0 l1 l2 l4 : Option AV) (s0 : Int32) (w1 : Option Rf) (h : Hp), run 4 1114 5 [l0, l1, l2, some (vo w1), l4] [vi s0] h = run 4 1114 7 [l0, l1, l2, some (vo w1), some (vi s0)] [] h) ∧
  (∀ (l0 l1 l2 l3 : Option AV) (w : Int32) (h : Hp), run 4 1114 7 [l0, l1, l2, l3, some (vi w)] [] h = run 4 1114 9 [l0, l1, l2, l3, some (vi w)] [vi w] h) ∧
  (∀ (l0 l1 l2 l3 l4 : Option AV) (s0 : Int32) (h : Hp), run 4 1114 9 [l0, l1, l2, l3, l4] [vi s0] h = if s0 = 0 then run 4 1114 12 [l0, l1, l2, l3, l4] [] h else run 4 1114 19 [l0, l1, l2, l3, l4] [] h) ∧
  (∀ (l1 l2 l3 l4 : Option AV) (w : Option Rf) (h : Hp), run 4 1114 12 [some (vo w), l1, l2, l3, l4] [] h = run 4 1114 13 [some (vo w), l1, l2, l3, l4] [vo w] h) ∧
  (∀ (l0 l1 l3 l4 : Option AV) (s0 : Option Rf) (w : Int32) (h : Hp), run 4 1114 13 [l0, l1, some (vi w), l3, l4] [vo s0] h = run 4 1114 14 [l0, l1, some (vi w), l3, l4] [vi w, vo s0] h) ∧
  (∀ (l0 l1 l2 l3 l4 : Option AV) (s0 : Int32) (o z : Nat) (h : Hp), run 4 1114 14 [l0, l1, l2, l3, l4] [vi s0, vo (some (o, 11, z))] h = (call 1133 [vo (some (o, 11, z)), vi s0] h).bind (fun z => run 4 1114 17 [l0, l1, l2, l3, l4] (z.1.toList ++ []) z.2)) ∧
  (∀ (l0 l1 l2 l4 : Option AV) (s0 : Int32) (h : Hp), run 4 1114 17 [l0, l1, l2, none, l4] [vi s0] h = run 4 1114 19 [l0, l1, l2, none, some (vi s0)] [] h) ∧
  (∀ (l0 l1 l2 l4 : Option AV) (s0 : Int32) (w1 : Int32) (h : Hp), run 4 1114 17 [l0, l1, l2, some (vi w1), l4] [vi s0] h = run 4 1114 19 [l0, l1, l2, some (vi w1), some (vi s0)] [] h) ∧
  (∀ (l0 l1 l2 l4 : Option AV) (s0 : Int32) (w1 : Option Rf) (h : Hp), run 4 1114 17 [l0, l1, l2, some (vo w1), l4] [vi s0] h = run 4 1114 19 [l0, l1, l2, some (vo w1), some (vi s0)] [] h) ∧
  (∀ (l0 l1 l2 l3 : Option AV) (w : Int32) (h : Hp), run 4 1114 19 [l0, l1, l2, l3, some (vi w)] [] h = run 4 1114 21 [l0, l1, l2, l3, some (vi w)] [vi w] h) ∧
  (∀ (l0 l1 l2 l3 l4 : Option AV) (s0 : Int32) (h : Hp), run 4 1114 21 [l0, l1, l2, l3, l4] [vi s0] h = if s0 = 0 then run 4 1114 24 [l0, l1, l2, l3, l4] [] h else run 4 1114 33 [l0, l1, l2, l3, l4] [] h) ∧
  (∀ (l0 l1 l2 l4 : Option AV) (w : Int32) (h : Hp), run 4 1114 24 [l0, l1, l2, some (vi w), l4] [] h = run 4 1114 25 [l0, l1, l2, some (vi w), l4] [vi w] h) ∧
  (∀ (l0 l1 l2 l3 l4 : Option AV) (s0 : Int32) (h : Hp), run 4 1114 25 [l0, l1, l2, l3, l4] [vi s0] h = run 4 1114 26 [l0, l1, l2, l3, l4] [vi (0 : Int32), vi s0] h) ∧
  (∀ (l0 l1 l2 l3 l4 : Option AV) (s0 : Int32) (s1 : Int32) (h : Hp), run 4 1114 26 [l0, l1, l2, l3, l4] [vi s0, vi s1] h = run 4 1114 28 [l0, l1, l2, l3, l4] [vi (10 : Int32), vi s0, vi s1] h) ∧
  (∀ (l0 l1 l2 l3 l4 : Option AV) (s0 : Int32) (s1 : Int32) (s2 : Int32) (h : Hp), run 4 1114 28 [l0, l1, l2, l3, l4] [vi s0, vi s1, vi s2] h = (call 1129 [vi s2, vi s1, vi s0] h).bind (fun z => run 4 1114 31 [l0, l1, l2, l3, l4] (z.1.toList ++ []) z.2)) ∧
  (∀ (l0 l1 l2 l4 : Option AV) (s0 : Int32) (h : Hp), run 4 1114 31 [l0, l1, l2, none, l4] [vi s0] h = run 4 1114 33 [l0, l1, l2, none, some (vi s0)] [] h) ∧
  (∀ (l0 l1 l2 l4 : Option AV) (s0 : Int32) (w1 : Int32) (h : Hp), run 4 1114 31 [l0, l1, l2, some (vi w1), l4] [vi s0] h = run 4 1114 33 [l0, l1, l2, some (vi w1), some (vi s0)] [] h) ∧
  (∀ (l0 l1 l2 l4 : Option AV) (s0 : Int32) (w1 : Option Rf) (h : Hp), run 4 1114 31 [l0, l1, l2, some (vo w1), l4] [vi s0] h = run 4 1114 33 [l0, l1, l2, some (vo w1), some (vi s0)] [] h) ∧
  (∀ (l0 l1 l2 l3 : Option AV) (w : Int32) (h : Hp), run 4 1114 33 [l0, l1, l2, l3, some (vi w)] [] h = run 4 1114 35 [l0, l1, l2, l3, some (vi w)] [vi w] h) ∧
  (∀ (l0 l1 l2 l3 l4 : Option AV) (s0 : Int32) (h : Hp), run 4 1114 35 [l0, l1, l2, l3, l4] [vi s0] h = if s0 = 0 then run 4 1114 45 [l0, l1, l2, l3, l4] [] h else run 4 1114 38 [l0, l1, l2, l3, l4] [] h) ∧
  (∀ (l1 l2 l3 l4 : Option AV) (w : Option Rf) (h : Hp), run 4 1114 38 [some (vo w), l1, l2, l3, l4] [] h = run 4 1114 39 [some (vo w), l1, l2, l3, l4] [vo w] h) ∧
  (∀ (l0 l1 l2 l3 : Option AV) (s0 : Option Rf) (w : Int32) (h : Hp), run 4 1114 39 [l0, l1, l2, l3, some (vi w)] [vo s0] h = run 4 1114 41 [l0, l1, l2, l3, some (vi w)] [vi w, vo s0] h) ∧
  (∀ (l0 l1 l2 l3 l4 : Option AV) (s0 : Int32) (o z : Nat) (h : Hp), run 4 1114 41 [l0, l1, l2, l3, l4] [vi s0, vo (some (o, 11, z))] h = (call 1128 [vo (some (o, 11, z)), vi s0] h).bind (fun z => run 4 1114 44 [l0, l1, l2, l3, l4] (z.1.toList ++ []) z.2)) ∧
  (∀ (l0 l1 l2 l3 l4 : Option AV) (s0 : Int32) (h : Hp), run 4 1114 44 [l0, l1, l2, l3, l4] [vi s0] h = some (some (vi s0), h)) ∧
  (∀ (l1 l2 l3 l4 : Option AV) (w : Option Rf) (h : Hp), run 4 1114 45 [some (vo w), l1, l2, l3, l4] [] h = run 4 1114 46 [some (vo w), l1, l2, l3, l4] [vo w] h) ∧
  (∀ (l0 l1 l2 l3 l4 : Option AV) (o z : Nat) (h : Hp), run 4 1114 46 [l0, l1, l2, l3, l4] [vo (some (o, 11, z))] h = run 4 1114 49 [l0, l1, l2, l3, l4] [vo (hR h o 5)] h) ∧
  (∀ (l1 l2 l3 l4 : Option AV) (s0 : Option Rf) (w : Option Rf) (h : Hp), run 4 1114 49 [some (vo w), l1, l2, l3, l4] [vo s0] h = run 4 1114 50 [some (vo w), l1, l2, l3, l4] [vo w, vo s0] h) ∧
  (∀ (l0 l1 l2 l3 l4 : Option AV) (s1 : Option Rf) (o z : Nat) (h : Hp), run 4 1114 50 [l0, l1, l2, l3, l4] [vo (some (o, 11, z)), vo s1] h = run 4 1114 53 [l0, l1, l2, l3, l4] [vo (hR h o 0), vo s1] h) ∧
  (∀ (l0 l1 l2 l3 l4 : Option AV) (s1 : Option Rf) (o z : Nat) (h : Hp), run 4 1114 53 [l0, l1, l2, l3, l4] [vo (some (o, 10, z)), vo s1] h = run 4 1114 56 [l0, l1, l2, l3, l4] [vo (hR h o 0), vo s1] h) ∧
  (∀ (l0 l2 l3 l4 : Option AV) (s0 : Option Rf) (s1 : Option Rf) (w : Int32) (h : Hp), run 4 1114 56 [l0, some (vi w), l2, l3, l4] [vo s0, vo s1] h = run 4 1114 57 [l0, some (vi w), l2, l3, l4] [vi w, vo s0, vo s1] h) ∧
  (∀ (l0 l1 l3 l4 : Option AV) (s0 : Int32) (s1 : Option Rf) (s2 : Option Rf) (w : Int32) (h : Hp), run 4 1114 57 [l0, l1, some (vi w), l3, l4] [vi s0, vo s1, vo s2] h = run 4 1114 58 [l0, l1, some (vi w), l3, l4] [vi w, vi s0, vo s1, vo s2] h) ∧
  (∀ (l0 l1 l2 l4 : Option AV) (s0 : Int32) (s1 : Int32) (s2 : Option Rf) (s3 : Option Rf) (w : Int32) (h : Hp), run 4 1114 58 [l0, l1, l2, some (vi w), l4] [vi s0, vi s1, vo s2, vo s3] h = run 4 1114 59 [l0, l1, l2, some (vi w), l4] [vi w, vi s0, vi s1, vo s2, vo s3] h) ∧
  (∀ (l0 l1 l2 l3 l4 : Option AV) (s0 : Int32) (s1 : Int32) (s2 : Int32) (s3 : Option Rf) (o z : Nat) (h : Hp), run 4 1114 59 [l0, l1, l2, l3, l4] [vi s0, vi s1, vi s2, vo s3, vo (some (o, 7, z))] h = (call 705 [vo (some (o, 7, z)), vo s3, vi s2, vi s1, vi s0] h).bind (fun z => run 4 1114 62 [l0, l1, l2, l3, l4] (z.1.toList ++ []) z.2)) ∧
  (∀ (l0 l1 l2 l3 l4 : Option AV) (s0 : Int32) (h : Hp), run 4 1114 62 [l0, l1, l2, l3, l4] [vi s0] h = some (some (vi s0), h)) := ⟨(fun _ _ _ _ _ _ => run_next rfl rfl),
  (fun _ _ _ _ s0 _ _ => run_next rfl rfl),
  (fun _ _ _ _ _ s0 _ _ _ => run_calx rfl rfl (Nat.le_of_ble_eq_true rfl) (Nat.le_of_ble_eq_true rfl) rfl),
  (fun _ _ _ _ s0 _ => run_next rfl rfl),
  (fun _ _ _ _ s0 _ _ => run_next rfl rfl),
  (fun _ _ _ _ s0 _ _ => run_next rfl rfl),
  (fun _ _ _ _ _ _ => run_next rfl rfl),
  (fun _ _ _ _ _ s0 _ => run_if rfl rfl (run_next rfl) (run_next rfl)),
  (fun _ _ _ _ _ _ => run_next rfl rfl),
  (fun _ _ _ _ s0 _ _ => run_next rfl rfl),
  (fun _ _ _ _ _ s0 _ _ _ => run_calx rfl rfl (Nat.le_of_ble_eq_true rfl) (Nat.le_of_ble_eq_true rfl) rfl),
  (fun _ _ _ _ s0 _ => run_next rfl rfl),
  (fun _ _ _ _ s0 _ _ => run_next rfl rfl),
  (fun _ _ _ _ s0 _ _ => run_next rfl rfl),
  (fun _ _ _ _ _ _ => run_next rfl rfl),
  (fun _ _ _ _ _ s0 _ => run_if rfl rfl (run_next rfl) (run_next rfl)),
  (fun _ _ _ _ _ _ => run_next rfl rfl),
  (fun _ _ _ _ _ s0 _ => run_next rfl rfl),
  (fun _ _ _ _ _ s0 _ _ => run_next rfl rfl),
  (fun _ _ _ _ _ s0 _ _ _ => run_calx rfl rfl (Nat.le_of_ble_eq_true rfl) (Nat.le_of_ble_eq_true rfl) rfl),
  (fun _ _ _ _ s0 _ => run_next rfl rfl),
  (fun _ _ _ _ s0 _ _ => run_next rfl rfl),
  (fun _ _ _ _ s0 _ _ => run_next rfl rfl),
  (fun _ _ _ _ _ _ => run_next rfl rfl),
  (fun _ _ _ _ _ s0 _ => run_if rfl rfl (run_next rfl) (run_next rfl)),
  (fun _ _ _ _ _ _ => run_next rfl rfl),
  (fun _ _ _ _ s0 _ _ => run_next rfl rfl),
  (fun _ _ _ _ _ s0 _ _ _ => run_calx rfl rfl (Nat.le_of_ble_eq_true rfl) (Nat.le_of_ble_eq_true rfl) rfl),
  (fun _ _ _ _ _ s0 _ => run_ret rfl rfl),
  (fun _ _ _ _ _ _ => run_next rfl rfl),
  (fun _ _ _ _ _ _ _ _ => run_next rfl rfl),
  (fun _ _ _ _ s0 _ _ => run_next rfl rfl),
  (fun _ _ _ _ _ _ _ _ _ => run_next rfl rfl),
  (fun _ _ _ _ _ _ _ _ _ => run_next rfl rfl),
  (fun _ _ _ _ s0 _ _ _ => run_next rfl rfl),
  (fun _ _ _ _ s0 _ _ _ _ => run_next rfl rfl),
  (fun _ _ _ _ s0 _ _ _ _ _ => run_next rfl rfl),
  (fun _ _ _ _ _ s0 _ _ _ _ _ _ => run_calx rfl rfl (Nat.le_of_ble_eq_true rfl) (Nat.le_of_ble_eq_true rfl) rfl),
  (fun _ _ _ _ _ s0 _ => run_ret rfl rfl)⟩
theorem e_1114 (v : Option Rf) (a0 : Int32) (a1 : Int32) (a2 : Int32) (h : Hp) : call 1114 [vo v, vi a0, vi a1, vi a2] h = run 4 1114 0 [some (vo v), some (vi a0), some (vi a1), some (vi a2), none] [] h := rfl
set_option maxRecDepth 20000 in
theorem x_1115 : (∀ (l0 l2 l3 : Option AV) (w : Int32) (h : Hp), run 2 1115 0 [l0, some (vi w), l2, l3] [] h = run 2 1115 1 [l0, some (vi w), l2, l3] [vi w] h) ∧
  (∀ (l0 l1 l2 l3 : Option AV) (s0 : Int32) (h : Hp), run 2 1115 1 [l0, l1, l2, l3] [vi s0] h = if 0 ≤ s0 then run 2 1115 9 [l0, l1, l2, l3] [] h else run 2 1115 4 [l0, l1, l2, l3] [] h) ∧
  (∀ (l0 l1 l2 l3 : Option AV) (h : Hp), run 2 1115 4 [l0, l1, l2, l3] [] h = run 2 1115 6 [l0, l1, l2, l3] [vi (-4 : Int32)] h) ∧
  (∀ (l0 l1 l2 l3 : Option AV) (s0 : Int32) (h : Hp), run 2 1115 6 [l0, l1, l2, l3] [vi s0] h = run 2 1115 14 [l0, l1, l2, l3] [vi s0] h) ∧
  (∀ (l1 l2 l3 : Option AV) (w : Option Rf) (h : Hp), run 2 1115 9 [some (vo w), l1, l2, l3] [] h = run 2 1115 10 [some (vo w), l1, l2, l3] [vo w] h) ∧
  (∀ (l0 l1 l3 : Option AV) (s0 : Option Rf) (w : Int32) (h : Hp), run 2 1115 10 [l0, l1, some (vi w), l3] [vo s0] h = run 2 1115 11 [l0, l1, some (vi w), l3] [vi w, vo s0] h) ∧
  (∀ (l0 l1 l2 l3 : Option AV) (s0 : Int32) (o z : Nat) (h : Hp), run 2 1115 11 [l0, l1, l2, l3] [vi s0, vo (some (o, 11, z))] h = (call 1133 [vo (some (o, 11, z)), vi s0] h).bind (fun z => run 2 1115 14 [l0, l1, l2, l3] (z.1.toList ++ []) z.2)) ∧
  (∀ (l0 l1 l3 : Option AV) (s0 : Int32) (h : Hp), run 2 1115 14 [l0, l1, none, l3] [vi s0] h = run 2 1115 15 [l0, l1, none, some (vi s0)] [] h) ∧
  (∀ (l0 l1 l3 : Option AV) (s0 : Int32) (w1 : Int32) (h : Hp), run 2 1115 14 [l0, l1, some (vi w1), l3] [vi s0] h = run 2 1115 15 [l0, l1, some (vi w1), some (vi s0)] [] h) ∧
  (∀ (l0 l1 l3 : Option AV) (s0 : Int32) (w1 : Option Rf) (h : Hp), run 2 1115 14 [l0, l1, some (vo w1), l3] [vi s0] h = run 2 1115 15 [l0, l1, some (vo w1), some (vi s0)] [] h) ∧
  (∀ (l0 l1 l2 : Option AV) (w : Int32) (h : Hp), run 2 1115 15 [l0, l1, l2, some (vi w)] [] h = run 2 1115 16 [l0, l1, l2, some (vi w)] [vi w] h) ∧
  (∀ (l0 l1 l2 l3 : Option AV) (s0 : Int32) (h : Hp), run 2 1115 16 [l0, l1, l2, l3] [vi s0] h = if s0 = 0 then run 2 1115 19 [l0, l1, l2, l3] [] h else run 2 1115 38 [l0, l1, l2, l3] [] h) ∧
  (∀ (l0 l2 l3 : Option AV) (w : Int32) (h : Hp), run 2 1115 19 [l0, some (vi w), l2, l3] [] h = run 2 1115 20 [l0, some (vi w), l2, l3] [vi w] h) ∧
  (∀ (l0 l1 l2 l3 : Option AV) (s0 : Int32) (h : Hp), run 2 1115 20 [l0, l1, l2, l3] [vi s0] h = run 2 1115 22 [l0, l1, l2, l3] [vi (10 : Int32), vi s0] h) ∧
  (∀ (l0 l1 l2 l3 : Option AV) (s0 : Int32) (s1 : Int32) (h : Hp), run 2 1115 22 [l0, l1, l2, l3] [vi s0, vi s1] h = if s0 < s1 then run 2 1115 35 [l0, l1, l2, l3] [] h else run 2 1115 25 [l0, l1, l2, l3] [] h) ∧
  (∀ (l1 l2 l3 : Option AV) (w : Option Rf) (h : Hp), run 2 1115 25 [some (vo w), l1, l2, l3] [] h = run 2 1115 26 [some (vo w), l1, l2, l3] [vo w] h) ∧
  (∀ (l0 l1 l2 l3 : Option AV) (o z : Nat) (h : Hp), run 2 1115 26 [l0, l1, l2, l3] [vo (some (o, 11, z))] h = run 2 1115 29 [l0, l1, l2, l3] [vo (hR h o 5)] h) ∧
  (∀ (l0 l1 l2 l3 : Option AV) (o z : Nat) (h : Hp), run 2 1115 29 [l0, l1, l2, l3] [vo (some (o, 7, z))] h = (call 701 [vo (some (o, 7, z))] h).bind (fun z => run 2 1115 32 [l0, l1, l2, l3] (z.1.toList ++ []) z.2)) ∧
  (∀ (l0 l1 l2 l3 : Option AV) (s0 : Int32) (h : Hp), run 2 1115 32 [l0, l1, l2, l3] [vi s0] h = if s0 = 0 then run 2 1115 38 [l0, l1, l2, l3] [] h else run 2 1115 35 [l0, l1, l2, l3] [] h) ∧
  (∀ (l0 l1 l2 l3 : Option AV) (h : Hp), run 2 1115 35 [l0, l1, l2, l3] [] h = run 2 1115 37 [l0, l1, l2, l3] [vi (-6 : Int32)] h) ∧
  (∀ (l0 l1 l3 : Option AV) (s0 : Int32) (h : Hp), run 2 1115 37 [l0, l1, none, l3] [vi s0] h = run 2 1115 38 [l0, l1, none, some (vi s0)] [] h) ∧
  (∀ (l0 l1 l3 : Option AV) (s0 : Int32) (w1 : Int32) (h : Hp), run 2 1115 37 [l0, l1, some (vi w1), l3] [vi s0] h = run 2 1115 38 [l0, l1, some (vi w1), some (vi s0)] [] h) ∧
  (∀ (l0 l1 l3 : Option AV) (s0 : Int32) (w1 : Option Rf) (h : Hp), run 2 1115 37 [l0, l1, some (vo w1), l3] [vi s0] h = run 2 1115 38 [l0, l1, some (vo w1), some (vi s0)] [] h) ∧
  (∀ (l0 l1 l2 : Option AV) (w : Int32) (h : Hp), run 2 1115 38 [l0, l1, l2, some (vi w)] [] h = run 2 1115 39 [l0, l1, l2, some (vi w)] [vi w] h) ∧
  (∀ (l0 l1 l2 l3 : Option AV) (s0 : Int32) (h : Hp), run 2 1115 39 [l0, l1, l2, l3] [vi s0] h = if s0 = 0 then run 2 1115 48 [l0, l1, l2, l3] [] h else run 2 1115 42 [l0, l1, l2, l3] [] h) ∧
  (∀ (l1 l2 l3 : Option AV) (w : Option Rf) (h : Hp), run 2 1115 42 [some (vo w), l1, l2, l3] [] h = run 2 1115 43 [some (vo w), l1, l2, l3] [vo w] h) ∧
  (∀ (l0 l1 l2 : Option AV) (s0 : Option Rf) (w : Int32) (h : Hp), run 2 1115 43 [l0, l1, l2, some (vi w)] [vo s0] h = run 2 1115 44 [l0, l1, l2, some (vi w)] [vi w, vo s0] h) ∧
  (∀ (l0 l1 l2 l3 : Option AV) (s0 : Int32) (o z : Nat) (h : Hp), run 2 1115 44 [l0, l1, l2, l3] [vi s0, vo (some (o, 11, z))] h = (call 1128 [vo (some (o, 11, z)), vi s0] h).bind (fun z => run 2 1115 47 [l0, l1, l2, l3] (z.1.toList ++ []) z.2)) ∧
  (∀ (l0 l1 l2 l3 : Option AV) (s0 : Int32) (h : Hp), run 2 1115 47 [l0, l1, l2, l3] [vi s0] h = some (some (vi s0), h)) ∧
  (∀ (l1 l2 l3 : Option AV) (w : Option Rf) (h : Hp), run 2 1115 48 [some (vo w), l1, l2, l3] [] h = run 2 1115 49 [some (vo w), l1, l2, l3] [vo w] h) ∧
  (∀ (l0 l1 l2 l3 : Option AV) (o z : Nat) (h : Hp), run 2 1115 49 [l0, l1, l2, l3] [vo (some (o, 11, z))] h = run 2 1115 52 [l0, l1, l2, l3] [vo (hR h o 5)] h) ∧
  (∀ (l0 l2 l3 : Option AV) (s0 : Option Rf) (w : Int32) (h : Hp), run 2 1115 52 [l0, some (vi w), l2, l3] [vo s0] h = run 2 1115 53 [l0, some (vi w), l2, l3] [vi w, vo s0] h) ∧
  (∀ (l0 l1 l3 : Option AV) (s0 : Int32) (s1 : Option Rf) (w : Int32) (h : Hp), run 2 1115 53 [l0, l1, some (vi w), l3] [vi s0, vo s1] h = run 2 1115 54 [l0, l1, some (vi w), l3] [vi w, vi s0, vo s1] h) ∧
  (∀ (l0 l1 l2 l3 : Option AV) (s0 : Int32) (s1 : Int32) (o z : Nat) (h : Hp), run 2 1115 54 [l0, l1, l2, l3] [vi s0, vi s1, vo (some (o, 7, z))] h = (call 702 [vo (some (o, 7, z)), vi s1, vi s0] h).bind (fun z => run 2 1115 57 [l0, l1, l2, l3] (z.1.toList ++ []) z.2)) ∧
  (∀ (l0 l1 l2 l3 : Option AV) (s0 : Int32) (h : Hp), run 2 1115 57 [l0, l1, l2, l3] [vi s0] h = some (some (vi s0), h)) := ⟨(fun _ _ _ _ _ => run_next rfl rfl),
  (fun _ _ _ _ s0 _ => run_if rfl rfl (run_next rfl) (run_next rfl)),
  (fun _ _ _ _ _ => run_next rfl rfl),
  (fun _ _ _ _ s0 _ => run_next rfl rfl),
  (fun _ _ _ _ _ => run_next rfl rfl),
  (fun _ _ _ s0 _ _ => run_next rfl rfl),
  (fun _ _ _ _ s0 _ _ _ => run_calx rfl rfl (Nat.le_of_ble_eq_true rfl) (Nat.le_of_ble_eq_true rfl) rfl),
  (fun _ _ _ s0 _ => run_next rfl rfl),
  (fun _ _ _ s0 _ _ => run_next rfl rfl),
  (fun _ _ _ s0 _ _ => run_next rfl rfl),
  (fun _ _ _ _ _ => run_next rfl rfl),
  (fun _ _ _ _ s0 _ => run_if rfl rfl (run_next rfl) (run_next rfl)),
  (fun _ _ _ _ _ => run_next rfl rfl),
  (fun _ _ _ _ s0 _ => run_next rfl rfl),
  (fun _ _ _ _ s0 _ _ => run_if rfl rfl (run_next rfl) (run_next rfl)),
  (fun _ _ _ _ _ => run_next rfl rfl),
  (fun _ _ _ _ _ _ _ => run_next rfl rfl),
  (fun _ _ _ _ _ _ _ => run_calx rfl rfl (Nat.le_of_ble_eq_true rfl) (Nat.le_of_ble_eq_true rfl) rfl),
  (fun _ _ _ _ s0 _ => run_if rfl rfl (run_next rfl) (run_next rfl)),
  (fun _ _ _ _ _ => run_next rfl rfl),
  (fun _ _ _ s0 _ => run_next rfl rfl),
  (fun _ _ _ s0 _ _ => run_next rfl rfl),
  (fun _ _ _ s0 _ _ => run_next rfl rfl),
  (fun _ _ _ _ _ => run_next rfl rfl),
  (fun _ _ _ _ s0 _ => run_if rfl rfl (run_next rfl) (run_next rfl)),
  (fun _ _ _ _ _ => run_next rfl rfl),
  (fun _ _ _ s0 _ _ => run_next rfl rfl),
  (fun _ _ _ _ s0 _ _ _ => run_calx rfl rfl (Nat.le_of_ble_eq_true rfl) (Nat.le_of_ble_eq_true rfl) rfl),
  (fun _ _ _ _ s0 _ => run_ret rfl rfl),
  (fun _ _ _ _ _ => run_next rfl rfl),
  (fun _ _ _ _ _ _ _ => run_next rfl rfl),
  (fun _ _ _ s0 _ _ => run_next rfl rfl),
  (fun _ _ _ s0 _ _ _ => run_next rfl rfl),
  (fun _ _ _ _ s0 _ _ _ _ => run_calx rfl rfl (Nat.le_of_ble_eq_true rfl) (Nat.le_of_ble_eq_true rfl) rfl),
  (fun _ _ _ _ s0 _ => run_ret rfl rfl)⟩
theorem e_1115 (v : Option Rf) (a0 : Int32) (a1 : Int32) (h : Hp) : call 1115 [vo v, vi a0, vi a1] h = run 2 1115 0 [some (vo v), some (vi a0), some (vi a1), none] [] h := rfl
set_option maxRecDepth 20000 in
theorem x_1116 : (∀ (l1 l2 : Option AV) (w : Option Rf) (h : Hp), run 5 1116 0 [some (vo w), l1, l2] [] h = run 5 1116 1 [some (vo w), l1, l2] [vo w] h) ∧
  (∀ (l0 l2 : Option AV) (s0 : Option Rf) (w : Int32) (h : Hp), run 5 1116 1 [l0, some (vi w), l2] [vo s0] h = run 5 1116 2 [l0, some (vi w), l2] [vi w, vo s0] h) ∧
  (∀ (l0 l1 l2 : Option AV) (s0 : Int32) (o z : Nat) (h : Hp), run 5 1116 2 [l0, l1, l2] [vi s0, vo (some (o, 11, z))] h = (call 1133 [vo (some (o, 11, z)), vi s0] h).bind (fun z => run 5 1116 5 [l0, l1, l2] (z.1.toList ++ []) z.2)) ∧
  (∀ (l0 l2 : Option AV) (s0 : Int32) (h : Hp), run 5 1116 5 [l0, none, l2] [vi s0] h = run 5 1116 6 [l0, none, some (vi s0)] [] h) ∧
  (∀ (l0 l2 : Option AV) (s0 : Int32) (w1 : Int32) (h : Hp), run 5 1116 5 [l0, some (vi w1), l2] [vi s0] h = run 5 1116 6 [l0, some (vi w1), some (vi s0)] [] h) ∧
  (∀ (l0 l2 : Option AV) (s0 : Int32) (w1 : Option Rf) (h : Hp), run 5 1116 5 [l0, some (vo w1), l2] [vi s0] h = run 5 1116 6 [l0, some (vo w1), some (vi s0)] [] h) ∧
  (∀ (l0 l1 : Option AV) (w : Int32) (h : Hp), run 5 1116 6 [l0, l1, some (vi w)] [] h = run 5 1116 7 [l0, l1, some (vi w)] [vi w] h) ∧
  (∀ (l0 l1 l2 : Option AV) (s0 : Int32) (h : Hp), run 5 1116 7 [l0, l1, l2] [vi s0] h = if s0 = 0 then run 5 1116 16 [l0, l1, l2] [] h else run 5 1116 10 [l0, l1, l2] [] h) ∧
  (∀ (l1 l2 : Option AV) (w : Option Rf) (h : Hp), run 5 1116 10 [some (vo w), l1, l2] [] h = run 5 1116 11 [some (vo w), l1, l2] [vo w] h) ∧
  (∀ (l0 l1 : Option AV) (s0 : Option Rf) (w : Int32) (h : Hp), run 5 1116 11 [l0, l1, some (vi w)] [vo s0] h = run 5 1116 12 [l0, l1, some (vi w)] [vi w, vo s0] h) ∧
  (∀ (l0 l1 l2 : Option AV) (s0 : Int32) (o z : Nat) (h : Hp), run 5 1116 12 [l0, l1, l2] [vi s0, vo (some (o, 11, z))] h = (call 1128 [vo (some (o, 11, z)), vi s0] h).bind (fun z => run 5 1116 15 [l0, l1, l2] (z.1.toList ++ []) z.2)) ∧
  (∀ (l0 l1 l2 : Option AV) (s0 : Int32) (h : Hp), run 5 1116 15 [l0, l1, l2] [vi s0] h = some (some (vi s0), h)) ∧
  (∀ (l1 l2 : Option AV) (w : Option Rf) (h : Hp), run 5 1116 16 [some (vo w), l1, l2] [] h = run 5 1116 17 [some (vo w), l1, l2] [vo w] h) ∧
  (∀ (l0 l1 l2 : Option AV) (o z : Nat) (h : Hp), run 5 1116 17 [l0, l1, l2] [vo (some (o, 11, z))] h = run 5 1116 20 [l0, l1, l2] [vo (hR h o 5)] h) ∧
  (∀ (l1 l2 : Option AV) (s0 : Option Rf) (w : Option Rf) (h : Hp), run 5 1116 20 [some (vo w), l1, l2] [vo s0] h = run 5 1116 21 [some (vo w), l1, l2] [vo w, vo s0] h) ∧
  (∀ (l0 l1 l2 : Option AV) (s1 : Option Rf) (o z : Nat) (h : Hp), run 5 1116 21 [l0, l1, l2] [vo (some (o, 11, z)), vo s1] h = run 5 1116 24 [l0, l1, l2] [vo (hR h o 0), vo s1] h) ∧
  (∀ (l0 l1 l2 : Option AV) (s1 : Option Rf) (o z : Nat) (h : Hp), run 5 1116 24 [l0, l1, l2] [vo (some (o, 10, z)), vo s1] h = run 5 1116 27 [l0, l1, l2] [vo (hR h o 0), vo s1] h) ∧
  (∀ (l0 l2 : Option AV) (s0 : Option Rf) (s1 : Option Rf) (w : Int32) (h : Hp), run 5 1116 27 [l0, some (vi w), l2] [vo s0, vo s1] h = run 5 1116 28 [l0, some (vi w), l2] [vi w, vo s0, vo s1] h) ∧
  (∀ (l0 l1 l2 : Option AV) (s0 : Int32) (s1 : Option Rf) (o z : Nat) (h : Hp), run 5 1116 28 [l0, l1, l2] [vi s0, vo s1, vo (some (o, 7, z))] h = (call 706 [vo (some (o, 7, z)), vo s1, vi s0] h).bind (fun z => run 5 1116 31 [l0, l1, l2] (z.1.toList ++ []) z.2)) ∧
  (∀ (l0 l1 l2 : Option AV) (s0 : Int32) (h : Hp), run 5 1116 31 [l0, l1, l2] [vi s0] h = some (some (vi s0), h)) := ⟨(fun _ _ _ _ => run_next rfl rfl),
  (fun _ _ s0 _ _ => run_next rfl rfl),
  (fun _ _ _ s0 _ _ _ => run_calx rfl rfl (Nat.le_of_ble_eq_true rfl) (Nat.le_of_ble_eq_true rfl) rfl),
  (fun _ _ s0 _ => run_next rfl rfl),
  (fun _ _ s0 _ _ => run_next rfl rfl),
  (fun _ _ s0 _ _ => run_next rfl rfl),
  (fun _ _ _ _ => run_next rfl rfl),
  (fun _ _ _ s0 _ => run_if rfl rfl (run_next rfl) (run_next rfl)),
  (fun _ _ _ _ => run_next rfl rfl),
  (fun _ _ s0 _ _ => run_next rfl rfl),
  (fun _ _ _ s0 _ _ _ => run_calx rfl rfl (Nat.le_of_ble_eq_true rfl) (Nat.le_of_ble_eq_true rfl) rfl),
  (fun _ _ _ s0 _ => run_ret rfl rfl),
  (fun _ _ _ _ => run_next rfl rfl),
  (fun _ _ _ _ _ _ => run_next rfl rfl),
  (fun _ _ s0 _ _ => run_next rfl rfl),
  (fun _ _ _ _ _ _ _ => run_next rfl rfl),
  (fun _ _ _ _ _ _ _ => run_next rfl rfl),
  (fun _ _ s0 _ _ _ => run_next rfl rfl),
  (fun _ _ _ s0 _ _ _ _ => run_calx rfl rfl (Nat.le_of_ble_eq_true rfl) (Nat.le_of_ble_eq_true rfl) rfl),
  (fun _ _ _ s0 _ => run_ret rfl rfl)⟩
theorem e_1116 (v : Option Rf) (a0 : Int32) (h : Hp) : call 1116 [vo v, vi a0] h = run 5 1116 0 [some (vo v), some (vi a0), none] [] h := rfl
set_option maxRecDepth 20000 in
theorem x_1117 : (∀ (l1 l2 l3 : Option AV) (w : Option Rf) (h : Hp), run 5 1117 0 [some (vo w), l1, l2, l3] [] h = run 5 1117 1 [some (vo w), l1, l2, l3] [vo w] h) ∧
  (∀ (l0 l2 l3 : Option AV) (s0 : Option Rf) (w : Int32) (h : Hp), run 5 1117 1 [l0, some (vi w), l2, l3] [vo s0] h = run 5 1117 2 [l0, some (vi w), l2, l3] [vi w, vo s0] h) ∧
  (∀ (l0 l1 l2 l3 : Option AV) (s0 : Int32) (o z : Nat) (h : Hp), run 5 1117 2 [l0, l1, l2, l3] [vi s0, vo (some (o, 11, z))] h = (call 1133 [vo (some (o, 11, z)), vi s0] h).bind (fun z => run 5 1117 5 [l0, l1, l2, l3] (z.1.toList ++ []) z.2)) ∧
  (∀ (l0 l1 l3 : Option AV) (s0 : Int32) (h : Hp), run 5 1117 5 [l0, l1, none, l3] [vi s0] h = run 5 1117 6 [l0, l1, none, some (vi s0)] [] h) ∧
  (∀ (l0 l1 l3 : Option AV) (s0 : Int32) (w1 : Int32) (h : Hp), run 5 1117 5 [l0, l1, some (vi w1), l3] [vi s0] h = run 5 1117 6 [l0, l1, some (vi w1), some (vi s0)] [] h) ∧
  (∀ (l0 l1 l3 : Option AV) (s0 : Int32) (w1 : Option Rf) (h : Hp), run 5 1117 5 [l0, l1, some (vo w1), l3] [vi s0] h = run 5 1117 6 [l0, l1, some (vo w1), some (vi s0)] [] h) ∧
  (∀ (l0 l1 l2 : Option AV) (w : Int32) (h : Hp), run 5 1117 6 [l0, l1, l2, some (vi w)] [] h = run 5 1117 7 [l0, l1, l2, some (vi w)] [vi w] h) ∧
  (∀ (l0 l1 l2 l3 : Option AV) (s0 : Int32) (h : Hp), run 5 1117 7 [l0, l1, l2, l3] [vi s0] h = if s0 = 0 then run 5 1117 10 [l0, l1, l2, l3] [] h else run 5 1117 23 [l0, l1, l2, l3] [] h) ∧
  (∀ (l0 l1 l3 : Option AV) (w : Int32) (h : Hp), run 5 1117 10 [l0, l1, some (vi w), l3] [] h = run 5 1117 11 [l0, l1, some (vi w), l3] [vi w] h) ∧
  (∀ (l0 l1 l2 l3 : Option AV) (s0 : Int32) (h : Hp), run 5 1117 11 [l0, l1, l2, l3] [vi s0] h = run 5 1117 12 [l0, l1, l2, l3] [vi (0 : Int32), vi s0] h) ∧
  (∀ (l1 l2 l3 : Option AV) (s0 : Int32) (s1 : Int32) (w : Option Rf) (h : Hp), run 5 1117 12 [some (vo w), l1, l2, l3] [vi s0, vi s1] h = run 5 1117 13 [some (vo w), l1, l2, l3] [vo w, vi s0, vi s1] h) ∧
  (∀ (l0 l1 l2 l3 : Option AV) (s1 : Int32) (s2 : Int32) (o z : Nat) (h : Hp), run 5 1117 13 [l0, l1, l2, l3] [vo (some (o, 11, z)), vi s1, vi s2] h = run 5 1117 16 [l0, l1, l2, l3] [vo (hR h o 5), vi s1, vi s2] h) ∧
  (∀ (l0 l1 l2 l3 : Option AV) (s1 : Int32) (s2 : Int32) (o z : Nat) (h : Hp), run 5 1117 16 [l0, l1, l2, l3] [vo (some (o, 7, z)), vi s1, vi s2] h = (call 704 [vo (some (o, 7, z))] h).bind (fun z => run 5 1117 19 [l0, l1, l2, l3] (z.1.toList ++ [vi s1, vi s2]) z.2)) ∧
  (∀ (l0 l1 l2 l3 : Option AV) (s0 : Int32) (s1 : Int32) (s2 : Int32) (h : Hp), run 5 1117 19 [l0, l1, l2, l3] [vi s0, vi s1, vi s2] h = (call 1129 [vi s2, vi s1, vi s0] h).bind (fun z => run 5 1117 22 [l0, l1, l2, l3] (z.1.toList ++ []) z.2)) ∧
  (∀ (l0 l1 l3 : Option AV) (s0 : Int32) (h : Hp), run 5 1117 22 [l0, l1, none, l3] [vi s0] h = run 5 1117 23 [l0, l1, none, some (vi s0)] [] h) ∧
  (∀ (l0 l1 l3 : Option AV) (s0 : Int32) (w1 : Int32) (h : Hp), run 5 1117 22 [l0, l1, some (vi w1), l3] [vi s0] h = run 5 1117 23 [l0, l1, some (vi w1), some (vi s0)] [] h) ∧
  (∀ (l0 l1 l3 : Option AV) (s0 : Int32) (w1 : Option Rf) (h : Hp), run 5 1117 22 [l0, l1, some (vo w1), l3] [vi s0] h = run 5 1117 23 [l0, l1, some (vo w1), some (vi s0)] [] h) ∧
  (∀ (l0 l1 l2 : Option AV) (w : Int32) (h : Hp), run 5 1117 23 [l0, l1, l2, some (vi w)] [] h = run 5 1117 24 [l0, l1, l2, some (vi w)] [vi w] h) ∧
  (∀ (l0 l1 l2 l3 : Option AV) (s0 : Int32) (h : Hp), run 5 1117 24 [l0, l1, l2, l3] [vi s0] h = if s0 = 0 then run 5 1117 33 [l0, l1, l2, l3] [] h else run 5 1117 27 [l0, l1, l2, l3] [] h) ∧
  (∀ (l1 l2 l3 : Option AV) (w : Option Rf) (h : Hp), run 5 1117 27 [some (vo w), l1, l2, l3] [] h = run 5 1117 28 [some (vo w), l1, l2, l3] [vo w] h) ∧
  (∀ (l0 l1 l2 : Option AV) (s0 : Option Rf) (w : Int32) (h : Hp), run 5 1117 28 [l0, l1, l2, some (vi w)] [vo s0] h = run 5 1117 29 [l0, l1, l2, some (vi w)] [vi w, vo s0] h) ∧
  (∀ (l0 l1 l2 l3 : Option AV) (s0 : Int32) (o z : Nat) (h : Hp), run 5 1117 29 [l0, l1, l2, l3] [vi s0, vo (some (o, 11, z))] h = (call 1128 [vo (some (o, 11, z)), vi s0] h).bind (fun z => run 5 1117 32 [l0, l1, l2, l3] (z.1.toList ++ []) z.2)) ∧
  (∀ (l0 l1 l2 l3 : Option AV) (s0 : Int32) (h : Hp), run 5 1117 32 [l0, l1, l2, l3] [vi s0] h = some (some (vi s0), h)) ∧
  (∀ (l1 l2 l3 : Option AV) (w : Option Rf) (h : Hp), run 5 1117 33 [some (vo w), l1, l2, l3] [] h = run 5 1117 34 [some (vo w), l1, l2, l3] [vo w] h) ∧
  (∀ (l0 l1 l2 l3 : Option AV) (o z : Nat) (h : Hp), run 5 1117 34 [l0, l1, l2, l3] [vo (some (o, 11, z))] h = run 5 1117 37 [l0, l1, l2, l3] [vo (hR h o 5)] h) ∧
  (∀ (l1 l2 l3 : Option AV) (s0 : Option Rf) (w : Option Rf) (h : Hp), run 5 1117 37 [some (vo w), l1, l2, l3] [vo s0] h = run 5 1117 38 [some (vo w), l1, l2, l3] [vo w, vo s0] h) ∧
  (∀ (l0 l1 l2 l3 : Option AV) (s1 : Option Rf) (o z : Nat) (h : Hp), run 5 1117 38 [l0, l1, l2, l3] [vo (some (o, 11, z)), vo s1] h = run 5 1117 41 [l0, l1, l2, l3] [vo (hR h o 0), vo s1] h) ∧
  (∀ (l0 l1 l2 l3 : Option AV) (s1 : Option Rf) (o z : Nat) (h : Hp), run 5 1117 41 [l0, l1, l2, l3] [vo (some (o, 10, z)), vo s1] h = run 5 1117 44 [l0, l1, l2, l3] [vo (hR h o 0), vo s1] h) ∧
  (∀ (l0 l2 l3 : Option AV) (s0 : Option Rf) (s1 : Option Rf) (w : Int32) (h : Hp), run 5 1117 44 [l0, some (vi w), l2, l3] [vo s0, vo s1] h = run 5 1117 45 [l0, some (vi w), l2, l3] [vi w, vo s0, vo s1] h) ∧
  (∀ (l0 l1 l3 : Option AV) (s0 : Int32) (s1 : Option Rf) (s2 : Option Rf) (w : Int32) (h : Hp), run 5 1117 45 [l0, l1, some (vi w), l3] [vi s0, vo s1, vo s2] h = run 5 1117 46 [l0, l1, some (vi w), l3] [vi w, vi s0, vo s1, vo s2] h) ∧
  (∀ (l0 l1 l2 l3 : Option AV) (s0 : Int32) (s1 : Int32) (s2 : Option Rf) (o z : Nat) (h : Hp), run 5 1117 46 [l0, l1, l2, l3] [vi s0, vi s1, vo s2, vo (some (o, 7, z))] h = (call 707 [vo (some (o, 7, z)), vo s2, vi s1, vi s0] h).bind (fun z => run 5 1117 49 [l0, l1, l2, l3] (z.1.toList ++ []) z.2)) ∧
  (∀ (l0 l1 l2 l3 : Option AV) (s0 : Int32) (h : Hp), run 5 1117 49 [l0, l1, l2, l3] [vi s0] h = some (some (vi s0), h)) := ⟨(fun _ _ _ _ _ => run_next rfl rfl),
  (fun _ _ _ s0 _ _ => run_next rfl rfl),
  (fun _ _ _ _ s0 _ _ _ => run_calx rfl rfl (Nat.le_of_ble_eq_true rfl) (Nat.le_of_ble_eq_true rfl) rfl),
  (fun _ _ _ s0 _ => run_next rfl rfl),
  (fun _ _ _ s0 _ _ => run_next rfl rfl),
  (fun _ _ _ s0 _ _ => run_next rfl rfl),
  (fun _ _ _ _ _ => run_next rfl rfl),
  (fun _ _ _ _ s0 _ => run_if rfl rfl (run_next rfl) (run_next rfl)),
  (fun _ _ _ _ _ => run_next rfl rfl),
  (fun _ _ _ _ s0 _ => run_next rfl rfl),
  (fun _ _ _ s0 _ _ _ => run_next rfl rfl),
  (fun _ _ _ _ _ _ _ _ _ => run_next rfl rfl),
  (fun _ _ _ _ _ _ _ _ _ => run_calx rfl rfl (Nat.le_of_ble_eq_true rfl) (Nat.le_of_ble_eq_true rfl) rfl),
  (fun _ _ _ _ s0 _ _ _ => run_calx rfl rfl (Nat.le_of_ble_eq_true rfl) (Nat.le_of_ble_eq_true rfl) rfl),
  (fun _ _ _ s0 _ => run_next rfl rfl),
  (fun _ _ _ s0 _ _ => run_next rfl rfl),
  (fun _ _ _ s0 _ _ => run_next rfl rfl),
  (fun _ _ _ _ _ => run_next rfl rfl),
  (fun _ _ _ _ s0 _ => run_if rfl rfl (run_next rfl) (run_next rfl)),
  (fun _ _ _ _ _ => run_next rfl rfl),
  (fun _ _ _ s0 _ _ => run_next rfl rfl),
  (fun _ _ _ _ s0 _ _ _ => run_calx rfl rfl (Nat.le_of_ble_eq_true rfl) (Nat.le_of_ble_eq_true rfl) rfl),
  (fun _ _ _ _ s0 _ => run_ret rfl rfl),
  (fun _ _ _ _ _ => run_next rfl rfl),
  (fun _ _ _ _ _ _ _ => run_next rfl rfl),
  (fun _ _ _ s0 _ _ => run_next rfl rfl),
  (fun _ _ _ _ _ _ _ _ => run_next rfl rfl),
  (fun _ _ _ _ _ _ _ _ => run_next rfl rfl),
  (fun _ _ _ s0 _ _ _ => run_next rfl rfl),
  (fun _ _ _ s0 _ _ _ _ => run_next rfl rfl),
  (fun _ _ _ _ s0 _ _ _ _ _ => run_calx rfl rfl (Nat.le_of_ble_eq_true rfl) (Nat.le_of_ble_eq_true rfl) rfl),
  (fun _ _ _ _ s0 _ => run_ret rfl rfl)⟩
theorem e_1117 (v : Option Rf) (a0 : Int32) (a1 : Int32) (h : Hp) : call 1117 [vo v, vi a0, vi a1] h = run 5 1117 0 [some (vo v), some (vi a0), some (vi a1), none] [] h := rfl
set_option maxRecDepth 20000 in
theorem x_1118 : (∀  (w : Option Rf) (h : Hp), run 1 1118 0 [some (vo w)] [] h = run 1 1118 1 [some (vo w)] [vo w] h) ∧
  (∀ (l0 : Option AV) (o z : Nat) (h : Hp), run 1 1118 1 [l0] [vo (some (o, 11, z))] h = run 1 1118 4 [l0] [vo (hR h o 5)] h) ∧
  (∀ (l0 : Option AV) (o z : Nat) (h : Hp), run 1 1118 4 [l0] [vo (some (o, 7, z))] h = (call 703 [vo (some (o, 7, z))] h).bind (fun z => run 1 1118 7 [l0] (z.1.toList ++ []) z.2)) ∧
  (∀ (l0 : Option AV) (s0 : Int32) (h : Hp), run 1 1118 7 [l0] [vi s0] h = some (some (vi s0), h)) := ⟨(fun _ _ => run_next rfl rfl),
  (fun _ _ _ _ => run_next rfl rfl),
  (fun _ _ _ _ => run_calx rfl rfl (Nat.le_of_ble_eq_true rfl) (Nat.le_of_ble_eq_true rfl) rfl),
  (fun _ s0 _ => run_ret rfl rfl)⟩
theorem e_1118 (v : Option Rf) (h : Hp) : call 1118 [vo v] h = run 1 1118 0 [some (vo v)] [] h := rfl
set_option maxRecDepth 20000 in
theorem x_1119 : (∀ (l1 l2 l3 l4 : Option AV) (w : Option Rf) (h : Hp), run 5 1119 0 [some (vo w), l1, l2, l3, l4] [] h = run 5 1119 1 [some (vo w), l1, l2, l3, l4] [vo w] h) ∧
  (∀ (l0 l2 l3 l4 : Option AV) (s0 : Option Rf) (w : Int32) (h : Hp), run 5 1119 1 [l0, some (vi w), l2, l3, l4] [vo s0] h = run 5 1119 2 [l0, some (vi w), l2, l3, l4] [vi w, vo s0] h) ∧
  (∀ (l0 l1 l2 l3 l4 : Option AV) (s0 : Int32) (o z : Nat) (h : Hp), run 5 1119 2 [l0, l1, l2, l3, l4] [vi s0, vo (some (o, 11, z))] h = (call 1133 [vo (some (o, 11, z)), vi s0] h).bind (fun z => run 5 1119 5 [l0, l1, l2, l3, l4] (z.1.toList ++ []) z.2)) ∧
  (∀ (l0 l1 l2 l4 : Option AV) (s0 : Int32) (h : Hp), run 5 1119 5 [l0, l1, l2, none, l4] [vi s0] h = run 5 1119 7 [l0, l1, l2, none, some (vi s0)] [] h) ∧
  (∀ (l0 l1 l2 l4 : Option AV) (s0 : Int32) (w1 : Int32) (h : Hp), run 5 1119 5 [l0, l1, l2, some (vi w1), l4] [vi s0] h = run 5 1119 7 [l0, l1, l2, some (vi w1), some (vi s0)] [] h) ∧
  (∀ (l0 l1 l2 l4 : Option AV) (s0 : Int32) (w1 : Option Rf) (h : Hp), run 5 1119 5 [l0, l1, l2, some (vo w1), l4] [vi s0] h = run 5 1119 7 [l0, l1, l2, some (vo w1), some (vi s0)] [] h) ∧
  (∀ (l0 l1 l2 l3 : Option AV) (w : Int32) (h : Hp), run 5 1119 7 [l0, l1, l2, l3, some (vi w)] [] h = run 5 1119 9 [l0, l1, l2, l3, some (vi w)] [vi w] h) ∧
  (∀ (l0 l1 l2 l3 l4 : Option AV) (s0 : Int32) (h : Hp), run 5 1119 9 [l0, l1, l2, l3, l4] [vi s0] h = if s0 = 0 then run 5 1119 12 [l0, l1, l2, l3, l4] [] h else run 5 1119 19 [l0, l1, l2, l3, l4] [] h) ∧
  (∀ (l1 l2 l3 l4 : Option AV) (w : Option Rf) (h : Hp), run 5 1119 12 [some (vo w), l1, l2, l3, l4] [] h = run 5 1119 13 [some (vo w), l1, l2, l3, l4] [vo w] h) ∧
  (∀ (l0 l1 l3 l4 : Option AV) (s0 : Option Rf) (w : Int32) (h : Hp), run 5 1119 13 [l0, l1, some (vi w), l3, l4] [vo s0] h = run 5 1119 14 [l0, l1, some (vi w), l3, l4] [vi w, vo s0] h) ∧
  (∀ (l0 l1 l2 l3 l4 : Option AV) (s0 : Int32) (o z : Nat) (h : Hp), run 5 1119 14 [l0, l1, l2, l3, l4] [vi s0, vo (some (o, 11, z))] h = (call 1133 [vo (some (o, 11, z)), vi s0] h).bind (fun z => run 5 1119 17 [l0, l1, l2, l3, l4] (z.1.toList ++ []) z.2)) ∧
  (∀ (l0 l1 l2 l4 : Option AV) (s0 : Int32) (h : Hp), run 5 1119 17 [l0, l1, l2, none, l4] [vi s0] h = run 5 1119 19 [l0, l1, l2, none, some (vi s0)] [] h) ∧
  (∀ (l0 l1 l2 l4 : Option AV) (s0 : Int32) (w1 : Int32) (h : Hp), run 5 1119 17 [l0, l1, l2, some (vi w1), l4] [vi s0] h = run 5 1119 19 [l0, l1, l2, some (vi w1), some (vi s0)] [] h) ∧
  (∀ (l0 l1 l2 l4 : Option AV) (s0 : Int32) (w1 : Option Rf) (h : Hp), run 5 1119 17 [l0, l1, l2, some (vo w1), l4] [vi s0] h = run 5 1119 19 [l0, l1, l2, some (vo w1), some (vi s0)] [] h) ∧
  (∀ (l0 l1 l2 l3 : Option AV) (w : Int32) (h : Hp), run 5 1119 19 [l0, l1, l2, l3, some (vi w)] [] h = run 5 1119 21 [l0, l1, l2, l3, some (vi w)] [vi w] h) ∧
  (∀ (l0 l1 l2 l3 l4 : Option AV) (s0 : Int32) (h : Hp), run 5 1119 21 [l0, l1, l2, l3, l4] [vi s0] h = if s0 = 0 then run 5 1119 24 [l0, l1, l2, l3, l4] [] h else run 5 1119 31 [l0, l1, l2, l3, l4] [] h) ∧
  (∀ (l0 l1 l2 l4 : Option AV) (w : Int32) (h : Hp), run 5 1119 24 [l0, l1, l2, some (vi w), l4] [] h = run 5 1119 25 [l0, l1, l2, some (vi w), l4] [vi w] h) ∧
  (∀ (l0 l1 l2 l3 l4 : Option AV) (s0 : Int32) (h : Hp), run 5 1119 25 [l0, l1, l2, l3, l4] [vi s0] h = run 5 1119 26 [l0, l1, l2, l3, l4] [vi (1 : Int32), vi s0] h) ∧
  (∀ (l0 l1 l2 l3 l4 : Option AV) (s0 : Int32) (s1 : Int32) (h : Hp), run 5 1119 26 [l0, l1, l2, l3, l4] [vi s0, vi s1] h = (call 1130 [vi s1, vi s0] h).bind (fun z => run 5 1119 29 [l0, l1, l2, l3, l4] (z.1.toList ++ []) z.2)) ∧
  (∀ (l0 l1 l2 l4 : Option AV) (s0 : Int32) (h : Hp), run 5 1119 29 [l0, l1, l2, none, l4] [vi s0] h = run 5 1119 31 [l0, l1, l2, none, some (vi s0)] [] h) ∧
  (∀ (l0 l1 l2 l4 : Option AV) (s0 : Int32) (w1 : Int32) (h : Hp), run 5 1119 29 [l0, l1, l2, some (vi w1), l4] [vi s0] h = run 5 1119 31 [l0, l1, l2, some (vi w1), some (vi s0)] [] h) ∧
  (∀ (l0 l1 l2 l4 : Option AV) (s0 : Int32) (w1 : Option Rf) (h : Hp), run 5 1119 29 [l0, l1, l2, some (vo w1), l4] [vi s0] h = run 5 1119 31 [l0, l1, l2, some (vo w1), some (vi s0)] [] h) ∧
  (∀ (l0 l1 l2 l3 : Option AV) (w : Int32) (h : Hp), run 5 1119 31 [l0, l1, l2, l3, some (vi w)] [] h = run 5 1119 33 [l0, l1, l2, l3, some (vi w)] [vi w] h) ∧
  (∀ (l0 l1 l2 l3 l4 : Option AV) (s0 : Int32) (h : Hp), run 5 1119 33 [l0, l1, l2, l3, l4] [vi s0] h = if s0 = 0 then run 5 1119 43 [l0, l1, l2, l3, l4] [] h else run 5 1119 36 [l0, l1, l2, l3, l4] [] h) ∧
  (∀ (l1 l2 l3 l4 : Option AV) (w : Option Rf) (h : Hp), run 5 1119 36 [some (vo w), l1, l2, l3, l4] [] h = run 5 1119 37 [some (vo w), l1, l2, l3, l4] [vo w] h) ∧
  (∀ (l0 l1 l2 l3 : Option AV) (s0 : Option Rf) (w : Int32) (h : Hp), run 5 1119 37 [l0, l1, l2, l3, some (vi w)] [vo s0] h = run 5 1119 39 [l0, l1, l2, l3, some (vi w)] [vi w, vo s0] h) ∧
  (∀ (l0 l1 l2 l3 l4 : Option AV) (s0 : Int32) (o z : Nat) (h : Hp), run 5 1119 39 [l0, l1, l2, l3, l4] [vi s0, vo (some (o, 11, z))] h = (call 1128 [vo (some (o, 11, z)), vi s0] h).bind (fun z => run 5 1119 42 [l0, l1, l2, l3, l4] (z.1.toList ++ []) z.2)) ∧
  (∀ (l0 l1 l2 l3 l4 : Option AV) (s0 : Int32) (h : Hp), run 5 1119 42 [l0, l1, l2, l3, l4] [vi s0] h = some (some (vi s0), h)) ∧
  (∀ (l0 l1 l2 l4 : Option AV) (w : Int32) (h : Hp), run 5 1119 43 [l0, l1, l2, some (vi w), l4] [] h = run 5 1119 44 [l0, l1, l2, some (vi w), l4] [vi w] h) ∧
  (∀ (l0 l1 l2 l3 l4 : Option AV) (s0 : Int32) (h : Hp), run 5 1119 44 [l0, l1, l2, l3, l4] [vi s0] h = if s0 = 0 then run 5 1119 47 [l0, l1, l2, l3, l4] [] h else run 5 1119 64 [l0, l1, l2, l3, l4] [] h) ∧
  (∀ (l1 l2 l3 l4 : Option AV) (w : Option Rf) (h : Hp), run 5 1119 47 [some (vo w), l1, l2, l3, l4] [] h = run 5 1119 48 [some (vo w), l1, l2, l3, l4] [vo w] h) ∧
  (∀ (l0 l1 l2 l3 l4 : Option AV) (o z : Nat) (h : Hp), run 5 1119 48 [l0, l1, l2, l3, l4] [vo (some (o, 11, z))] h = run 5 1119 51 [l0, l1, l2, l3, l4] [vo (hR h o 6)] h) ∧
  (∀ (l1 l2 l3 l4 : Option AV) (s0 : Option Rf) (w : Option Rf) (h : Hp), run 5 1119 51 [some (vo w), l1, l2, l3, l4] [vo s0] h = run 5 1119 52 [some (vo w), l1, l2, l3, l4] [vo w, vo s0] h) ∧
  (∀ (l0 l1 l2 l3 l4 : Option AV) (s1 : Option Rf) (o z : Nat) (h : Hp), run 5 1119 52 [l0, l1, l2, l3, l4] [vo (some (o, 11, z)), vo s1] h = run 5 1119 55 [l0, l1, l2, l3, l4] [vo (hR h o 0), vo s1] h) ∧
  (∀ (l0 l1 l2 l3 l4 : Option AV) (s1 : Option Rf) (o z : Nat) (h : Hp), run 5 1119 55 [l0, l1, l2, l3, l4] [vo (some (o, 10, z)), vo s1] h = run 5 1119 58 [l0, l1, l2, l3, l4] [vo (hR h o 0), vo s1] h) ∧
  (∀ (l0 l2 l3 l4 : Option AV) (s0 : Option Rf) (s1 : Option Rf) (w : Int32) (h : Hp), run 5 1119 58 [l0, some (vi w), l2, l3, l4] [vo s0, vo s1] h = run 5 1119 59 [l0, some (vi w), l2, l3, l4] [vi w, vo s0, vo s1] h) ∧
  (∀ (l0 l1 l3 l4 : Option AV) (s0 : Int32) (s1 : Option Rf) (s2 : Option Rf) (w : Int32) (h : Hp), run 5 1119 59 [l0, l1, some (vi w), l3, l4] [vi s0, vo s1, vo s2] h = run 5 1119 60 [l0, l1, some (vi w), l3, l4] [vi w, vi s0, vo s1, vo s2] h) ∧
  (∀ (l0 l1 l2 l3 l4 : Option AV) (s0 : Int32) (s1 : Int32) (s2 : Option Rf) (o z : Nat) (h : Hp), run 5 1119 60 [l0, l1, l2, l3, l4] [vi s0, vi s1, vo s2, vo (some (o, 0, z))] h = (call 1 [vo (some (o, 0, z)), vo s2, vi s1, vi s0] h).bind (fun z => run 5 1119 63 [l0, l1, l2, l3, l4] (z.1.toList ++ []) z.2)) ∧
  (∀ (l0 l1 l2 l3 l4 : Option AV) (s0 : Int32) (h : Hp), run 5 1119 63 [l0, l1, l2, l3, l4] [vi s0] h = some (some (vi s0), h)) ∧
  (∀ (l1 l2 l3 l4 : Option AV) (w : Option Rf) (h : Hp), run 5 1119 64 [some (vo w), l1, l2, l3, l4] [] h = run 5 1119 65 [some (vo w), l1, l2, l3, l4] [vo w] h) ∧
  (∀ (l0 l1 l2 l3 l4 : Option AV) (o z : Nat) (h : Hp), run 5 1119 65 [l0, l1, l2, l3, l4] [vo (some (o, 11, z))] h = run 5 1119 68 [l0, l1, l2, l3, l4] [vo (hR h o 6)] h) ∧
  (∀ (l1 l2 l3 l4 : Option AV) (s0 : Option Rf) (w : Option Rf) (h : Hp), run 5 1119 68 [some (vo w), l1, l2, l3, l4] [vo s0] h = run 5 1119 69 [some (vo w), l1, l2, l3, l4] [vo w, vo s0] h) ∧
  (∀ (l0 l1 l2 l3 l4 : Option AV) (s1 : Option Rf) (o z : Nat) (h : Hp), run 5 1119 69 [l0, l1, l2, l3, l4] [vo (some (o, 11, z)), vo s1] h = run 5 1119 72 [l0, l1, l2, l3, l4] [vo (hR h o 0), vo s1] h) ∧
  (∀ (l0 l1 l2 l3 l4 : Option AV) (s1 : Option Rf) (o z : Nat) (h : Hp), run 5 1119 72 [l0, l1, l2, l3, l4] [vo (some (o, 10, z)), vo s1] h = run 5 1119 75 [l0, l1, l2, l3, l4] [vo (hR h o 0), vo s1] h) ∧
  (∀ (l0 l2 l3 l4 : Option AV) (s0 : Option Rf) (s1 : Option Rf) (w : Int32) (h : Hp), run 5 1119 75 [l0, some (vi w), l2, l3, l4] [vo s0, vo s1] h = run 5 1119 76 [l0, some (vi w), l2, l3, l4] [vi w, vo s0, vo s1] h) ∧
  (∀ (l0 l1 l3 l4 : Option AV) (s0 : Int32) (s1 : Option Rf) (s2 : Option Rf) (w : Int32) (h : Hp), run 5 1119 76 [l0, l1, some (vi w), l3, l4] [vi s0, vo s1, vo s2] h = run 5 1119 77 [l0, l1, some (vi w), l3, l4] [vi w, vi s0, vo s1, vo s2] h) ∧
  (∀ (l0 l1 l2 l3 l4 : Option AV) (s0 : Int32) (s1 : Int32) (s2 : Option Rf) (o z : Nat) (h : Hp), run 5 1119 77 [l0, l1, l2, l3, l4] [vi s0, vi s1, vo s2, vo (some (o, 0, z))] h = (call 2 [vo (some (o, 0, z)), vo s2, vi s1, vi s0] h).bind (fun z => run 5 1119 80 [l0, l1, l2, l3, l4] (z.1.toList ++ []) z.2)) ∧
  (∀ (l0 l1 l2 l3 l4 : Option AV) (s0 : Int32) (h : Hp), run 5 1119 80 [l0, l1, l2, l3, l4] [vi s0] h = some (some (vi s0), h)) := ⟨(fun _ _ _ _ _ _ => run_next rfl rfl),
  (fun _ _ _ _ s0 _ _ => run_next rfl rfl),
  (fun _ _ _ _ _ s0 _ _ _ => run_calx rfl rfl (Nat.le_of_ble_eq_true rfl) (Nat.le_of_ble_eq_true rfl) rfl),
  (fun _ _ _ _ s0 _ => run_next rfl rfl),
  (fun _ _ _ _ s0 _ _ => run_next rfl rfl),
  (fun _ _ _ _ s0 _ _ => run_next rfl rfl),
  (fun _ _ _ _ _ _ => run_next rfl rfl),
  (fun _ _ _ _ _ s0 _ => run_if rfl rfl (run_next rfl) (run_next rfl)),
  (fun _ _ _ _ _ _ => run_next rfl rfl),
  (fun _ _ _ _ s0 _ _ => run_next rfl rfl),
  (fun _ _ _ _ _ s0 _ _ _ => run_calx rfl rfl (Nat.le_of_ble_eq_true rfl) (Nat.le_of_ble_eq_true rfl) rfl),
  (fun _ _ _ _ s0 _ => run_next rfl rfl),
  (fun _ _ _ _ s0 _ _ => run_next rfl rfl),
  (fun _ _ _ _ s0 _ _ => run_next rfl rfl),
  (fun _ _ _ _ _ _ => run_next rfl rfl),
  (fun _ _ _ _ _ s0 _ => run_if rfl rfl (run_next rfl) (run_next rfl)),
  (fun _ _ _ _ _ _ => run_next rfl rfl),
  (fun _ _ _ _ _ s0 _ => run_next rfl rfl),
  (fun _ _ _ _ _ s0 _ _ => run_calx rfl rfl (Nat.le_of_ble_eq_true rfl) (Nat.le_of_ble_eq_true rfl) rfl),
  (fun _ _ _ _ s0 _ => run_next rfl rfl),
  (fun _ _ _ _ s0 _ _ => run_next rfl rfl),
  (fun _ _ _ _ s0 _ _ => run_next rfl rfl),
  (fun _ _ _ _ _ _ => run_next rfl rfl),
  (fun _ _ _ _ _ s0 _ => run_if rfl rfl (run_next rfl) (run_next rfl)),
  (fun _ _ _ _ _ _ => run_next rfl rfl),
  (fun _ _ _ _ s0 _ _ => run_next rfl rfl),
  (fun _ _ _ _ _ s0 _ _ _ => run_calx rfl rfl (Nat.le_of_ble_eq_true rfl) (Nat.le_of_ble_eq_true rfl) rfl),
  (fun _ _ _ _ _ s0 _ => run_ret rfl rfl),
  (fun _ _ _ _ _ _ => run_next rfl rfl),
  (fun _ _ _ _ _ s0 _ => run_if rfl rfl (run_next rfl) (run_next rfl)),
  (fun _ _ _ _ _ _ => run_next rfl rfl),
  (fun _ _ _ _ _ _ _ _ => run_next rfl rfl),
  (fun _ _ _ _ s0 _ _ => run_next rfl rfl),
  (fun _ _ _ _ _ _ _ _ _ => run_next rfl rfl),
  (fun _ _ _ _ _ _ _ _ _ => run_next rfl rfl),
  (fun _ _ _ _ s0 _ _ _ => run_next rfl rfl),
  (fun _ _ _ _ s0 _ _ _ _ => run_next rfl rfl),
  (fun _ _ _ _ _ s0 _ _ _ _ _ => run_calx rfl rfl (Nat.le_of_ble_eq_true rfl) (Nat.le_of_ble_eq_true rfl) rfl),
  (fun _ _ _ _ _ s0 _ => run_ret rfl rfl),
  (fun _ _ _ _ _ _ => run_next rfl rfl),
  (fun _ _ _ _ _ _ _ _ => run_next rfl rfl),
  (fun _ _ _ _ s0 _ _ => run_next rfl rfl),
  (fun _ _ _ _ _ _ _ _ _ => run_next rfl rfl),
  (fun _ _ _ _ _ _ _ _ _ => run_next rfl rfl),
  (fun _ _ _ _ s0 _ _ _ => run_next rfl rfl),
  (fun _ _ _ _ s0 _ _ _ _ => run_next rfl rfl),
  (fun _ _ _ _ _ s0 _ _ _ _ _ => run_calx rfl rfl (Nat.le_of_ble_eq_true rfl) (Nat.le_of_ble_eq_true rfl) rfl),
  (fun _ _ _ _ _ s0 _ => run_ret rfl rfl)⟩
theorem e_1119 (v : Option Rf) (a0 : Int32) (a1 : Int32) (a2 : Int32) (h : Hp) : call 1119 [vo v, vi a0, vi a1, vi a2] h = run 5 1119 0 [some (vo v), some (vi a0), some (vi a1), some (vi a2), none] [] h := rfl
set_option maxRecDepth 20000 in
theorem x_1120 : (∀ (l0 l2 l3 l4 : Option AV) (w : Int32) (h : Hp), run 11 1120 0 [l0, some (vi w), l2, l3, l4] [] h = run 11 1120 1 [l0, some (vi w), l2, l3, l4] [vi w] h) ∧
  (∀ (l0 l1 l2 l3 l4 : Option AV) (s0 : Int32) (h : Hp), run 11 1120 1 [l0, l1, l2, l3, l4] [vi s0] h = run 11 1120 2 [l0, l1, l2, l3, l4] [vi (1 : Int32), vi s0] h) ∧
  (∀ (l0 l1 l2 l3 l4 : Option AV) (s0 : Int32) (s1 : Int32) (h : Hp), run 11 1120 2 [l0, l1, l2, l3, l4] [vi s0, vi s1] h = run 11 1120 3 [l0, l1, l2, l3, l4] [vi (5 : Int32), vi s0, vi s1] h) ∧
  (∀ (l0 l1 l2 l3 l4 : Option AV) (s0 : Int32) (s1 : Int32) (s2 : Int32) (h : Hp), run 11 1120 3 [l0, l1, l2, l3, l4] [vi s0, vi s1, vi s2] h = (call 1129 [vi s2, vi s1, vi s0] h).bind (fun z => run 11 1120 6 [l0, l1, l2, l3, l4] (z.1.toList ++ []) z.2)) ∧
  (∀ (l0 l1 l3 l4 : Option AV) (s0 : Int32) (h : Hp), run 11 1120 6 [l0, l1, none, l3, l4] [vi s0] h = run 11 1120 7 [l0, l1, none, some (vi s0), l4] [] h) ∧
  (∀ (l0 l1 l3 l4 : Option AV) (s0 : Int32) (w1 : Int32) (h : Hp), run 11 1120 6 [l0, l1, some (vi w1), l3, l4] [vi s0] h = run 11 1120 7 [l0, l1, some (vi w1), some (vi s0), l4] [] h) ∧
  (∀ (l0 l1 l3 l4 : Option AV) (s0 : Int32) (w1 : Option Rf) (h : Hp), run 11 1120 6 [l0, l1, some (vo w1), l3, l4] [vi s0] h = run 11 1120 7 [l0, l1, some (vo w1), some (vi s0), l4] [] h) ∧
  (∀ (l0 l1 l2 l4 : Option AV) (w : Int32) (h : Hp), run 11 1120 7 [l0, l1, l2, some (vi w), l4] [] h = run 11 1120 8 [l0, l1, l2, some (vi w), l4] [vi w] h) ∧
  (∀ (l0 l1 l2 l3 l4 : Option AV) (s0 : Int32) (h : Hp), run 11 1120 8 [l0, l1, l2, l3, l4] [vi s0] h = if s0 = 0 then run 11 1120 11 [l0, l1, l2, l3, l4] [] h else run 11 1120 17 [l0, l1, l2, l3, l4] [] h) ∧
  (∀ (l0 l1 l3 l4 : Option AV) (w : Int32) (h : Hp), run 11 1120 11 [l0, l1, some (vi w), l3, l4] [] h = run 11 1120 12 [l0, l1, some (vi w), l3, l4] [vi w] h) ∧
  (∀ (l0 l1 l2 l3 l4 : Option AV) (s0 : Int32) (h : Hp), run 11 1120 12 [l0, l1, l2, l3, l4] [vi s0] h = run 11 1120 13 [l0, l1, l2, l3, l4] [vi (1 : Int32), vi s0] h) ∧
  (∀ (l0 l1 l2 l3 l4 : Option AV) (s0 : Int32) (s1 : Int32) (h : Hp), run 11 1120 13 [l0, l1, l2, l3, l4] [vi s0, vi s1] h = (call 1130 [vi s1, vi s0] h).bind (fun z => run 11 1120 16 [l0, l1, l2, l3, l4] (z.1.toList ++ []) z.2)) ∧
  (∀ (l0 l1 l3 l4 : Option AV) (s0 : Int32) (h : Hp), run 11 1120 16 [l0, l1, none, l3, l4] [vi s0] h = run 11 1120 17 [l0, l1, none, some (vi s0), l4] [] h) ∧
  (∀ (l0 l1 l3 l4 : Option AV) (s0 : Int32) (w1 : Int32) (h : Hp), run 11 1120 16 [l0, l1, some (vi w1), l3, l4] [vi s0] h = run 11 1120 17 [l0, l1, some (vi w1), some (vi s0), l4] [] h) ∧
  (∀ (l0 l1 l3 l4 : Option AV) (s0 : Int32) (w1 : Option Rf) (h : Hp), run 11 1120 16 [l0, l1, some (vo w1), l3, l4] [vi s0] h = run 11 1120 17 [l0, l1, some (vo w1), some (vi s0), l4] [] h) ∧
  (∀ (l0 l1 l2 l4 : Option AV) (w : Int32) (h : Hp), run 11 1120 17 [l0, l1, l2, some (vi w), l4] [] h = run 11 1120 18 [l0, l1, l2, some (vi w), l4] [vi w] h) ∧
  (∀ (l0 l1 l2 l3 l4 : Option AV) (s0 : Int32) (h : Hp), run 11 1120 18 [l0, l1, l2, l3, l4] [vi s0] h = if s0 = 0 then run 11 1120 27 [l0, l1, l2, l3, l4] [] h else run 11 1120 21 [l0, l1, l2, l3, l4] [] h) ∧
  (∀ (l1 l2 l3 l4 : Option AV) (w : Option Rf) (h : Hp), run 11 1120 21 [some (vo w), l1, l2, l3, l4] [] h = run 11 1120 22 [some (vo w), l1, l2, l3, l4] [vo w] h) ∧
  (∀ (l0 l1 l2 l4 : Option AV) (s0 : Option Rf) (w : Int32) (h : Hp), run 11 1120 22 [l0, l1, l2, some (vi w), l4] [vo s0] h = run 11 1120 23 [l0, l1, l2, some (vi w), l4] [vi w, vo s0] h) ∧
  (∀ (l0 l1 l2 l3 l4 : Option AV) (s0 : Int32) (o z : Nat) (h : Hp), run 11 1120 23 [l0, l1, l2, l3, l4] [vi s0, vo (some (o, 11, z))] h = (call 1128 [vo (some (o, 11, z)), vi s0] h).bind (fun z => run 11 1120 26 [l0, l1, l2, l3, l4] (z.1.toList ++ []) z.2)) ∧
  (∀ (l0 l1 l2 l3 l4 : Option AV) (s0 : Int32) (h : Hp), run 11 1120 26 [l0, l1, l2, l3, l4] [vi s0] h = some (some (vi s0), h)) ∧
  (∀ (l1 l2 l3 l4 : Option AV) (w : Option Rf) (h : Hp), run 11 1120 27 [some (vo w), l1, l2, l3, l4] [] h = run 11 1120 28 [some (vo w), l1, l2, l3, l4] [vo w] h) ∧
  (∀ (l0 l1 l2 l3 l4 : Option AV) (o z : Nat) (h : Hp), run 11 1120 28 [l0, l1, l2, l3, l4] [vo (some (o, 11, z))] h = run 11 1120 31 [l0, l1, l2, l3, l4] [vo (hR h o 0)] h) ∧
  (∀ (l0 l1 l2 l3 l4 : Option AV) (o z : Nat) (h : Hp), run 11 1120 31 [l0, l1, l2, l3, l4] [vo (some (o, 10, z))] h = run 11 1120 34 [l0, l1, l2, l3, l4] [vo (hR h o 0)] h) ∧
  (∀ (l0 l2 l3 l4 : Option AV) (s0 : Option Rf) (w : Int32) (h : Hp), run 11 1120 34 [l0, some (vi w), l2, l3, l4] [vo s0] h = run 11 1120 35 [l0, some (vi w), l2, l3, l4] [vi w, vo s0] h) ∧
  (∀ (l0 l1 l2 l3 l4 : Option AV) (s0 : Int32) (o z : Nat) (h : Hp), run 11 1120 35 [l0, l1, l2, l3, l4] [vi s0, vo (some (o, 5, z))] h = (call 512 [vo (some (o, 5, z)), vi s0] h).bind (fun z => run 11 1120 38 [l0, l1, l2, l3, l4] (z.1.toList ++ []) z.2)) ∧
  (∀ (l0 l1 l2 l4 : Option AV) (s0 : Int32) (h : Hp), run 11 1120 38 [l0, l1, l2, none, l4] [vi s0] h = run 11 1120 40 [l0, l1, l2, none, some (vi s0)] [] h) ∧
  (∀ (l0 l1 l2 l4 : Option AV) (s0 : Int32) (w1 : Int32) (h : Hp), run 11 1120 38 [l0, l1, l2, some (vi w1), l4] [vi s0] h = run 11 1120 40 [l0, l1, l2, some (vi w1), some (vi s0)] [] h) ∧
  (∀ (l0 l1 l2 l4 : Option AV) (s0 : Int32) (w1 : Option Rf) (h : Hp), run 11 1120 38 [l0, l1, l2, some (vo w1), l4] [vi s0] h = run 11 1120 40 [l0, l1, l2, some (vo w1), some (vi s0)] [] h) ∧
  (∀ (l0 l1 l3 l4 : Option AV) (w : Int32) (h : Hp), run 11 1120 40 [l0, l1, some (vi w), l3, l4] [] h = run 11 1120 41 [l0, l1, some (vi w), l3, l4] [vi w] h) ∧
  (∀ (l0 l1 l2 l3 l4 : Option AV) (s0 : Int32) (h : Hp), run 11 1120 41 [l0, l1, l2, l3, l4] [vi s0] h = run 11 1120 42 [l0, l1, l2, l3, l4] [vi (1 : Int32), vi s0] h) ∧
  (∀ (l0 l1 l2 l3 l4 : Option AV) (s0 : Int32) (s1 : Int32) (h : Hp), run 11 1120 42 [l0, l1, l2, l3, l4] [vi s0, vi s1] h = if s1 = s0 then run 11 1120 52 [l0, l1, l2, l3, l4] [] h else run 11 1120 45 [l0, l1, l2, l3, l4] [] h) ∧
  (∀ (l0 l1 l2 l3 : Option AV) (w : Int32) (h : Hp), run 11 1120 45 [l0, l1, l2, l3, some (vi w)] [] h = run 11 1120 47 [l0, l1, l2, l3, some (vi w)] [vi w] h) ∧
  (∀ (l0 l1 l2 l3 l4 : Option AV) (s0 : Int32) (h : Hp), run 11 1120 47 [l0, l1, l2, l3, l4] [vi s0] h = run 11 1120 49 [l0, l1, l2, l3, l4] [vi (-9 : Int32), vi s0] h) ∧
  (∀ (l0 l1 l2 l3 l4 : Option AV) (s0 : Int32) (s1 : Int32) (h : Hp), run 11 1120 49 [l0, l1, l2, l3, l4] [vi s0, vi s1] h = if s1 = s0 then run 11 1120 52 [l0, l1, l2, l3, l4] [] h else run 11 1120 57 [l0, l1, l2, l3, l4] [] h) ∧
  (∀ (l0 l1 l2 l3 : Option AV) (w : Int32) (h : Hp), run 11 1120 52 [l0, l1, l2, l3, some (vi w)] [] h = run 11 1120 54 [l0, l1, l2, l3, some (vi w)] [vi w] h) ∧
  (∀ (l0 l1 l2 l3 l4 : Option AV) (s0 : Int32) (h : Hp), run 11 1120 54 [l0, l1, l2, l3, l4] [vi s0] h = run 11 1120 62 [l0, l1, l2, l3, l4] [vi s0] h) ∧
  (∀ (l0 l1 l2 l3 : Option AV) (w : Int32) (h : Hp), run 11 1120 57 [l0, l1, l2, l3, some (vi w)] [] h = run 11 1120 59 [l0, l1, l2, l3, some (vi w)] [vi w] h) ∧
  (∀ (l0 l1 l2 l3 l4 : Option AV) (s0 : Int32) (h : Hp), run 11 1120 59 [l0, l1, l2, l3, l4] [vi s0] h = (call 1300 [vi s0] h).bind (fun z => run 11 1120 62 [l0, l1, l2, l3, l4] (z.1.toList ++ []) z.2)) ∧
  (∀ (l0 l1 l2 l3 l4 : Option AV) (s0 : Int32) (h : Hp), run 11 1120 62 [l0, l1, l2, l3, l4] [vi s0] h = some (some (vi s0), h)) := ⟨(fun _ _ _ _ _ _ => run_next rfl rfl),
  (fun _ _ _ _ _ s0 _ => run_next rfl rfl),
  (fun _ _ _ _ _ s0 _ _ => run_next rfl rfl),
  (fun _ _ _ _ _ s0 _ _ _ => run_calx rfl rfl (Nat.le_of_ble_eq_true rfl) (Nat.le_of_ble_eq_true rfl) rfl),
  (fun _ _ _ _ s0 _ => run_next rfl rfl),
  (fun _ _ _ _ s0 _ _ => run_next rfl rfl),
  (fun _ _ _ _ s0 _ _ => run_next rfl rfl),
  (fun _ _ _ _ _ _ => run_next rfl rfl),
  (fun _ _ _ _ _ s0 _ => run_if rfl rfl (run_next rfl) (run_next rfl)),
  (fun _ _ _ _ _ _ => run_next rfl rfl),
  (fun _ _ _ _ _ s0 _ => run_next rfl rfl),
  (fun _ _ _ _ _ s0 _ _ => run_calx rfl rfl (Nat.le_of_ble_eq_true rfl) (Nat.le_of_ble_eq_true rfl) rfl),
  (fun _ _ _ _ s0 _ => run_next rfl rfl),
  (fun _ _ _ _ s0 _ _ => run_next rfl rfl),
  (fun _ _ _ _ s0 _ _ => run_next rfl rfl),
  (fun _ _ _ _ _ _ => run_next rfl rfl),
  (fun _ _ _ _ _ s0 _ => run_if rfl rfl (run_next rfl) (run_next rfl)),
  (fun _ _ _ _ _ _ => run_next rfl rfl),
  (fun _ _ _ _ s0 _ _ => run_next rfl rfl),
  (fun _ _ _ _ _ s0 _ _ _ => run_calx rfl rfl (Nat.le_of_ble_eq_true rfl) (Nat.le_of_ble_eq_true rfl) rfl),
  (fun _ _ _ _ _ s0 _ => run_ret rfl rfl),
  (fun _ _ _ _ _ _ => run_next rfl rfl),
  (fun _ _ _ _ _ _ _ _ => run_next rfl rfl),
  (fun _ _ _ _ _ _ _ _ => run_next rfl rfl),
  (fun _ _ _ _ s0 _ _ => run_next rfl rfl),
  (fun _ _ _ _ _ s0 _ _ _ => run_calx rfl rfl (Nat.le_of_ble_eq_true rfl) (Nat.le_of_ble_eq_true rfl) rfl),
  (fun _ _ _ _ s0 _ => run_next rfl rfl),
  (fun _ _ _ _ s0 _ _ => run_next rfl rfl),
  (fun _ _ _ _ s0 _ _ => run_next rfl rfl),
  (fun _ _ _ _ _ _ => run_next rfl rfl),
  (fun _ _ _ _ _ s0 _ => run_next rfl rfl),
  (fun _ _ _ _ _ s0 _ _ => run_if rfl rfl (run_next rfl) (run_next rfl)),
  (fun _ _ _ _ _ _ => run_next rfl rfl),
  (fun _ _ _ _ _ s0 _ => run_next rfl rfl),
  (fun _ _ _ _ _ s0 _ _ => run_if rfl rfl (run_next rfl) (run_next rfl)),
  (fun _ _ _ _ _ _ => run_next rfl rfl),
  (fun _ _ _ _ _ s0 _ => run_next rfl rfl),
  (fun _ _ _ _ _ _ => run_next rfl rfl),
  (fun _ _ _ _ _ s0 _ => run_calx rfl rfl (Nat.le_of_ble_eq_true rfl) (Nat.le_of_ble_eq_true rfl) rfl),
  (fun _ _ _ _ _ s0 _ => run_ret rfl rfl)⟩
theorem e_1120 (v : Option Rf) (a0 : Int32) (a1 : Int32) (h : Hp) : call 1120 [vo v, vi a0, vi a1] h = run 11 1120 0 [some (vo v), some (vi a0), some (vi a1), none, none] [] h := rfl
set_option maxRecDepth 20000 in
theorem x_1121 : (∀ (l0 l2 : Option AV) (w : Int32) (h : Hp), run 1 1121 0 [l0, some (vi w), l2] [] h = run 1 1121 1 [l0, some (vi w), l2] [vi w] h) ∧
  (∀ (l0 l1 l2 : Option AV) (s0 : Int32) (h : Hp), run 1 1121 1 [l0, l1, l2] [vi s0] h = run 1 1121 2 [l0, l1, l2] [vi (0 : Int32), vi s0] h) ∧
  (∀ (l0 l1 l2 : Option AV) (s0 : Int32) (s1 : Int32) (h : Hp), run 1 1121 2 [l0, l1, l2] [vi s0, vi s1] h = run 1 1121 4 [l0, l1, l2] [vi (29 : Int32), vi s0, vi s1] h) ∧
  (∀ (l0 l1 l2 : Option AV) (s0 : Int32) (s1 : Int32) (s2 : Int32) (h : Hp), run 1 1121 4 [l0, l1, l2] [vi s0, vi s1, vi s2] h = (call 1129 [vi s2, vi s1, vi s0] h).bind (fun z => run 1 1121 7 [l0, l1, l2] (z.1.toList ++ []) z.2)) ∧
  (∀ (l0 l2 : Option AV) (s0 : Int32) (h : Hp), run 1 1121 7 [l0, none, l2] [vi s0] h = run 1 1121 8 [l0, none, some (vi s0)] [] h) ∧
  (∀ (l0 l2 : Option AV) (s0 : Int32) (w1 : Int32) (h : Hp), run 1 1121 7 [l0, some (vi w1), l2] [vi s0] h = run 1 1121 8 [l0, some (vi w1), some (vi s0)] [] h) ∧
  (∀ (l0 l2 : Option AV) (s0 : Int32) (w1 : Option Rf) (h : Hp), run 1 1121 7 [l0, some (vo w1), l2] [vi s0] h = run 1 1121 8 [l0, some (vo w1), some (vi s0)] [] h) ∧
  (∀ (l0 l1 : Option AV) (w : Int32) (h : Hp), run 1 1121 8 [l0, l1, some (vi w)] [] h = run 1 1121 9 [l0, l1, some (vi w)] [vi w] h) ∧
  (∀ (l0 l1 l2 : Option AV) (s0 : Int32) (h : Hp), run 1 1121 9 [l0, l1, l2] [vi s0] h = if s0 = 0 then run 1 1121 12 [l0, l1, l2] [] h else run 1 1121 27 [l0, l1, l2] [] h) ∧
  (∀ (l1 l2 : Option AV) (w : Option Rf) (h : Hp), run 1 1121 12 [some (vo w), l1, l2] [] h = run 1 1121 13 [some (vo w), l1, l2] [vo w] h) ∧
  (∀ (l0 l1 l2 : Option AV) (o z : Nat) (h : Hp), run 1 1121 13 [l0, l1, l2] [vo (some (o, 11, z))] h = run 1 1121 16 [l0, l1, l2] [vi (hI h o 8)] h) ∧
  (∀ (l1 l2 : Option AV) (s0 : Int32) (w : Option Rf) (h : Hp), run 1 1121 16 [some (vo w), l1, l2] [vi s0] h = run 1 1121 17 [some (vo w), l1, l2] [vo w, vi s0] h) ∧
  (∀ (l0 l1 l2 : Option AV) (s1 : Int32) (o z : Nat) (h : Hp), run 1 1121 17 [l0, l1, l2] [vo (some (o, 11, z)), vi s1] h = run 1 1121 20 [l0, l1, l2] [vo (hR h o 7), vi s1] h) ∧
  (∀ (l0 l1 l2 : Option AV) (s1 : Int32) (o z : Nat) (h : Hp), run 1 1121 20 [l0, l1, l2] [vo (some (o, 13, z)), vi s1] h = run 1 1121 21 [l0, l1, l2] [vi (Int32.ofNat z), vi s1] h) ∧
  (∀ (l0 l1 l2 : Option AV) (s1 : Int32) (o z : Nat) (h : Hp), run 1 1121 20 [l0, l1, l2] [vo (some (o, 14, z)), vi s1] h = run 1 1121 21 [l0, l1, l2] [vi (Int32.ofNat z), vi s1] h) ∧
  (∀ (l0 l1 l2 : Option AV) (s1 : Int32) (o z : Nat) (h : Hp), run 1 1121 20 [l0, l1, l2] [vo (some (o, 15, z)), vi s1] h = run 1 1121 21 [l0, l1, l2] [vi (Int32.ofNat z), vi s1] h) ∧
  (∀ (l0 l1 l2 : Option AV) (s0 : Int32) (s1 : Int32) (h : Hp), run 1 1121 21 [l0, l1, l2] [vi s0, vi s1] h = if s1 < s0 then run 1 1121 27 [l0, l1, l2] [] h else run 1 1121 24 [l0, l1, l2] [] h) ∧
  (∀ (l0 l1 l2 : Option AV) (h : Hp), run 1 1121 24 [l0, l1, l2] [] h = run 1 1121 26 [l0, l1, l2] [vi (-6 : Int32)] h) ∧
  (∀ (l0 l2 : Option AV) (s0 : Int32) (h : Hp), run 1 1121 26 [l0, none, l2] [vi s0] h = run 1 1121 27 [l0, none, some (vi s0)] [] h) ∧
  (∀ (l0 l2 : Option AV) (s0 : Int32) (w1 : Int32) (h : Hp), run 1 1121 26 [l0, some (vi w1), l2] [vi s0] h = run 1 1121 27 [l0, some (vi w1), some (vi s0)] [] h) ∧
  (∀ (l0 l2 : Option AV) (s0 : Int32) (w1 : Option Rf) (h : Hp), run 1 1121 26 [l0, some (vo w1), l2] [vi s0] h = run 1 1121 27 [l0, some (vo w1), some (vi s0)] [] h) ∧
  (∀ (l0 l1 : Option AV) (w : Int32) (h : Hp), run 1 1121 27 [l0, l1, some (vi w)] [] h = run 1 1121 28 [l0, l1, some (vi w)] [vi w] h) ∧
  (∀ (l0 l1 l2 : Option AV) (s0 : Int32) (h : Hp), run 1 1121 28 [l0, l1, l2] [vi s0] h = if s0 = 0 then run 1 1121 37 [l0, l1, l2] [] h else run 1 1121 31 [l0, l1, l2] [] h) ∧
  (∀ (l1 l2 : Option AV) (w : Option Rf) (h : Hp), run 1 1121 31 [some (vo w), l1, l2] [] h = run 1 1121 32 [some (vo w), l1, l2] [vo w] h) ∧
  (∀ (l0 l1 : Option AV) (s0 : Option Rf) (w : Int32) (h : Hp), run 1 1121 32 [l0, l1, some (vi w)] [vo s0] h = run 1 1121 33 [l0, l1, some (vi w)] [vi w, vo s0] h) ∧
  (∀ (l0 l1 l2 : Option AV) (s0 : Int32) (o z : Nat) (h : Hp), run 1 1121 33 [l0, l1, l2] [vi s0, vo (some (o, 11, z))] h = (call 1128 [vo (some (o, 11, z)), vi s0] h).bind (fun z => run 1 1121 36 [l0, l1, l2] (z.1.toList ++ []) z.2)) ∧
  (∀ (l0 l1 l2 : Option AV) (s0 : Int32) (h : Hp), run 1 1121 36 [l0, l1, l2] [vi s0] h = some (some (vi s0), h)) ∧
  (∀ (l1 l2 : Option AV) (w : Option Rf) (h : Hp), run 1 1121 37 [some (vo w), l1, l2] [] h = run 1 1121 38 [some (vo w), l1, l2] [vo w] h) ∧
  (∀ (l0 l1 l2 : Option AV) (o z : Nat) (h : Hp), run 1 1121 38 [l0, l1, l2] [vo (some (o, 11, z))] h = run 1 1121 41 [l0, l1, l2] [vo (hR h o 7)] h) ∧
  (∀ (l1 l2 : Option AV) (s0 : Option Rf) (w : Option Rf) (h : Hp), run 1 1121 41 [some (vo w), l1, l2] [vo s0] h = run 1 1121 42 [some (vo w), l1, l2] [vo w, vo s0] h) ∧
  (∀ (l0 l1 l2 : Option AV) (s1 : Option Rf) (o z : Nat) (h : Hp), run 1 1121 42 [l0, l1, l2] [vo (some (o, 11, z)), vo s1] h = run 1 1121 45 [l0, l1, l2] [vi (hI h o 8), vo s1] h) ∧
  (∀ (l0 l2 : Option AV) (s0 : Int32) (s1 : Option Rf) (w : Int32) (h : Hp), run 1 1121 45 [l0, some (vi w), l2] [vi s0, vo s1] h = run 1 1121 46 [l0, some (vi w), l2] [vi w, vi s0, vo s1] h) ∧
  (∀ (l0 l1 l2 : Option AV) (s0 : Int32) (s1 : Int32) (o z : Nat) (h : Hp), run 1 1121 46 [l0, l1, l2] [vi s0, vi s1, vo (some (o, 13, z))] h = if s1 < 0 ∨ z ≤ s1.toNatClampNeg then none else run 1 1121 47 [l0, l1, l2] [] (hsI h o s1.toNatClampNeg s0)) ∧
  (∀ (l1 l2 : Option AV) (w : Option Rf) (h : Hp), run 1 1121 47 [some (vo w), l1, l2] [] h = run 1 1121 48 [some (vo w), l1, l2] [vo w] h) ∧
  (∀ (l0 l1 l2 : Option AV) (s0 : Option Rf) (h : Hp), run 1 1121 48 [l0, l1, l2] [vo s0] h = run 1 1121 49 [l0, l1, l2] [vo s0, vo s0] h) ∧
  (∀ (l0 l1 l2 : Option AV) (s1 : Option Rf) (o z : Nat) (h : Hp), run 1 1121 49 [l0, l1, l2] [vo (some (o, 11, z)), vo s1] h = run 1 1121 52 [l0, l1, l2] [vi (hI h o 8), vo s1] h) ∧
  (∀ (l0 l1 l2 : Option AV) (s0 : Int32) (s1 : Option Rf) (h : Hp), run 1 1121 52 [l0, l1, l2] [vi s0, vo s1] h = run 1 1121 53 [l0, l1, l2] [vi (1 : Int32), vi s0, vo s1] h) ∧
  (∀ (l0 l1 l2 : Option AV) (s0 : Int32) (s1 : Int32) (s2 : Option Rf) (h : Hp), run 1 1121 53 [l0, l1, l2] [vi s0, vi s1, vo s2] h = run 1 1121 54 [l0, l1, l2] [vi (s1 + s0), vo s2] h) ∧
  (∀ (l0 l1 l2 : Option AV) (s0 : Int32) (o z : Nat) (h : Hp), run 1 1121 54 [l0, l1, l2] [vi s0, vo (some (o, 11, z))] h = run 1 1121 57 [l0, l1, l2] [] (hsI h o 8 s0)) ∧
  (∀ (l1 l2 : Option AV) (w : Option Rf) (h : Hp), run 1 1121 57 [some (vo w), l1, l2] [] h = run 1 1121 58 [some (vo w), l1, l2] [vo w] h) ∧
  (∀ (l0 l1 l2 : Option AV) (o z : Nat) (h : Hp), run 1 1121 58 [l0, l1, l2] [vo (some (o, 11, z))] h = run 1 1121 61 [l0, l1, l2] [vi (hI h o 8)] h) ∧
  (∀ (l0 l1 l2 : Option AV) (s0 : Int32) (h : Hp), run 1 1121 61 [l0, l1, l2] [vi s0] h = some (some (vi s0), h)) := ⟨(fun _ _ _ _ => run_next rfl rfl),
  (fun _ _ _ s0 _ => run_next rfl rfl),
  (fun _ _ _ s0 _ _ => run_next rfl rfl),
  (fun _ _ _ s0 _ _ _ => run_calx rfl rfl (Nat.le_of_ble_eq_true rfl) (Nat.le_of_ble_eq_true rfl) rfl),
  (fun _ _ s0 _ => run_next rfl rfl),
  (fun _ _ s0 _ _ => run_next rfl rfl),
  (fun _ _ s0 _ _ => run_next rfl rfl),
  (fun _ _ _ _ => run_next rfl rfl),
  (fun _ _ _ s0 _ => run_if rfl rfl (run_next rfl) (run_next rfl)),
  (fun _ _ _ _ => run_next rfl rfl),
  (fun _ _ _ _ _ _ => run_next rfl rfl),
  (fun _ _ s0 _ _ => run_next rfl rfl),
  (fun _ _ _ _ _ _ _ => run_next rfl rfl),
  (fun _ _ _ _ _ _ _ => run_next rfl rfl),
  (fun _ _ _ _ _ _ _ => run_next rfl rfl),
  (fun _ _ _ _ _ _ _ => run_next rfl rfl),
  (fun _ _ _ s0 _ _ => run_if rfl rfl (run_next rfl) (run_next rfl)),
  (fun _ _ _ _ => run_next rfl rfl),
  (fun _ _ s0 _ => run_next rfl rfl),
  (fun _ _ s0 _ _ => run_next rfl rfl),
  (fun _ _ s0 _ _ => run_next rfl rfl),
  (fun _ _ _ _ => run_next rfl rfl),
  (fun _ _ _ s0 _ => run_if rfl rfl (run_next rfl) (run_next rfl)),
  (fun _ _ _ _ => run_next rfl rfl),
  (fun _ _ s0 _ _ => run_next rfl rfl),
  (fun _ _ _ s0 _ _ _ => run_calx rfl rfl (Nat.le_of_ble_eq_true rfl) (Nat.le_of_ble_eq_true rfl) rfl),
  (fun _ _ _ s0 _ => run_ret rfl rfl),
  (fun _ _ _ _ => run_next rfl rfl),
  (fun _ _ _ _ _ _ => run_next rfl rfl),
  (fun _ _ s0 _ _ => run_next rfl rfl),
  (fun _ _ _ _ _ _ _ => run_next rfl rfl),
  (fun _ _ s0 _ _ _ => run_next rfl rfl),
  (fun _ _ _ s0 _ _ _ _ => run_if rfl rfl (run_fail rfl) (run_next rfl)),
  (fun _ _ _ _ => run_next rfl rfl),
  (fun _ _ _ s0 _ => run_next rfl rfl),
  (fun _ _ _ _ _ _ _ => run_next rfl rfl),
  (fun _ _ _ s0 _ _ => run_next rfl rfl),
  (fun _ _ _ s0 _ _ _ => run_next rfl rfl),
  (fun _ _ _ s0 _ _ _ => run_next rfl rfl),
  (fun _ _ _ _ => run_next rfl rfl),
  (fun _ _ _ _ _ _ => run_next rfl rfl),
  (fun _ _ _ s0 _ => run_ret rfl rfl)⟩
theorem e_1121 (v : Option Rf) (a0 : Int32) (h : Hp) : call 1121 [vo v, vi a0] h = run 1 1121 0 [some (vo v), some (vi a0), none] [] h := rfl
set_option maxRecDepth 20000 in
theorem x_1122 : (∀ (l1 l2 l3 l4 : Option AV) (w : Option Rf) (h : Hp), run 6 1122 0 [some (vo w), l1, l2, l3, l4] [] h = run 6 1122 1 [some (vo w), l1, l2, l3, l4] [vo w] h) ∧
  (∀ (l0 l2 l3 l4 : Option AV) (s0 : Option Rf) (w : Int32) (h : Hp), run 6 1122 1 [l0, some (vi w), l2, l3, l4] [vo s0] h = run 6 1122 2 [l0, some (vi w), l2, l3, l4] [vi w, vo s0] h) ∧
  (∀ (l0 l1 l2 l3 l4 : Option AV) (s0 : Int32) (o z : Nat) (h : Hp), run 6 1122 2 [l0, l1, l2, l3, l4] [vi s0, vo (some (o, 11, z))] h = (call 1131 [vo (some (o, 11, z)), vi s0] h).bind (fun z => run 6 1122 5 [l0, l1, l2, l3, l4] (z.1.toList ++ []) z.2)) ∧
  (∀ (l0 l2 l3 l4 : Option AV) (s0 : Int32) (h : Hp), run 6 1122 5 [l0, none, l2, l3, l4] [vi s0] h = run 6 1122 6 [l0, none, some (vi s0), l3, l4] [] h) ∧
  (∀ (l0 l2 l3 l4 : Option AV) (s0 : Int32) (w1 : Int32) (h : Hp), run 6 1122 5 [l0, some (vi w1), l2, l3, l4] [vi s0] h = run 6 1122 6 [l0, some (vi w1), some (vi s0), l3, l4] [] h) ∧
  (∀ (l0 l2 l3 l4 : Option AV) (s0 : Int32) (w1 : Option Rf) (h : Hp), run 6 1122 5 [l0, some (vo w1), l2, l3, l4] [vi s0] h = run 6 1122 6 [l0, some (vo w1), some (vi s0), l3, l4] [] h) ∧
  (∀ (l0 l1 l3 l4 : Option AV) (w : Int32) (h : Hp), run 6 1122 6 [l0, l1, some (vi w), l3, l4] [] h = run 6 1122 7 [l0, l1, some (vi w), l3, l4] [vi w] h) ∧
  (∀ (l0 l1 l2 l3 l4 : Option AV) (s0 : Int32) (h : Hp), run 6 1122 7 [l0, l1, l2, l3, l4] [vi s0] h = if s0 = 0 then run 6 1122 16 [l0, l1, l2, l3, l4] [] h else run 6 1122 10 [l0, l1, l2, l3, l4] [] h) ∧
  (∀ (l1 l2 l3 l4 : Option AV) (w : Option Rf) (h : Hp), run 6 1122 10 [some (vo w), l1, l2, l3, l4] [] h = run 6 1122 11 [some (vo w), l1, l2, l3, l4] [vo w] h) ∧
  (∀ (l0 l1 l3 l4 : Option AV) (s0 : Option Rf) (w : Int32) (h : Hp), run 6 1122 11 [l0, l1, some (vi w), l3, l4] [vo s0] h = run 6 1122 12 [l0, l1, some (vi w), l3, l4] [vi w, vo s0] h) ∧
  (∀ (l0 l1 l2 l3 l4 : Option AV) (s0 : Int32) (o z : Nat) (h : Hp), run 6 1122 12 [l0, l1, l2, l3, l4] [vi s0, vo (some (o, 11, z))] h = (call 1128 [vo (some (o, 11, z)), vi s0] h).bind (fun z => run 6 1122 15 [l0, l1, l2, l3, l4] (z.1.toList ++ []) z.2)) ∧
  (∀ (l0 l1 l2 l3 l4 : Option AV) (s0 : Int32) (h : Hp), run 6 1122 15 [l0, l1, l2, l3, l4] [vi s0] h = some (some (vi s0), h)) ∧
  (∀ (l1 l2 l3 l4 : Option AV) (w : Option Rf) (h : Hp), run 6 1122 16 [some (vo w), l1, l2, l3, l4] [] h = run 6 1122 17 [some (vo w), l1, l2, l3, l4] [vo w] h) ∧
  (∀ (l0 l1 l2 l3 l4 : Option AV) (o z : Nat) (h : Hp), run 6 1122 17 [l0, l1, l2, l3, l4] [vo (some (o, 11, z))] h = run 6 1122 20 [l0, l1, l2, l3, l4] [vo (hR h o 0)] h) ∧
  (∀ (l1 l2 l3 l4 : Option AV) (s0 : Option Rf) (w : Option Rf) (h : Hp), run 6 1122 20 [some (vo w), l1, l2, l3, l4] [vo s0] h = run 6 1122 21 [some (vo w), l1, l2, l3, l4] [vo w, vo s0] h) ∧
  (∀ (l0 l1 l2 l3 l4 : Option AV) (s1 : Option Rf) (o z : Nat) (h : Hp), run 6 1122 21 [l0, l1, l2, l3, l4] [vo (some (o, 11, z)), vo s1] h = run 6 1122 24 [l0, l1, l2, l3, l4] [vi (hI h o 8), vo s1] h) ∧
  (∀ (l0 l1 l2 l3 l4 : Option AV) (s0 : Int32) (o z : Nat) (h : Hp), run 6 1122 24 [l0, l1, l2, l3, l4] [vi s0, vo (some (o, 10, z))] h = (call 1010 [vo (some (o, 10, z)), vi s0] h).bind (fun z => run 6 1122 27 [l0, l1, l2, l3, l4] (z.1.toList ++ []) z.2)) ∧
  (∀ (l0 l1 l2 l3 l4 : Option AV) (h : Hp), run 6 1122 27 [l0, l1, l2, l3, l4] [] h = run 6 1122 29 [l0, l1, l2, l3, l4] [vi (-9 : Int32)] h) ∧
  (∀ (l0 l1 l3 l4 : Option AV) (s0 : Int32) (h : Hp), run 6 1122 29 [l0, l1, none, l3, l4] [vi s0] h = run 6 1122 30 [l0, l1, none, some (vi s0), l4] [] h) ∧
  (∀ (l0 l1 l3 l4 : Option AV) (s0 : Int32) (w1 : Int32) (h : Hp), run 6 1122 29 [l0, l1, some (vi w1), l3, l4] [vi s0] h = run 6 1122 30 [l0, l1, some (vi w1), some (vi s0), l4] [] h) ∧
  (∀ (l0 l1 l3 l4 : Option AV) (s0 : Int32) (w1 : Option Rf) (h : Hp), run 6 1122 29 [l0, l1, some (vo w1), l3, l4] [vi s0] h = run 6 1122 30 [l0, l1, some (vo w1), some (vi s0), l4] [] h) ∧
  (∀ (l1 l2 l3 l4 : Option AV) (w : Option Rf) (h : Hp), run 6 1122 30 [some (vo w), l1, l2, l3, l4] [] h = run 6 1122 31 [some (vo w), l1, l2, l3, l4] [vo w] h) ∧
  (∀ (l0 l1 l2 l3 l4 : Option AV) (o z : Nat) (h : Hp), run 6 1122 31 [l0, l1, l2, l3, l4] [vo (some (o, 11, z))] h = run 6 1122 34 [l0, l1, l2, l3, l4] [vi (hI h o 8)] h) ∧
  (∀ (l0 l1 l2 l3 l4 : Option AV) (s0 : Int32) (h : Hp), run 6 1122 34 [l0, l1, l2, l3, l4] [vi s0] h = run 6 1122 35 [l0, l1, l2, l3, l4] [vi (1 : Int32), vi s0] h) ∧
  (∀ (l0 l1 l2 l3 l4 : Option AV) (s0 : Int32) (s1 : Int32) (h : Hp), run 6 1122 35 [l0, l1, l2, l3, l4] [vi s0, vi s1] h = run 6 1122 36 [l0, l1, l2, l3, l4] [vi (s1 - s0)] h) ∧
  (∀ (l0 l1 l2 l4 : Option AV) (s0 : Int32) (h : Hp), run 6 1122 36 [l0, l1, l2, none, l4] [vi s0] h = run 6 1122 38 [l0, l1, l2, none, some (vi s0)] [] h) ∧
  (∀ (l0 l1 l2 l4 : Option AV) (s0 : Int32) (w1 : Int32) (h : Hp), run 6 1122 36 [l0, l1, l2, some (vi w1), l4] [vi s0] h = run 6 1122 38 [l0, l1, l2, some (vi w1), some (vi s0)] [] h) ∧
  (∀ (l0 l1 l2 l4 : Option AV) (s0 : Int32) (w1 : Option Rf) (h : Hp), run 6 1122 36 [l0, l1, l2, some (vo w1), l4] [vi s0] h = run 6 1122 38 [l0, l1, l2, some (vo w1), some (vi s0)] [] h) ∧
  (∀ (l0 l1 l2 l3 l4 : Option AV) (s0 : Int32) (h : Hp), run 6 1122 40 [l0, l1, l2, l3, l4] [vi s0] h = if s0 < 0 then run 6 1122 80 [l0, l1, l2, l3, l4] [] h else run 6 1122 43 [l0, l1, l2, l3, l4] [] h) ∧
  (∀ (l1 l2 l3 l4 : Option AV) (w : Option Rf) (h : Hp), run 6 1122 43 [some (vo w), l1, l2, l3, l4] [] h = run 6 1122 44 [some (vo w), l1, l2, l3, l4] [vo w] h) ∧
  (∀ (l0 l1 l2 l3 l4 : Option AV) (o z : Nat) (h : Hp), run 6 1122 44 [l0, l1, l2, l3, l4] [vo (some (o, 11, z))] h = run 6 1122 47 [l0, l1, l2, l3, l4] [vo (hR h o 7)] h) ∧
  (∀ (l0 l1 l2 l3 : Option AV) (s0 : Option Rf) (w : Int32) (h : Hp), run 6 1122 47 [l0, l1, l2, l3, some (vi w)] [vo s0] h = run 6 1122 49 [l0, l1, l2, l3, some (vi w)] [vi w, vo s0] h) ∧
  (∀ (l0 l1 l2 l3 l4 : Option AV) (s0 : Int32) (o z : Nat) (h : Hp), run 6 1122 49 [l0, l1, l2, l3, l4] [vi s0, vo (some (o, 13, z))] h = if s0 < 0 ∨ z ≤ s0.toNatClampNeg then none else run 6 1122 50 [l0, l1, l2, l3, l4] [vi (hI h o s0.toNatClampNeg)] h) ∧
  (∀ (l1 l2 l3 l4 : Option AV) (s0 : Int32) (w : Option Rf) (h : Hp), run 6 1122 50 [some (vo w), l1, l2, l3, l4] [vi s0] h = run 6 1122 51 [some (vo w), l1, l2, l3, l4] [vo w, vi s0] h) ∧
  (∀ (l0 l1 l2 l3 l4 : Option AV) (s1 : Int32) (o z : Nat) (h : Hp), run 6 1122 51 [l0, l1, l2, l3, l4] [vo (some (o, 11, z)), vi s1] h = run 6 1122 54 [l0, l1, l2, l3, l4] [vo (hR h o 0), vi s1] h) ∧
  (∀ (l0 l2 l3 l4 : Option AV) (s0 : Option Rf) (s1 : Int32) (w : Int32) (h : Hp), run 6 1122 54 [l0, some (vi w), l2, l3, l4] [vo s0, vi s1] h = run 6 1122 55 [l0, some (vi w), l2, l3, l4] [vi w, vo s0, vi s1] h) ∧
  (∀ (l1 l2 l3 l4 : Option AV) (s0 : Int32) (s1 : Option Rf) (s2 : Int32) (w : Option Rf) (h : Hp), run 6 1122 55 [some (vo w), l1, l2, l3, l4] [vi s0, vo s1, vi s2] h = run 6 1122 56 [some (vo w), l1, l2, l3, l4] [vo w, vi s0, vo s1, vi s2] h) ∧
  (∀ (l0 l1 l2 l3 l4 : Option AV) (s1 : Int32) (s2 : Option Rf) (s3 : Int32) (o z : Nat) (h : Hp), run 6 1122 56 [l0, l1, l2, l3, l4] [vo (some (o, 11, z)), vi s1, vo s2, vi s3] h = run 6 1122 59 [l0, l1, l2, l3, l4] [vo (hR h o 0), vi s1, vo s2, vi s3] h) ∧
  (∀ (l0 l1 l2 l3 l4 : Option AV) (s1 : Int32) (s2 : Option Rf) (s3 : Int32) (o z : Nat) (h : Hp), run 6 1122 59 [l0, l1, l2, l3, l4] [vo (some (o, 10, z)), vi s1, vo s2, vi s3] h = run 6 1122 62 [l0, l1, l2, l3, l4] [vi (hI h o 2), vi s1, vo s2, vi s3] h) ∧
  (∀ (l0 l1 l2 l3 : Option AV) (s0 : Int32) (s1 : Int32) (s2 : Option Rf) (s3 : Int32) (w : Int32) (h : Hp), run 6 1122 62 [l0, l1, l2, l3, some (vi w)] [vi s0, vi s1, vo s2, vi s3] h = run 6 1122 64 [l0, l1, l2, l3, some (vi w)] [vi w, vi s0, vi s1, vo s2, vi s3] h) ∧
  (∀ (l0 l1 l2 l3 l4 : Option AV) (s0 : Int32) (s1 : Int32) (s2 : Int32) (s3 : Option Rf) (s4 : Int32) (h : Hp), run 6 1122 64 [l0, l1, l2, l3, l4] [vi s0, vi s1, vi s2, vo s3, vi s4] h = run 6 1122 65 [l0, l1, l2, l3, l4] [vi (s1 + s0), vi s2, vo s3, vi s4] h) ∧
  (∀ (l0 l1 l2 l3 l4 : Option AV) (s0 : Int32) (s1 : Int32) (s3 : Int32) (o z : Nat) (h : Hp), run 6 1122 65 [l0, l1, l2, l3, l4] [vi s0, vi s1, vo (some (o, 10, z)), vi s3] h = (call 1006 [vo (some (o, 10, z)), vi s1, vi s0] h).bind (fun z => run 6 1122 68 [l0, l1, l2, l3, l4] (z.1.toList ++ [vi s3]) z.2)) ∧
  (∀ (l0 l1 l2 l3 l4 : Option AV) (s0 : Int32) (s1 : Int32) (h : Hp), run 6 1122 68 [l0, l1, l2, l3, l4] [vi s0, vi s1] h = if s1 = s0 then run 6 1122 74 [l0, l1, l2, l3, l4] [] h else run 6 1122 71 [l0, l1, l2, l3, l4] [] h) ∧
  (∀ (l0 l1 l2 l3 : Option AV) (w : Int32) (h : Hp), run 6 1122 71 [l0, l1, l2, l3, some (vi w)] [] h = run 6 1122 73 [l0, l1, l2, l3, some (vi w)] [vi w] h) ∧
  (∀ (l0 l1 l3 l4 : Option AV) (s0 : Int32) (h : Hp), run 6 1122 73 [l0, l1, none, l3, l4] [vi s0] h = run 6 1122 74 [l0, l1, none, some (vi s0), l4] [] h) ∧
  (∀ (l0 l1 l3 l4 : Option AV) (s0 : Int32) (w1 : Int32) (h : Hp), run 6 1122 73 [l0, l1, some (vi w1), l3, l4] [vi s0] h = run 6 1122 74 [l0, l1, some (vi w1), some (vi s0), l4] [] h) ∧
  (∀ (l0 l1 l3 l4 : Option AV) (s0 : Int32) (w1 : Option Rf) (h : Hp), run 6 1122 73 [l0, l1, some (vo w1), l3, l4] [vi s0] h = run 6 1122 74 [l0, l1, some (vo w1), some (vi s0), l4] [] h) ∧
  (∀ (l0 l1 l2 : Option AV) (w : Int32) (h : Hp), run 6 1122 74 [l0, l1, l2, none, some (vi w)] [] h = run 6 1122 77 [l0, l1, l2, none, some (vi (w + (-1 : Int32)))] [] h) ∧
  (∀ (l0 l1 l2 : Option AV) (w1 : Int32) (w : Int32) (h : Hp), run 6 1122 74 [l0, l1, l2, some (vi w1), some (vi w)] [] h = run 6 1122 77 [l0, l1, l2, some (vi w1), some (vi (w + (-1 : Int32)))] [] h) ∧
  (∀ (l0 l1 l2 : Option AV) (w1 : Option Rf) (w : Int32) (h : Hp), run 6 1122 74 [l0, l1, l2, some (vo w1), some (vi w)] [] h = run 6 1122 77 [l0, l1, l2, some (vo w1), some (vi (w + (-1 : Int32)))] [] h) ∧
  (∀ (l0 l1 l2 l3 l4 : Option AV) (h : Hp), run 6 1122 77 [l0, l1, l2, l3, l4] [] h = run 6 1122 38 [l0, l1, l2, l3, l4] [] h) ∧
  (∀ (l1 l2 l3 l4 : Option AV) (w : Option Rf) (h : Hp), run 6 1122 80 [some (vo w), l1, l2, l3, l4] [] h = run 6 1122 81 [some (vo w), l1, l2, l3, l4] [vo w] h) ∧
  (∀ (l0 l1 l2 l3 l4 : Option AV) (s0 : Option Rf) (h : Hp), run 6 1122 81 [l0, l1, l2, l3, l4] [vo s0] h = run 6 1122 82 [l0, l1, l2, l3, l4] [vi (0 : Int32), vo s0] h) ∧
  (∀ (l0 l1 l2 l3 l4 : Option AV) (s0 : Int32) (o z : Nat) (h : Hp), run 6 1122 82 [l0, l1, l2, l3, l4] [vi s0, vo (some (o, 11, z))] h = run 6 1122 85 [l0, l1, l2, l3, l4] [] (hsI h o 8 s0)) ∧
  (∀ (l0 l1 l2 l4 : Option AV) (w : Int32) (h : Hp), run 6 1122 85 [l0, l1, l2, some (vi w), l4] [] h = run 6 1122 86 [l0, l1, l2, some (vi w), l4] [vi w] h) ∧
  (∀ (l0 l1 l2 l3 l4 : Option AV) (s0 : Int32) (h : Hp), run 6 1122 86 [l0, l1, l2, l3, l4] [vi s0] h = some (some (vi s0), h)) := ⟨(fun _ _ _ _ _ _ => run_next rfl rfl),
  (fun _ _ _ _ s0 _ _ => run_next rfl rfl),
  (fun _ _ _ _ _ s0 _ _ _ => run_calx rfl rfl (Nat.le_of_ble_eq_true rfl) (Nat.le_of_ble_eq_true rfl) rfl),
  (fun _ _ _ _ s0 _ => run_next rfl rfl),
  (fun _ _ _ _ s0 _ _ => run_next rfl rfl),
  (fun _ _ _ _ s0 _ _ => run_next rfl rfl),
  (fun _ _ _ _ _ _ => run_next rfl rfl),
  (fun _ _ _ _ _ s0 _ => run_if rfl rfl (run_next rfl) (run_next rfl)),
  (fun _ _ _ _ _ _ => run_next rfl rfl),
  (fun _ _ _ _ s0 _ _ => run_next rfl rfl),
  (fun _ _ _ _ _ s0 _ _ _ => run_calx rfl rfl (Nat.le_of_ble_eq_true rfl) (Nat.le_of_ble_eq_true rfl) rfl),
  (fun _ _ _ _ _ s0 _ => run_ret rfl rfl),
  (fun _ _ _ _ _ _ => run_next rfl rfl),
  (fun _ _ _ _ _ _ _ _ => run_next rfl rfl),
  (fun _ _ _ _ s0 _ _ => run_next rfl rfl),
  (fun _ _ _ _ _ _ _ _ _ => run_next rfl rfl),
  (fun _ _ _ _ _ s0 _ _ _ => run_calx rfl rfl (Nat.le_of_ble_eq_true rfl) (Nat.le_of_ble_eq_true rfl) rfl),
  (fun _ _ _ _ _ _ => run_next rfl rfl),
  (fun _ _ _ _ s0 _ => run_next rfl rfl),
  (fun _ _ _ _ s0 _ _ => run_next rfl rfl),
  (fun _ _ _ _ s0 _ _ => run_next rfl rfl),
  (fun _ _ _ _ _ _ => run_next rfl rfl),
  (fun _ _ _ _ _ _ _ _ => run_next rfl rfl),
  (fun _ _ _ _ _ s0 _ => run_next rfl rfl),
  (fun _ _ _ _ _ s0 _ _ => run_next rfl rfl),
  (fun _ _ _ _ s0 _ => run_next rfl rfl),
  (fun _ _ _ _ s0 _ _ => run_next rfl rfl),
  (fun _ _ _ _ s0 _ _ => run_next rfl rfl),
  (fun _ _ _ _ _ s0 _ => run_if rfl rfl (run_next rfl) (run_next rfl)),
  (fun _ _ _ _ _ _ => run_next rfl rfl),
  (fun _ _ _ _ _ _ _ _ => run_next rfl rfl),
  (fun _ _ _ _ s0 _ _ => run_next rfl rfl),
  (fun _ _ _ _ _ s0 _ _ _ => run_if rfl rfl (run_fail rfl) (run_next rfl)),
  (fun _ _ _ _ s0 _ _ => run_next rfl rfl),
  (fun _ _ _ _ _ _ _ _ _ => run_next rfl rfl),
  (fun _ _ _ _ s0 _ _ _ => run_next rfl rfl),
  (fun _ _ _ _ s0 _ _ _ _ => run_next rfl rfl),
  (fun _ _ _ _ _ _ _ _ _ _ _ => run_next rfl rfl),
  (fun _ _ _ _ _ _ _ _ _ _ _ => run_next rfl rfl),
  (fun _ _ _ _ s0 _ _ _ _ _ => run_next rfl rfl),
  (fun _ _ _ _ _ s0 _ _ _ _ _ => run_next rfl rfl),
  (fun _ _ _ _ _ s0 _ _ _ _ _ => run_calx rfl rfl (Nat.le_of_ble_eq_true rfl) (Nat.le_of_ble_eq_true rfl) rfl),
  (fun _ _ _ _ _ s0 _ _ => run_if rfl rfl (run_next rfl) (run_next rfl)),
  (fun _ _ _ _ _ _ => run_next rfl rfl),
  (fun _ _ _ _ s0 _ => run_next rfl rfl),
  (fun _ _ _ _ s0 _ _ => run_next rfl rfl),
  (fun _ _ _ _ s0 _ _ => run_next rfl rfl),
  (fun _ _ _ _ _ => run_next rfl rfl),
  (fun _ _ _ _ _ _ => run_next rfl rfl),
  (fun _ _ _ _ _ _ => run_next rfl rfl),
  (fun _ _ _ _ _ _ => run_next rfl rfl),
  (fun _ _ _ _ _ _ => run_next rfl rfl),
  (fun _ _ _ _ _ s0 _ => run_next rfl rfl),
  (fun _ _ _ _ _ s0 _ _ _ => run_next rfl rfl),
  (fun _ _ _ _ _ _ => run_next rfl rfl),
  (fun _ _ _ _ _ s0 _ => run_ret rfl rfl)⟩
set_option maxRecDepth 20000 in
theorem x_1122_38 : (∀ (l0 l1 l2 l3 : Option AV) (w : Int32) (h : Hp), run 6 1122 38 [l0, l1, l2, l3, some (vi w)] [] h = run 6 1122 40 [l0, l1, l2, l3, some (vi w)] [vi w] h) := (fun _ _ _ _ _ _ => run_next rfl rfl)
theorem e_1122 (v : Option Rf) (a0 : Int32) (h : Hp) : call 1122 [vo v, vi a0] h = run 6 1122 0 [some (vo v), some (vi a0), none, none, none] [] h := rfl
set_option maxRecDepth 20000 in
theorem x_1123 : (∀ (l1 l2 l3 l4 l5 l6 l7 l8 l9 : Option AV) (w : Option Rf) (h : Hp), run 3 1123 0 [some (vo w), l1, l2, l3, l4, l5, l6, l7, l8, l9] [] h = run 3 1123 1 [some (vo w), l1, l2, l3, l4, l5, l6, l7, l8, l9] [vo w] h) ∧
  (∀ (l0 l2 l3 l4 l5 l6 l7 l8 l9 : Option AV) (s0 : Option Rf) (w : Int32) (h : Hp), run 3 1123 1 [l0, some (vi w), l2, l3, l4, l5, l6, l7, l8, l9] [vo s0] h = run 3 1123 2 [l0, some (vi w), l2, l3, l4, l5, l6, l7, l8, l9] [vi w, vo s0] h) ∧
  (∀ (l0 l1 l2 l3 l4 l5 l6 l7 l8 l9 : Option AV) (s0 : Int32) (o z : Nat) (h : Hp), run 3 1123 2 [l0, l1, l2, l3, l4, l5, l6, l7, l8, l9] [vi s0, vo (some (o, 11, z))] h = (call 1133 [vo (some (o, 11, z)), vi s0] h).bind (fun z => run 3 1123 5 [l0, l1, l2, l3, l4, l5, l6, l7, l8, l9] (z.1.toList ++ []) z.2)) ∧
  (∀ (l0 l1 l2 l3 l5 l6 l7 l8 l9 : Option AV) (s0 : Int32) (h : Hp), run 3 1123 5 [l0, l1, l2, l3, none, l5, l6, l7, l8, l9] [vi s0] h = run 3 1123 7 [l0, l1, l2, l3, none, some (vi s0), l6, l7, l8, l9] [] h) ∧
  (∀ (l0 l1 l2 l3 l5 l6 l7 l8 l9 : Option AV) (s0 : Int32) (w1 : Int32) (h : Hp), run 3 1123 5 [l0, l1, l2, l3, some (vi w1), l5, l6, l7, l8, l9] [vi s0] h = run 3 1123 7 [l0, l1, l2, l3, some (vi w1), some (vi s0), l6, l7, l8, l9] [] h) ∧
  (∀ (l0 l1 l2 l3 l5 l6 l7 l8 l9 : Option AV) (s0 : Int32) (w1 : Option Rf) (h : Hp), run 3 1123 5 [l0, l1, l2, l3, some (vo w1), l5, l6, l7, l8, l9] [vi s0] h = run 3 1123 7 [l0, l1, l2, l3, some (vo w1), some (vi s0), l6, l7, l8, l9] [] h) ∧
  (∀ (l0 l1 l2 l3 l4 l6 l7 l8 l9 : Option AV) (w : Int32) (h : Hp), run 3 1123 7 [l0, l1, l2, l3, l4, some (vi w), l6, l7, l8, l9] [] h = run 3 1123 9 [l0, l1, l2, l3, l4, some (vi w), l6, l7, l8, l9] [vi w] h) ∧
  (∀ (l0 l1 l2 l3 l4 l5 l6 l7 l8 l9 : Option AV) (s0 : Int32) (h : Hp), run 3 1123 9 [l0, l1, l2, l3, l4, l5, l6, l7, l8, l9] [vi s0] h = if s0 = 0 then run 3 1123 12 [l0, l1, l2, l3, l4, l5, l6, l7, l8, l9] [] h else run 3 1123 21 [l0, l1, l2, l3, l4, l5, l6, l7, l8, l9] [] h) ∧
  (∀ (l0 l1 l3 l4 l5 l6 l7 l8 l9 : Option AV) (w : Int32) (h : Hp), run 3 1123 12 [l0, l1, some (vi w), l3, l4, l5, l6, l7, l8, l9] [] h = run 3 1123 13 [l0, l1, some (vi w), l3, l4, l5, l6, l7, l8, l9] [vi w] h) ∧
  (∀ (l0 l1 l2 l3 l4 l5 l6 l7 l8 l9 : Option AV) (s0 : Int32) (h : Hp), run 3 1123 13 [l0, l1, l2, l3, l4, l5, l6, l7, l8, l9] [vi s0] h = run 3 1123 14 [l0, l1, l2, l3, l4, l5, l6, l7, l8, l9] [vi (1 : Int32), vi s0] h) ∧
  (∀ (l0 l1 l2 l3 l4 l5 l6 l7 l8 l9 : Option AV) (s0 : Int32) (s1 : Int32) (h : Hp), run 3 1123 14 [l0, l1, l2, l3, l4, l5, l6, l7, l8, l9] [vi s0, vi s1] h = run 3 1123 16 [l0, l1, l2, l3, l4, l5, l6, l7, l8, l9] [vi (60 : Int32), vi s0, vi s1] h) ∧
  (∀ (l0 l1 l2 l3 l4 l5 l6 l7 l8 l9 : Option AV) (s0 : Int32) (s1 : Int32) (s2 : Int32) (h : Hp), run 3 1123 16 [l0, l1, l2, l3, l4, l5, l6, l7, l8, l9] [vi s0, vi s1, vi s2] h = (call 1129 [vi s2, vi s1, vi s0] h).bind (fun z => run 3 1123 19 [l0, l1, l2, l3, l4, l5, l6, l7, l8, l9] (z.1.toList ++ []) z.2)) ∧
  (∀ (l0 l1 l2 l3 l5 l6 l7 l8 l9 : Option AV) (s0 : Int32) (h : Hp), run 3 1123 19 [l0, l1, l2, l3, none, l5, l6, l7, l8, l9] [vi s0] h = run 3 1123 21 [l0, l1, l2, l3, none, some (vi s0), l6, l7, l8, l9] [] h) ∧
  (∀ (l0 l1 l2 l3 l5 l6 l7 l8 l9 : Option AV) (s0 : Int32) (w1 : Int32) (h : Hp), run 3 1123 19 [l0, l1, l2, l3, some (vi w1), l5, l6, l7, l8, l9] [vi s0] h = run 3 1123 21 [l0, l1, l2, l3, some (vi w1), some (vi s0), l6, l7, l8, l9] [] h) ∧
  (∀ (l0 l1 l2 l3 l5 l6 l7 l8 l9 : Option AV) (s0 : Int32) (w1 : Option Rf) (h : Hp), run 3 1123 19 [l0, l1, l2, l3, some (vo w1), l5, l6, l7, l8, l9] [vi s0] h = run 3 1123 21 [l0, l1, l2, l3, some (vo w1), some (vi s0), l6, l7, l8, l9] [] h) ∧
  (∀ (l0 l1 l2 l3 l4 l6 l7 l8 l9 : Option AV) (w : Int32) (h : Hp), run 3 1123 21 [l0, l1, l2, l3, l4, some (vi w), l6, l7, l8, l9] [] h = run 3 1123 23 [l0, l1, l2, l3, l4, some (vi w), l6, l7, l8, l9] [vi w] h) ∧
  (∀ (l0 l1 l2 l3 l4 l5 l6 l7 l8 l9 : Option AV) (s0 : Int32) (h : Hp), run 3 1123 23 [l0, l1, l2, l3, l4, l5, l6, l7, l8, l9] [vi s0] h = if s0 = 0 then run 3 1123 26 [l0, l1, l2, l3, l4, l5, l6, l7, l8, l9] [] h else run 3 1123 34 [l0, l1, l2, l3, l4, l5, l6, l7, l8, l9] [] h) ∧
  (∀ (l0 l1 l2 l3 l5 l6 l7 l8 l9 : Option AV) (w : Int32) (h : Hp), run 3 1123 26 [l0, l1, l2, l3, some (vi w), l5, l6, l7, l8, l9] [] h = run 3 1123 28 [l0, l1, l2, l3, some (vi w), l5, l6, l7, l8, l9] [vi w] h) ∧
  (∀ (l0 l1 l2 l3 l4 l5 l6 l7 l8 l9 : Option AV) (s0 : Int32) (h : Hp), run 3 1123 28 [l0, l1, l2, l3, l4, l5, l6, l7, l8, l9] [vi s0] h = run 3 1123 29 [l0, l1, l2, l3, l4, l5, l6, l7, l8, l9] [vi (1 : Int32), vi s0] h) ∧
  (∀ (l0 l1 l2 l3 l4 l5 l6 l7 l8 l9 : Option AV) (s0 : Int32) (s1 : Int32) (h : Hp), run 3 1123 29 [l0, l1, l2, l3, l4, l5, l6, l7, l8, l9] [vi s0, vi s1] h = (call 1130 [vi s1, vi s0] h).bind (fun z => run 3 1123 32 [l0, l1, l2, l3, l4, l5, l6, l7, l8, l9] (z.1.toList ++ []) z.2)) ∧
  (∀ (l0 l1 l2 l3 l5 l6 l7 l8 l9 : Option AV) (s0 : Int32) (h : Hp), run 3 1123 32 [l0, l1, l2, l3, none, l5, l6, l7, l8, l9] [vi s0] h = run 3 1123 34 [l0, l1, l2, l3, none, some (vi s0), l6, l7, l8, l9] [] h) ∧
  (∀ (l0 l1 l2 l3 l5 l6 l7 l8 l9 : Option AV) (s0 : Int32) (w1 : Int32) (h : Hp), run 3 1123 32 [l0, l1, l2, l3, some (vi w1), l5, l6, l7, l8, l9] [vi s0] h = run 3 1123 34 [l0, l1, l2, l3, some (vi w1), some (vi s0), l6, l7, l8, l9] [] h) ∧
  (∀ (l0 l1 l2 l3 l5 l6 l7 l8 l9 : Option AV) (s0 : Int32) (w1 : Option Rf) (h : Hp), run 3 1123 32 [l0, l1, l2, l3, some (vo w1), l5, l6, l7, l8, l9] [vi s0] h = run 3 1123 34 [l0, l1, l2, l3, some (vo w1), some (vi s0), l6, l7, l8, l9] [] h) ∧
  (∀ (l0 l1 l2 l3 l4 l6 l7 l8 l9 : Option AV) (w : Int32) (h : Hp), run 3 1123 34 [l0, l1, l2, l3, l4, some (vi w), l6, l7, l8, l9] [] h = run 3 1123 36 [l0, l1, l2, l3, l4, some (vi w), l6, l7, l8, l9] [vi w] h) ∧
  (∀ (l0 l1 l2 l3 l4 l5 l6 l7 l8 l9 : Option AV) (s0 : Int32) (h : Hp), run 3 1123 36 [l0, l1, l2, l3, l4, l5, l6, l7, l8, l9] [vi s0] h = if s0 = 0 then run 3 1123 46 [l0, l1, l2, l3, l4, l5, l6, l7, l8, l9] [] h else run 3 1123 39 [l0, l1, l2, l3, l4, l5, l6, l7, l8, l9] [] h) ∧
  (∀ (l1 l2 l3 l4 l5 l6 l7 l8 l9 : Option AV) (w : Option Rf) (h : Hp), run 3 1123 39 [some (vo w), l1, l2, l3, l4, l5, l6, l7, l8, l9] [] h = run 3 1123 40 [some (vo w), l1, l2, l3, l4, l5, l6, l7, l8, l9] [vo w] h) ∧
  (∀ (l0 l1 l2 l3 l4 l6 l7 l8 l9 : Option AV) (s0 : Option Rf) (w : Int32) (h : Hp), run 3 1123 40 [l0, l1, l2, l3, l4, some (vi w), l6, l7, l8, l9] [vo s0] h = run 3 1123 42 [l0, l1, l2, l3, l4, some (vi w), l6, l7, l8, l9] [vi w, vo s0] h) ∧
  (∀ (l0 l1 l2 l3 l4 l5 l6 l7 l8 l9 : Option AV) (s0 : Int32) (o z : Nat) (h : Hp), run 3 1123 42 [l0, l1, l2, l3, l4, l5, l6, l7, l8, l9] [vi s0, vo (some (o, 11, z))] h = (call 1128 [vo (some (o, 11, z)), vi s0] h).bind (fun z => run 3 1123 45 [l0, l1, l2, l3, l4, l5, l6, l7, l8, l9] (z.1.toList ++ []) z.2)) ∧
  (∀ (l0 l1 l2 l3 l4 l5 l6 l7 l8 l9 : Option AV) (s0 : Int32) (h : Hp), run 3 1123 45 [l0, l1, l2, l3, l4, l5, l6, l7, l8, l9] [vi s0] h = some (some (vi s0), h)) ∧
  (∀ (l0 l2 l3 l4 l5 l6 l7 l8 l9 : Option AV) (w : Int32) (h : Hp), run 3 1123 46 [l0, some (vi w), l2, l3, l4, l5, l6, l7, l8, l9] [] h = run 3 1123 47 [l0, some (vi w), l2, l3, l4, l5, l6, l7, l8, l9] [vi w] h) ∧
  (∀ (l0 l1 l2 l3 l4 l6 l7 l8 l9 : Option AV) (s0 : Int32) (h : Hp), run 3 1123 47 [l0, l1, l2, l3, l4, none, l6, l7, l8, l9] [vi s0] h = run 3 1123 49 [l0, l1, l2, l3, l4, none, some (vi s0), l7, l8, l9] [] h) ∧
  (∀ (l0 l1 l2 l3 l4 l6 l7 l8 l9 : Option AV) (s0 : Int32) (w1 : Int32) (h : Hp), run 3 1123 47 [l0, l1, l2, l3, l4, some (vi w1), l6, l7, l8, l9] [vi s0] h = run 3 1123 49 [l0, l1, l2, l3, l4, some (vi w1), some (vi s0), l7, l8, l9] [] h) ∧
  (∀ (l0 l1 l2 l3 l4 l6 l7 l8 l9 : Option AV) (s0 : Int32) (w1 : Option Rf) (h : Hp), run 3 1123 47 [l0, l1, l2, l3, l4, some (vo w1), l6, l7, l8, l9] [vi s0] h = run 3 1123 49 [l0, l1, l2, l3, l4, some (vo w1), some (vi s0), l7, l8, l9] [] h) ∧
  (∀ (l0 l1 l2 l4 l5 l6 l7 l8 l9 : Option AV) (w : Int32) (h : Hp), run 3 1123 49 [l0, l1, l2, some (vi w), l4, l5, l6, l7, l8, l9] [] h = run 3 1123 50 [l0, l1, l2, some (vi w), l4, l5, l6, l7, l8, l9] [vi w] h) ∧
  (∀ (l0 l1 l2 l3 l4 l5 l7 l8 l9 : Option AV) (s0 : Int32) (h : Hp), run 3 1123 50 [l0, l1, l2, l3, l4, l5, none, l7, l8, l9] [vi s0] h = run 3 1123 52 [l0, l1, l2, l3, l4, l5, none, some (vi s0), l8, l9] [] h) ∧
  (∀ (l0 l1 l2 l3 l4 l5 l7 l8 l9 : Option AV) (s0 : Int32) (w1 : Int32) (h : Hp), run 3 1123 50 [l0, l1, l2, l3, l4, l5, some (vi w1), l7, l8, l9] [vi s0] h = run 3 1123 52 [l0, l1, l2, l3, l4, l5, some (vi w1), some (vi s0), l8, l9] [] h) ∧
  (∀ (l0 l1 l2 l3 l4 l5 l7 l8 l9 : Option AV) (s0 : Int32) (w1 : Option Rf) (h : Hp), run 3 1123 50 [l0, l1, l2, l3, l4, l5, some (vo w1), l7, l8, l9] [vi s0] h = run 3 1123 52 [l0, l1, l2, l3, l4, l5, some (vo w1), some (vi s0), l8, l9] [] h) ∧
  (∀ (l0 l1 l2 l3 l4 l5 l6 l7 l8 l9 : Option AV) (h : Hp), run 3 1123 52 [l0, l1, l2, l3, l4, l5, l6, l7, l8, l9] [] h = run 3 1123 53 [l0, l1, l2, l3, l4, l5, l6, l7, l8, l9] [vi (1 : Int32)] h) ∧
  (∀ (l0 l2 l3 l4 l5 l6 l7 l8 l9 : Option AV) (s0 : Int32) (w : Int32) (h : Hp), run 3 1123 53 [l0, some (vi w), l2, l3, l4, l5, l6, l7, l8, l9] [vi s0] h = run 3 1123 54 [l0, some (vi w), l2, l3, l4, l5, l6, l7, l8, l9] [vi w, vi s0] h) ∧
  (∀ (l0 l1 l2 l3 l4 l5 l6 l7 l8 l9 : Option AV) (s0 : Int32) (s1 : Int32) (h : Hp), run 3 1123 54 [l0, l1, l2, l3, l4, l5, l6, l7, l8, l9] [vi s0, vi s1] h = run 3 1123 55 [l0, l1, l2, l3, l4, l5, l6, l7, l8, l9] [vi (s1 <<< (s0 &&& 31))] h) ∧
  (∀ (l0 l1 l2 l3 l4 l5 l6 l8 l9 : Option AV) (s0 : Int32) (h : Hp), run 3 1123 55 [l0, l1, l2, l3, l4, l5, l6, none, l8, l9] [vi s0] h = run 3 1123 57 [l0, l1, l2, l3, l4, l5, l6, none, some (vi s0), l9] [] h) ∧
  (∀ (l0 l1 l2 l3 l4 l5 l6 l8 l9 : Option AV) (s0 : Int32) (w1 : Int32) (h : Hp), run 3 1123 55 [l0, l1, l2, l3, l4, l5, l6, some (vi w1), l8, l9] [vi s0] h = run 3 1123 57 [l0, l1, l2, l3, l4, l5, l6, some (vi w1), some (vi s0), l9] [] h) ∧
  (∀ (l0 l1 l2 l3 l4 l5 l6 l8 l9 : Option AV) (s0 : Int32) (w1 : Option Rf) (h : Hp), run 3 1123 55 [l0, l1, l2, l3, l4, l5, l6, some (vo w1), l8, l9] [vi s0] h = run 3 1123 57 [l0, l1, l2, l3, l4, l5, l6, some (vo w1), some (vi s0), l9] [] h) ∧
  (∀ (l0 l1 l2 l3 l4 l5 l6 l7 l8 l9 : Option AV) (h : Hp), run 3 1123 57 [l0, l1, l2, l3, l4, l5, l6, l7, l8, l9] [] h = run 3 1123 58 [l0, l1, l2, l3, l4, l5, l6, l7, l8, l9] [vi (0 : Int32)] h) ∧
  (∀ (l0 l1 l2 l3 l4 l5 l6 l7 l9 : Option AV) (s0 : Int32) (h : Hp), run 3 1123 58 [l0, l1, l2, l3, l4, l5, l6, l7, none, l9] [vi s0] h = run 3 1123 60 [l0, l1, l2, l3, l4, l5, l6, l7, none, some (vi s0)] [] h) ∧
  (∀ (l0 l1 l2 l3 l4 l5 l6 l7 l9 : Option AV) (s0 : Int32) (w1 : Int32) (h : Hp), run 3 1123 58 [l0, l1, l2, l3, l4, l5, l6, l7, some (vi w1), l9] [vi s0] h = run 3 1123 60 [l0, l1, l2, l3, l4, l5, l6, l7, some (vi w1), some (vi s0)] [] h) ∧
  (∀ (l0 l1 l2 l3 l4 l5 l6 l7 l9 : Option AV) (s0 : Int32) (w1 : Option Rf) (h : Hp), run 3 1123 58 [l0, l1, l2, l3, l4, l5, l6, l7, some (vo w1), l9] [vi s0] h = run 3 1123 60 [l0, l1, l2, l3, l4, l5, l6, l7, some (vo w1), some (vi s0)] [] h) ∧
  (∀ (l0 l1 l3 l4 l5 l6 l7 l8 l9 : Option AV) (s0 : Int32) (w : Int32) (h : Hp), run 3 1123 62 [l0, l1, some (vi w), l3, l4, l5, l6, l7, l8, l9] [vi s0] h = run 3 1123 63 [l0, l1, some (vi w), l3, l4, l5, l6, l7, l8, l9] [vi w, vi s0] h) ∧
  (∀ (l0 l1 l2 l3 l4 l5 l6 l7 l8 l9 : Option AV) (s0 : Int32) (s1 : Int32) (h : Hp), run 3 1123 63 [l0, l1, l2, l3, l4, l5, l6, l7, l8, l9] [vi s0, vi s1] h = if s0 ≤ s1 then run 3 1123 114 [l0, l1, l2, l3, l4, l5, l6, l7, l8, l9] [] h else run 3 1123 66 [l0, l1, l2, l3, l4, l5, l6, l7, l8, l9] [] h) ∧
  (∀ (l0 l1 l2 l3 l4 l5 l6 l8 l9 : Option AV) (w : Int32) (h : Hp), run 3 1123 66 [l0, l1, l2, l3, l4, l5, l6, some (vi w), l8, l9] [] h = run 3 1123 68 [l0, l1, l2, l3, l4, l5, l6, some (vi w), l8, l9] [vi w] h) ∧
  (∀ (l0 l1 l2 l3 l4 l5 l6 l7 l8 l9 : Option AV) (s0 : Int32) (h : Hp), run 3 1123 68 [l0, l1, l2, l3, l4, l5, l6, l7, l8, l9] [vi s0] h = run 3 1123 70 [l0, l1, l2, l3, l4, l5, l6, l7, l8, l9] [vi (1103515245 : Int32), vi s0] h) ∧
  (∀ (l0 l1 l2 l3 l4 l5 l6 l7 l8 l9 : Option AV) (s0 : Int32) (s1 : Int32) (h : Hp), run 3 1123 70 [l0, l1, l2, l3, l4, l5, l6, l7, l8, l9] [vi s0, vi s1] h = run 3 1123 71 [l0, l1, l2, l3, l4, l5, l6, l7, l8, l9] [vi (s1 * s0)] h) ∧
  (∀ (l0 l1 l2 l3 l4 l5 l6 l7 l8 l9 : Option AV) (s0 : Int32) (h : Hp), run 3 1123 71 [l0, l1, l2, l3, l4, l5, l6, l7, l8, l9] [vi s0] h = run 3 1123 74 [l0, l1, l2, l3, l4, l5, l6, l7, l8, l9] [vi (12345 : Int32), vi s0] h) ∧
  (∀ (l0 l1 l2 l3 l4 l5 l6 l7 l8 l9 : Option AV) (s0 : Int32) (s1 : Int32) (h : Hp), run 3 1123 74 [l0, l1, l2, l3, l4, l5, l6, l7, l8, l9] [vi s0, vi s1] h = run 3 1123 75 [l0, l1, l2, l3, l4, l5, l6, l7, l8, l9] [vi (s1 + s0)] h) ∧
  (∀ (l0 l1 l2 l3 l4 l5 l7 l8 l9 : Option AV) (s0 : Int32) (h : Hp), run 3 1123 75 [l0, l1, l2, l3, l4, l5, none, l7, l8, l9] [vi s0] h = run 3 1123 77 [l0, l1, l2, l3, l4, l5, none, some (vi s0), l8, l9] [] h) ∧
  (∀ (l0 l1 l2 l3 l4 l5 l7 l8 l9 : Option AV) (s0 : Int32) (w1 : Int32) (h : Hp), run 3 1123 75 [l0, l1, l2, l3, l4, l5, some (vi w1), l7, l8, l9] [vi s0] h = run 3 1123 77 [l0, l1, l2, l3, l4, l5, some (vi w1), some (vi s0), l8, l9] [] h) ∧
  (∀ (l0 l1 l2 l3 l4 l5 l7 l8 l9 : Option AV) (s0 : Int32) (w1 : Option Rf) (h : Hp), run 3 1123 75 [l0, l1, l2, l3, l4, l5, some (vo w1), l7, l8, l9] [vi s0] h = run 3 1123 77 [l0, l1, l2, l3, l4, l5, some (vo w1), some (vi s0), l8, l9] [] h) ∧
  (∀ (l1 l2 l3 l4 l5 l6 l7 l8 l9 : Option AV) (w : Option Rf) (h : Hp), run 3 1123 77 [some (vo w), l1, l2, l3, l4, l5, l6, l7, l8, l9] [] h = run 3 1123 78 [some (vo w), l1, l2, l3, l4, l5, l6, l7, l8, l9] [vo w] h) ∧
  (∀ (l0 l1 l2 l3 l4 l5 l6 l7 l8 l9 : Option AV) (o z : Nat) (h : Hp), run 3 1123 78 [l0, l1, l2, l3, l4, l5, l6, l7, l8, l9] [vo (some (o, 11, z))] h = run 3 1123 81 [l0, l1, l2, l3, l4, l5, l6, l7, l8, l9] [vo (hR h o 0)] h) ∧
  (∀ (l0 l1 l2 l3 l4 l5 l6 l7 l8 l9 : Option AV) (o z : Nat) (h : Hp), run 3 1123 81 [l0, l1, l2, l3, l4, l5, l6, l7, l8, l9] [vo (some (o, 10, z))] h = run 3 1123 84 [l0, l1, l2, l3, l4, l5, l6, l7, l8, l9] [vo (hR h o 0)] h) ∧
  (∀ (l0 l1 l2 l3 l4 l5 l7 l8 l9 : Option AV) (s0 : Option Rf) (w : Int32) (h : Hp), run 3 1123 84 [l0, l1, l2, l3, l4, l5, some (vi w), l7, l8, l9] [vo s0] h = run 3 1123 86 [l0, l1, l2, l3, l4, l5, some (vi w), l7, l8, l9] [vi w, vo s0] h) ∧
  (∀ (l0 l1 l2 l3 l4 l5 l6 l8 l9 : Option AV) (s0 : Int32) (s1 : Option Rf) (w : Int32) (h : Hp), run 3 1123 86 [l0, l1, l2, l3, l4, l5, l6, some (vi w), l8, l9] [vi s0, vo s1] h = run 3 1123 88 [l0, l1, l2, l3, l4, l5, l6, some (vi w), l8, l9] [vi w, vi s0, vo s1] h) ∧
  (∀ (l0 l1 l2 l3 l4 l5 l6 l7 l8 l9 : Option AV) (s0 : Int32) (s1 : Int32) (s2 : Option Rf) (h : Hp), run 3 1123 88 [l0, l1, l2, l3, l4, l5, l6, l7, l8, l9] [vi s0, vi s1, vo s2] h = run 3 1123 90 [l0, l1, l2, l3, l4, l5, l6, l7, l8, l9] [vi (2147483647 : Int32), vi s0, vi s1, vo s2] h) ∧
  (∀ (l0 l1 l2 l3 l4 l5 l6 l7 l8 l9 : Option AV) (s0 : Int32) (s1 : Int32) (s2 : Int32) (s3 : Option Rf) (h : Hp), run 3 1123 90 [l0, l1, l2, l3, l4, l5, l6, l7, l8, l9] [vi s0, vi s1, vi s2, vo s3] h = run 3 1123 91 [l0, l1, l2, l3, l4, l5, l6, l7, l8, l9] [vi (s1 &&& s0), vi s2, vo s3] h) ∧
  (∀ (l0 l1 l2 l3 l4 l5 l6 l7 l8 l9 : Option AV) (s0 : Int32) (s1 : Int32) (s2 : Option Rf) (h : Hp), run 3 1123 91 [l0, l1, l2, l3, l4, l5, l6, l7, l8, l9] [vi s0, vi s1, vo s2] h = run 3 1123 93 [l0, l1, l2, l3, l4, l5, l6, l7, l8, l9] [vi (16 : Int32), vi s0, vi s1, vo s2] h) ∧
  (∀ (l0 l1 l2 l3 l4 l5 l6 l7 l8 l9 : Option AV) (s0 : Int32) (s1 : Int32) (s2 : Int32) (s3 : Option Rf) (h : Hp), run 3 1123 93 [l0, l1, l2, l3, l4, l5, l6, l7, l8, l9] [vi s0, vi s1, vi s2, vo s3] h = run 3 1123 94 [l0, l1, l2, l3, l4, l5, l6, l7, l8, l9] [vi (s1.toUInt32 >>> (s0.toUInt32 &&& Int32.toUInt32 31)).toInt32, vi s2, vo s3] h) ∧
  (∀ (l0 l1 l2 l3 l4 l5 l6 l7 l8 l9 : Option AV) (s0 : Int32) (s1 : Int32) (o z : Nat) (h : Hp), run 3 1123 94 [l0, l1, l2, l3, l4, l5, l6, l7, l8, l9] [vi s0, vi s1, vo (some (o, 5, z))] h = (call 511 [vo (some (o, 5, z)), vi s1, vi s0] h).bind (fun z => run 3 1123 97 [l0, l1, l2, l3, l4, l5, l6, l7, l8, l9] (z.1.toList ++ []) z.2)) ∧
  (∀ (l0 l1 l2 l3 l4 l6 l7 l8 l9 : Option AV) (s0 : Int32) (h : Hp), run 3 1123 97 [l0, l1, l2, l3, l4, none, l6, l7, l8, l9] [vi s0] h = run 3 1123 99 [l0, l1, l2, l3, l4, none, some (vi s0), l7, l8, l9] [] h) ∧
  (∀ (l0 l1 l2 l3 l4 l6 l7 l8 l9 : Option AV) (s0 : Int32) (w1 : Int32) (h : Hp), run 3 1123 97 [l0, l1, l2, l3, l4, some (vi w1), l6, l7, l8, l9] [vi s0] h = run 3 1123 99 [l0, l1, l2, l3, l4, some (vi w1), some (vi s0), l7, l8, l9] [] h) ∧
  (∀ (l0 l1 l2 l3 l4 l6 l7 l8 l9 : Option AV) (s0 : Int32) (w1 : Option Rf) (h : Hp), run 3 1123 97 [l0, l1, l2, l3, l4, some (vo w1), l6, l7, l8, l9] [vi s0] h = run 3 1123 99 [l0, l1, l2, l3, l4, some (vo w1), some (vi s0), l7, l8, l9] [] h) ∧
  (∀ (l0 l1 l2 l3 l4 l5 l6 l7 l9 : Option AV) (w : Int32) (h : Hp), run 3 1123 99 [l0, l1, l2, l3, l4, l5, l6, l7, some (vi w), l9] [] h = run 3 1123 101 [l0, l1, l2, l3, l4, l5, l6, l7, some (vi w), l9] [vi w] h) ∧
  (∀ (l0 l1 l2 l3 l4 l5 l6 l7 l8 l9 : Option AV) (s0 : Int32) (h : Hp), run 3 1123 101 [l0, l1, l2, l3, l4, l5, l6, l7, l8, l9] [vi s0] h = run 3 1123 102 [l0, l1, l2, l3, l4, l5, l6, l7, l8, l9] [vi (1 : Int32), vi s0] h) ∧
  (∀ (l0 l1 l2 l3 l4 l5 l7 l8 l9 : Option AV) (s0 : Int32) (s1 : Int32) (w : Int32) (h : Hp), run 3 1123 102 [l0, l1, l2, l3, l4, l5, some (vi w), l7, l8, l9] [vi s0, vi s1] h = run 3 1123 104 [l0, l1, l2, l3, l4, l5, some (vi w), l7, l8, l9] [vi w, vi s0, vi s1] h) ∧
  (∀ (l0 l1 l2 l3 l4 l5 l6 l7 l8 l9 : Option AV) (s0 : Int32) (s1 : Int32) (s2 : Int32) (h : Hp), run 3 1123 104 [l0, l1, l2, l3, l4, l5, l6, l7, l8, l9] [vi s0, vi s1, vi s2] h = run 3 1123 105 [l0, l1, l2, l3, l4, l5, l6, l7, l8, l9] [vi (s1 <<< (s0 &&& 31)), vi s2] h) ∧
  (∀ (l0 l1 l2 l3 l4 l5 l6 l7 l8 l9 : Option AV) (s0 : Int32) (s1 : Int32) (h : Hp), run 3 1123 105 [l0, l1, l2, l3, l4, l5, l6, l7, l8, l9] [vi s0, vi s1] h = run 3 1123 106 [l0, l1, l2, l3, l4, l5, l6, l7, l8, l9] [vi (s1 ||| s0)] h) ∧
  (∀ (l0 l1 l2 l3 l4 l5 l6 l8 l9 : Option AV) (s0 : Int32) (h : Hp), run 3 1123 106 [l0, l1, l2, l3, l4, l5, l6, none, l8, l9] [vi s0] h = run 3 1123 108 [l0, l1, l2, l3, l4, l5, l6, none, some (vi s0), l9] [] h) ∧
  (∀ (l0 l1 l2 l3 l4 l5 l6 l8 l9 : Option AV) (s0 : Int32) (w1 : Int32) (h : Hp), run 3 1123 106 [l0, l1, l2, l3, l4, l5, l6, some (vi w1), l8, l9] [vi s0] h = run 3 1123 108 [l0, l1, l2, l3, l4, l5, l6, some (vi w1), some (vi s0), l9] [] h) ∧
  (∀ (l0 l1 l2 l3 l4 l5 l6 l8 l9 : Option AV) (s0 : Int32) (w1 : Option Rf) (h : Hp), run 3 1123 106 [l0, l1, l2, l3, l4, l5, l6, some (vo w1), l8, l9] [vi s0] h = run 3 1123 108 [l0, l1, l2, l3, l4, l5, l6, some (vo w1), some (vi s0), l9] [] h) ∧
  (∀ (l0 l1 l2 l3 l4 l5 l6 l7 : Option AV) (w : Int32) (h : Hp), run 3 1123 108 [l0, l1, l2, l3, l4, l5, l6, l7, none, some (vi w)] [] h = run 3 1123 111 [l0, l1, l2, l3, l4, l5, l6, l7, none, some (vi (w + (1 : Int32)))] [] h) ∧
  (∀ (l0 l1 l2 l3 l4 l5 l6 l7 : Option AV) (w1 : Int32) (w : Int32) (h : Hp), run 3 1123 108 [l0, l1, l2, l3, l4, l5, l6, l7, some (vi w1), some (vi w)] [] h = run 3 1123 111 [l0, l1, l2, l3, l4, l5, l6, l7, some (vi w1), some (vi (w + (1 : Int32)))] [] h) ∧
  (∀ (l0 l1 l2 l3 l4 l5 l6 l7 : Option AV) (w1 : Option Rf) (w : Int32) (h : Hp), run 3 1123 108 [l0, l1, l2, l3, l4, l5, l6, l7, some (vo w1), some (vi w)] [] h = run 3 1123 111 [l0, l1, l2, l3, l4, l5, l6, l7, some (vo w1), some (vi (w + (1 : Int32)))] [] h) ∧
  (∀ (l0 l1 l2 l3 l4 l5 l6 l7 l8 l9 : Option AV) (h : Hp), run 3 1123 111 [l0, l1, l2, l3, l4, l5, l6, l7, l8, l9] [] h = run 3 1123 60 [l0, l1, l2, l3, l4, l5, l6, l7, l8, l9] [] h) ∧
  (∀ (l0 l1 l2 l3 l5 l6 l7 l8 l9 : Option AV) (w : Int32) (h : Hp), run 3 1123 114 [l0, l1, l2, l3, some (vi w), l5, l6, l7, l8, l9] [] h = run 3 1123 116 [l0, l1, l2, l3, some (vi w), l5, l6, l7, l8, l9] [vi w] h) ∧
  (∀ (l0 l1 l2 l3 l4 l5 l6 l7 l8 l9 : Option AV) (s0 : Int32) (h : Hp), run 3 1123 116 [l0, l1, l2, l3, l4, l5, l6, l7, l8, l9] [vi s0] h = if s0 = 0 then run 3 1123 119 [l0, l1, l2, l3, l4, l5, l6, l7, l8, l9] [] h else run 3 1123 124 [l0, l1, l2, l3, l4, l5, l6, l7, l8, l9] [] h) ∧
  (∀ (l0 l1 l2 l3 l4 l5 l7 l8 l9 : Option AV) (w : Int32) (h : Hp), run 3 1123 119 [l0, l1, l2, l3, l4, l5, some (vi w), l7, l8, l9] [] h = run 3 1123 121 [l0, l1, l2, l3, l4, l5, some (vi w), l7, l8, l9] [vi w] h) ∧
  (∀ (l0 l1 l2 l3 l4 l5 l6 l7 l8 l9 : Option AV) (s0 : Int32) (h : Hp), run 3 1123 121 [l0, l1, l2, l3, l4, l5, l6, l7, l8, l9] [vi s0] h = run 3 1123 129 [l0, l1, l2, l3, l4, l5, l6, l7, l8, l9] [vi s0] h) ∧
  (∀ (l0 l1 l2 l3 l4 l5 l6 l7 l9 : Option AV) (w : Int32) (h : Hp), run 3 1123 124 [l0, l1, l2, l3, l4, l5, l6, l7, some (vi w), l9] [] h = run 3 1123 126 [l0, l1, l2, l3, l4, l5, l6, l7, some (vi w), l9] [vi w] h) ∧
  (∀ (l0 l1 l2 l3 l4 l5 l6 l7 l8 l9 : Option AV) (s0 : Int32) (h : Hp), run 3 1123 126 [l0, l1, l2, l3, l4, l5, l6, l7, l8, l9] [vi s0] h = (call 1300 [vi s0] h).bind (fun z => run 3 1123 129 [l0, l1, l2, l3, l4, l5, l6, l7, l8, l9] (z.1.toList ++ []) z.2)) ∧
  (∀ (l0 l1 l2 l3 l4 l5 l6 l7 l8 l9 : Option AV) (s0 : Int32) (h : Hp), run 3 1123 129 [l0, l1, l2, l3, l4, l5, l6, l7, l8, l9] [vi s0] h = some (some (vi s0), h)) := ⟨(fun _ _ _ _ _ _ _ _ _ _ _ => run_next rfl rfl),
  (fun _ _ _ _ _ _ _ _ _ s0 _ _ => run_next rfl rfl),
  (fun _ _ _ _ _ _ _ _ _ _ s0 _ _ _ => run_calx rfl rfl (Nat.le_of_ble_eq_true rfl) (Nat.le_of_ble_eq_true rfl) rfl),
  (fun _ _ _ _ _ _ _ _ _ s0 _ => run_next rfl rfl),
  (fun _ _ _ _ _ _ _ _ _ s0 _ _ => run_next rfl rfl),
  (fun _ _ _ _ _ _ _ _ _ s0 _ _ => run_next rfl rfl),
  (fun _ _ _ _ _ _ _ _ _ _ _ => run_next rfl rfl),
  (fun _ _ _ _ _ _ _ _ _ _ s0 _ => run_if rfl rfl (run_next rfl) (run_next rfl)),
  (fun _ _ _ _ _ _ _ _ _ _ _ => run_next rfl rfl),
  (fun _ _ _ _ _ _ _ _ _ _ s0 _ => run_next rfl rfl),
  (fun _ _ _ _ _ _ _ _ _ _ s0 _ _ => run_next rfl rfl),
  (fun _ _ _ _ _ _ _ _ _ _ s0 _ _ _ => run_calx rfl rfl (Nat.le_of_ble_eq_true rfl) (Nat.le_of_ble_eq_true rfl) rfl),
  (fun _ _ _ _ _ _ _ _ _ s0 _ => run_next rfl rfl),
  (fun _ _ _ _ _ _ _ _ _ s0 _ _ => run_next rfl rfl),
  (fun _ _ _ _ _ _ _ _ _ s0 _ _ => run_next rfl rfl),
  (fun _ _ _ _ _ _ _ _ _ _ _ => run_next rfl rfl),
  (fun _ _ _ _ _ _ _ _ _ _ s0 _ => run_if rfl rfl (run_next rfl) (run_next rfl)),
  (fun _ _ _ _ _ _ _ _ _ _ _ => run_next rfl rfl),
  (fun _ _ _ _ _ _ _ _ _ _ s0 _ => run_next rfl rfl),
  (fun _ _ _ _ _ _ _ _ _ _ s0 _ _ => run_calx rfl rfl (Nat.le_of_ble_eq_true rfl) (Nat.le_of_ble_eq_true rfl) rfl),
  (fun _ _ _ _ _ _ _ _ _ s0 _ => run_next rfl rfl),
  (fun _ _ _ _ _ _ _ _ _ s0 _ _ => run_next rfl rfl),
  (fun _ _ _ _ _ _ _ _ _ s0 _ _ => run_next rfl rfl),
  (fun _ _ _ _ _ _ _ _ _ _ _ => run_next rfl rfl),
  (fun _ _ _ _ _ _ _ _ _ _ s0 _ => run_if rfl rfl (run_next rfl) (run_next rfl)),
  (fun _ _ _ _ _ _ _ _ _ _ _ => run_next rfl rfl),
  (fun _ _ _ _ _ _ _ _ _ s0 _ _ => run_next rfl rfl),
  (fun _ _ _ _ _ _ _ _ _ _ s0 _ _ _ => run_calx rfl rfl (Nat.le_of_ble_eq_true rfl) (Nat.le_of_ble_eq_true rfl) rfl),
  (fun _ _ _ _ _ _ _ _ _ _ s0 _ => run_ret rfl rfl),
  (fun _ _ _ _ _ _ _ _ _ _ _ => run_next rfl rfl),
  (fun _ _ _ _ _ _ _ _ _ s0 _ => run_next rfl rfl),
  (fun _ _ _ _ _ _ _ _ _ s0 _ _ => run_next rfl rfl),
  (fun _ _ _ _ _ _ _ _ _ s0 _ _ => run_next rfl rfl),
  (fun _ _ _ _ _ _ _ _ _ _ _ => run_next rfl rfl),
  (fun _ _ _ _ _ _ _ _ _ s0 _ => run_next rfl rfl),
  (fun _ _ _ _ _ _ _ _ _ s0 _ _ => run_next rfl rfl),
  (fun _ _ _ _ _ _ _ _ _ s0 _ _ => run_next rfl rfl),
  (fun _ _ _ _ _ _ _ _ _ _ _ => run_next rfl rfl),
  (fun _ _ _ _ _ _ _ _ _ s0 _ _ => run_next rfl rfl),
  (fun _ _ _ _ _ _ _ _ _ _ s0 _ _ => run_next rfl rfl),
  (fun _ _ _ _ _ _ _ _ _ s0 _ => run_next rfl rfl),
  (fun _ _ _ _ _ _ _ _ _ s0 _ _ => run_next rfl rfl),
  (fun _ _ _ _ _ _ _ _ _ s0 _ _ => run_next rfl rfl),
  (fun _ _ _ _ _ _ _ _ _ _ _ => run_next rfl rfl),
  (fun _ _ _ _ _ _ _ _ _ s0 _ => run_next rfl rfl),
  (fun _ _ _ _ _ _ _ _ _ s0 _ _ => run_next rfl rfl),
  (fun _ _ _ _ _ _ _ _ _ s0 _ _ => run_next rfl rfl),
  (fun _ _ _ _ _ _ _ _ _ s0 _ _ => run_next rfl rfl),
  (fun _ _ _ _ _ _ _ _ _ _ s0 _ _ => run_if rfl rfl (run_next rfl) (run_next rfl)),
  (fun _ _ _ _ _ _ _ _ _ _ _ => run_next rfl rfl),
  (fun _ _ _ _ _ _ _ _ _ _ s0 _ => run_next rfl rfl),
  (fun _ _ _ _ _ _ _ _ _ _ s0 _ _ => run_next rfl rfl),
  (fun _ _ _ _ _ _ _ _ _ _ s0 _ => run_next rfl rfl),
  (fun _ _ _ _ _ _ _ _ _ _ s0 _ _ => run_next rfl rfl),
  (fun _ _ _ _ _ _ _ _ _ s0 _ => run_next rfl rfl),
  (fun _ _ _ _ _ _ _ _ _ s0 _ _ => run_next rfl rfl),
  (fun _ _ _ _ _ _ _ _ _ s0 _ _ => run_next rfl rfl),
  (fun _ _ _ _ _ _ _ _ _ _ _ => run_next rfl rfl),
  (fun _ _ _ _ _ _ _ _ _ _ _ _ _ => run_next rfl rfl),
  (fun _ _ _ _ _ _ _ _ _ _ _ _ _ => run_next rfl rfl),
  (fun _ _ _ _ _ _ _ _ _ s0 _ _ => run_next rfl rfl),
  (fun _ _ _ _ _ _ _ _ _ s0 _ _ _ => run_next rfl rfl),
  (fun _ _ _ _ _ _ _ _ _ _ s0 _ _ _ => run_next rfl rfl),
  (fun _ _ _ _ _ _ _ _ _ _ s0 _ _ _ _ => run_next rfl rfl),
  (fun _ _ _ _ _ _ _ _ _ _ s0 _ _ _ => run_next rfl rfl),
  (fun _ _ _ _ _ _ _ _ _ _ s0 _ _ _ _ => run_next rfl rfl),
  (fun _ _ _ _ _ _ _ _ _ _ s0 _ _ _ _ => run_calx rfl rfl (Nat.le_of_ble_eq_true rfl) (Nat.le_of_ble_eq_true rfl) rfl),
  (fun _ _ _ _ _ _ _ _ _ s0 _ => run_next rfl rfl),
  (fun _ _ _ _ _ _ _ _ _ s0 _ _ => run_next rfl rfl),
  (fun _ _ _ _ _ _ _ _ _ s0 _ _ => run_next rfl rfl),
  (fun _ _ _ _ _ _ _ _ _ _ _ => run_next rfl rfl),
  (fun _ _ _ _ _ _ _ _ _ _ s0 _ => run_next rfl rfl),
  (fun _ _ _ _ _ _ _ _ _ s0 _ _ _ => run_next rfl rfl),
  (fun _ _ _ _ _ _ _ _ _ _ s0 _ _ _ => run_next rfl rfl),
  (fun _ _ _ _ _ _ _ _ _ _ s0 _ _ => run_next rfl rfl),
  (fun _ _ _ _ _ _ _ _ _ s0 _ => run_next rfl rfl),
  (fun _ _ _ _ _ _ _ _ _ s0 _ _ => run_next rfl rfl),
  (fun _ _ _ _ _ _ _ _ _ s0 _ _ => run_next rfl rfl),
  (fun _ _ _ _ _ _ _ _ _ _ => run_next rfl rfl),
  (fun _ _ _ _ _ _ _ _ _ _ _ => run_next rfl rfl),
  (fun _ _ _ _ _ _ _ _ _ _ _ => run_next rfl rfl),
  (fun _ _ _ _ _ _ _ _ _ _ _ => run_next rfl rfl),
  (fun _ _ _ _ _ _ _ _ _ _ _ => run_next rfl rfl),
  (fun _ _ _ _ _ _ _ _ _ _ s0 _ => run_if rfl rfl (run_next rfl) (run_next rfl)),
  (fun _ _ _ _ _ _ _ _ _ _ _ => run_next rfl rfl),
  (fun _ _ _ _ _ _ _ _ _ _ s0 _ => run_next rfl rfl),
  (fun _ _ _ _ _ _ _ _ _ _ _ => run_next rfl rfl),
  (fun _ _ _ _ _ _ _ _ _ _ s0 _ => run_calx rfl rfl (Nat.le_of_ble_eq_true rfl) (Nat.le_of_ble_eq_true rfl) rfl),
  (fun _ _ _ _ _ _ _ _ _ _ s0 _ => run_ret rfl rfl)⟩
set_option maxRecDepth 20000 in
theorem x_1123_60 : (∀ (l0 l1 l2 l3 l4 l5 l6 l7 l8 : Option AV) (w : Int32) (h : Hp), run 3 1123 60 [l0, l1, l2, l3, l4, l5, l6, l7, l8, some (vi w)] [] h = run 3 1123 62 [l0, l1, l2, l3, l4, l5, l6, l7, l8, some (vi w)] [vi w] h) := (fun _ _ _ _ _ _ _ _ _ _ _ => run_next rfl rfl)
theorem e_1123 (v : Option Rf) (a0 : Int32) (a1 : Int32) (a2 : Int32) (a3 : Int32) (h : Hp) : call 1123 [vo v, vi a0, vi a1, vi a2, vi a3] h = run 3 1123 0 [some (vo v), some (vi a0), some (vi a1), some (vi a2), some (vi a3), none, none, none, none, none] [] h := rfl
set_option maxRecDepth 20000 in
theorem x_1124 : (∀  (w : Option Rf) (h : Hp), run 1 1124 0 [some (vo w)] [] h = run 1 1124 1 [some (vo w)] [vo w] h) ∧
  (∀ (l0 : Option AV) (o z : Nat) (h : Hp), run 1 1124 1 [l0] [vo (some (o, 11, z))] h = run 1 1124 4 [l0] [vo (hR h o 2)] h) ∧
  (∀ (s0 : Option Rf) (w : Option Rf) (h : Hp), run 1 1124 4 [some (vo w)] [vo s0] h = run 1 1124 5 [some (vo w)] [vo w, vo s0] h) ∧
  (∀ (l0 : Option AV) (s1 : Option Rf) (o z : Nat) (h : Hp), run 1 1124 5 [l0] [vo (some (o, 11, z)), vo s1] h = run 1 1124 8 [l0] [vo (hR h o 0), vo s1] h) ∧
  (∀ (l0 : Option AV) (s0 : Option Rf) (o z : Nat) (h : Hp), run 1 1124 8 [l0] [vo s0, vo (some (o, 10, z))] h = (call 1001 [vo (some (o, 10, z)), vo s0] h).bind (fun z => run 1 1124 11 [l0] (z.1.toList ++ []) z.2)) ∧
  (∀  (w : Option Rf) (h : Hp), run 1 1124 11 [some (vo w)] [] h = run 1 1124 12 [some (vo w)] [vo w] h) ∧
  (∀ (l0 : Option AV) (s0 : Option Rf) (h : Hp), run 1 1124 12 [l0] [vo s0] h = run 1 1124 13 [l0] [vi (1 : Int32), vo s0] h) ∧
  (∀ (l0 : Option AV) (s0 : Int32) (o z : Nat) (h : Hp), run 1 1124 13 [l0] [vi s0, vo (some (o, 11, z))] h = if am_isd s0 = true then run 1 1124 16 [l0] [] (hsI h o 3 s0) else none) ∧
  (∀  (w : Option Rf) (h : Hp), run 1 1124 16 [some (vo w)] [] h = run 1 1124 17 [some (vo w)] [vo w] h) ∧
  (∀ (l0 : Option AV) (o z : Nat) (h : Hp), run 1 1124 17 [l0] [vo (some (o, 11, z))] h = run 1 1124 20 [l0] [vo (hR h o 0)] h) ∧
  (∀ (l0 : Option AV) (o z : Nat) (h : Hp), run 1 1124 20 [l0] [vo (some (o, 10, z))] h = run 1 1124 23 [l0] [vi (hI h o 2)] h) ∧
  (∀ (l0 : Option AV) (s0 : Int32) (h : Hp), run 1 1124 23 [l0] [vi s0] h = some (some (vi s0), h)) := ⟨(fun _ _ => run_next rfl rfl),
  (fun _ _ _ _ => run_next rfl rfl),
  (fun s0 _ _ => run_next rfl rfl),
  (fun _ _ _ _ _ => run_next rfl rfl),
  (fun _ s0 _ _ _ => run_calx rfl rfl (Nat.le_of_ble_eq_true rfl) (Nat.le_of_ble_eq_true rfl) rfl),
  (fun _ _ => run_next rfl rfl),
  (fun _ s0 _ => run_next rfl rfl),
  (fun _ s0 _ _ _ => run_ifz rfl rfl (by simp [am_sub]) (run_next rfl) (run_fail rfl)),
  (fun _ _ => run_next rfl rfl),
  (fun _ _ _ _ => run_next rfl rfl),
  (fun _ _ _ _ => run_next rfl rfl),
  (fun _ s0 _ => run_ret rfl rfl)⟩
theorem e_1124 (v : Option Rf) (h : Hp) : call 1124 [vo v] h = run 1 1124 0 [some (vo v)] [] h := rfl
set_option maxRecDepth 20000 in
theorem x_1125 : (∀  (w : Option Rf) (h : Hp), run 1 1125 0 [some (vo w)] [] h = run 1 1125 1 [some (vo w)] [vo w] h) ∧
  (∀ (l0 : Option AV) (o z : Nat) (h : Hp), run 1 1125 1 [l0] [vo (some (o, 11, z))] h = run 1 1125 4 [l0] [vi (hI h o 3)] h) ∧
  (∀ (l0 : Option AV) (s0 : Int32) (h : Hp), run 1 1125 4 [l0] [vi s0] h = if s0 = 0 then run 1 1125 7 [l0] [] h else run 1 1125 14 [l0] [] h) ∧
  (∀  (w : Option Rf) (h : Hp), run 1 1125 7 [some (vo w)] [] h = run 1 1125 8 [some (vo w)] [vo w] h) ∧
  (∀ (l0 : Option AV) (s0 : Option Rf) (h : Hp), run 1 1125 8 [l0] [vo s0] h = run 1 1125 10 [l0] [vi (-3 : Int32), vo s0] h) ∧
  (∀ (l0 : Option AV) (s0 : Int32) (o z : Nat) (h : Hp), run 1 1125 10 [l0] [vi s0, vo (some (o, 11, z))] h = (call 1128 [vo (some (o, 11, z)), vi s0] h).bind (fun z => run 1 1125 13 [l0] (z.1.toList ++ []) z.2)) ∧
  (∀ (l0 : Option AV) (s0 : Int32) (h : Hp), run 1 1125 13 [l0] [vi s0] h = some (some (vi s0), h)) ∧
  (∀  (w : Option Rf) (h : Hp), run 1 1125 14 [some (vo w)] [] h = run 1 1125 15 [some (vo w)] [vo w] h) ∧
  (∀ (l0 : Option AV) (o z : Nat) (h : Hp), run 1 1125 15 [l0] [vo (some (o, 11, z))] h = run 1 1125 18 [l0] [vo (hR h o 0)] h) ∧
  (∀ (s0 : Option Rf) (w : Option Rf) (h : Hp), run 1 1125 18 [some (vo w)] [vo s0] h = run 1 1125 19 [some (vo w)] [vo w, vo s0] h) ∧
  (∀ (l0 : Option AV) (s1 : Option Rf) (o z : Nat) (h : Hp), run 1 1125 19 [l0] [vo (some (o, 11, z)), vo s1] h = run 1 1125 22 [l0] [vo (hR h o 2), vo s1] h) ∧
  (∀ (l0 : Option AV) (s0 : Option Rf) (o z : Nat) (h : Hp), run 1 1125 22 [l0] [vo s0, vo (some (o, 10, z))] h = (call 1001 [vo (some (o, 10, z)), vo s0] h).bind (fun z => run 1 1125 25 [l0] (z.1.toList ++ []) z.2)) ∧
  (∀  (w : Option Rf) (h : Hp), run 1 1125 25 [some (vo w)] [] h = run 1 1125 26 [some (vo w)] [vo w] h) ∧
  (∀ (l0 : Option AV) (o z : Nat) (h : Hp), run 1 1125 26 [l0] [vo (some (o, 11, z))] h = run 1 1125 29 [l0] [vo (hR h o 0)] h) ∧
  (∀ (l0 : Option AV) (o z : Nat) (h : Hp), run 1 1125 29 [l0] [vo (some (o, 10, z))] h = run 1 1125 32 [l0] [vi (hI h o 2)] h) ∧
  (∀ (l0 : Option AV) (s0 : Int32) (h : Hp), run 1 1125 32 [l0] [vi s0] h = some (some (vi s0), h)) := ⟨(fun _ _ => run_next rfl rfl),
  (fun _ _ _ _ => run_next rfl rfl),
  (fun _ s0 _ => run_if rfl rfl (run_next rfl) (run_next rfl)),
  (fun _ _ => run_next rfl rfl),
  (fun _ s0 _ => run_next rfl rfl),
  (fun _ s0 _ _ _ => run_calx rfl rfl (Nat.le_of_ble_eq_true rfl) (Nat.le_of_ble_eq_true rfl) rfl),
  (fun _ s0 _ => run_ret rfl rfl),
  (fun _ _ => run_next rfl rfl),
  (fun _ _ _ _ => run_next rfl rfl),
  (fun s0 _ _ => run_next rfl rfl),
  (fun _ _ _ _ _ => run_next rfl rfl),
  (fun _ s0 _ _ _ => run_calx rfl rfl (Nat.le_of_ble_eq_true rfl) (Nat.le_of_ble_eq_true rfl) rfl),
  (fun _ _ => run_next rfl rfl),
  (fun _ _ _ _ => run_next rfl rfl),
  (fun _ _ _ _ => run_next rfl rfl),
  (fun _ s0 _ => run_ret rfl rfl)⟩
theorem e_1125 (v : Option Rf) (h : Hp) : call 1125 [vo v] h = run 1 1125 0 [some (vo v)] [] h := rfl
set_option maxRecDepth 20000 in
theorem x_1126 : (∀ (l0 : Option AV) (w : Int32) (h : Hp), run 2 1126 0 [l0, some (vi w)] [] h = run 2 1126 1 [l0, some (vi w)] [vi w] h) ∧
  (∀ (l0 l1 : Option AV) (s0 : Int32) (h : Hp), run 2 1126 1 [l0, l1] [vi s0] h = if s0 = 0 then run 2 1126 52 [l0, l1] [] h else if s0 = 1 then run 2 1126 63 [l0, l1] [] h else if s0 = 2 then run 2 1126 74 [l0, l1] [] h else if s0 = 3 then run 2 1126 82 [l0, l1] [] h else if s0 = 4 then run 2 1126 93 [l0, l1] [] h else if s0 = 5 then run 2 1126 101 [l0, l1] [] h else if s0 = 6 then run 2 1126 109 [l0, l1] [] h else if s0 = 7 then run 2 1126 117 [l0, l1] [] h else if s0 = 8 then run 2 1126 125 [l0, l1] [] h else run 2 1126 130 [l0, l1] [] h) ∧
  (∀ (l1 : Option AV) (w : Option Rf) (h : Hp), run 2 1126 52 [some (vo w), l1] [] h = run 2 1126 53 [some (vo w), l1] [vo w] h) ∧
  (∀ (l0 l1 : Option AV) (o z : Nat) (h : Hp), run 2 1126 53 [l0, l1] [vo (some (o, 11, z))] h = run 2 1126 56 [l0, l1] [vo (hR h o 0)] h) ∧
  (∀ (l0 l1 : Option AV) (o z : Nat) (h : Hp), run 2 1126 56 [l0, l1] [vo (some (o, 10, z))] h = run 2 1126 59 [l0, l1] [vo (hR h o 0)] h) ∧
  (∀ (l0 l1 : Option AV) (o z : Nat) (h : Hp), run 2 1126 59 [l0, l1] [vo (some (o, 5, z))] h = run 2 1126 62 [l0, l1] [vi (hI h o 0)] h) ∧
  (∀ (l0 l1 : Option AV) (s0 : Int32) (h : Hp), run 2 1126 62 [l0, l1] [vi s0] h = some (some (vi s0), h)) ∧
  (∀ (l1 : Option AV) (w : Option Rf) (h : Hp), run 2 1126 63 [some (vo w), l1] [] h = run 2 1126 64 [some (vo w), l1] [vo w] h) ∧
  (∀ (l0 l1 : Option AV) (o z : Nat) (h : Hp), run 2 1126 64 [l0, l1] [vo (some (o, 11, z))] h = run 2 1126 67 [l0, l1] [vo (hR h o 0)] h) ∧
  (∀ (l0 l1 : Option AV) (o z : Nat) (h : Hp), run 2 1126 67 [l0, l1] [vo (some (o, 10, z))] h = run 2 1126 70 [l0, l1] [vo (hR h o 0)] h) ∧
  (∀ (l0 l1 : Option AV) (o z : Nat) (h : Hp), run 2 1126 70 [l0, l1] [vo (some (o, 5, z))] h = run 2 1126 73 [l0, l1] [vi (hI h o 1)] h) ∧
  (∀ (l0 l1 : Option AV) (s0 : Int32) (h : Hp), run 2 1126 73 [l0, l1] [vi s0] h = some (some (vi s0), h)) ∧
  (∀ (l1 : Option AV) (w : Option Rf) (h : Hp), run 2 1126 74 [some (vo w), l1] [] h = run 2 1126 75 [some (vo w), l1] [vo w] h) ∧
  (∀ (l0 l1 : Option AV) (o z : Nat) (h : Hp), run 2 1126 75 [l0, l1] [vo (some (o, 11, z))] h = run 2 1126 78 [l0, l1] [vo (hR h o 0)] h) ∧
  (∀ (l0 l1 : Option AV) (o z : Nat) (h : Hp), run 2 1126 78 [l0, l1] [vo (some (o, 10, z))] h = run 2 1126 81 [l0, l1] [vi (hI h o 3)] h) ∧
  (∀ (l0 l1 : Option AV) (s0 : Int32) (h : Hp), run 2 1126 81 [l0, l1] [vi s0] h = some (some (vi s0), h)) ∧
  (∀ (l1 : Option AV) (w : Option Rf) (h : Hp), run 2 1126 82 [some (vo w), l1] [] h = run 2 1126 83 [some (vo w), l1] [vo w] h) ∧
  (∀ (l0 l1 : Option AV) (o z : Nat) (h : Hp), run 2 1126 83 [l0, l1] [vo (some (o, 11, z))] h = run 2 1126 86 [l0, l1] [vo (hR h o 0)] h) ∧
  (∀ (l0 l1 : Option AV) (o z : Nat) (h : Hp), run 2 1126 86 [l0, l1] [vo (some (o, 10, z))] h = run 2 1126 89 [l0, l1] [vo (hR h o 0)] h) ∧
  (∀ (l0 l1 : Option AV) (o z : Nat) (h : Hp), run 2 1126 89 [l0, l1] [vo (some (o, 5, z))] h = (call 505 [vo (some (o, 5, z))] h).bind (fun z => run 2 1126 92 [l0, l1] (z.1.toList ++ []) z.2)) ∧
  (∀ (l0 l1 : Option AV) (s0 : Int32) (h : Hp), run 2 1126 92 [l0, l1] [vi s0] h = some (some (vi s0), h)) ∧
  (∀ (l1 : Option AV) (w : Option Rf) (h : Hp), run 2 1126 93 [some (vo w), l1] [] h = run 2 1126 94 [some (vo w), l1] [vo w] h) ∧
  (∀ (l0 l1 : Option AV) (o z : Nat) (h : Hp), run 2 1126 94 [l0, l1] [vo (some (o, 11, z))] h = run 2 1126 97 [l0, l1] [vo (hR h o 0)] h) ∧
  (∀ (l0 l1 : Option AV) (o z : Nat) (h : Hp), run 2 1126 97 [l0, l1] [vo (some (o, 10, z))] h = run 2 1126 100 [l0, l1] [vi (hI h o 2)] h) ∧
  (∀ (l0 l1 : Option AV) (s0 : Int32) (h : Hp), run 2 1126 100 [l0, l1] [vi s0] h = some (some (vi s0), h)) ∧
  (∀ (l1 : Option AV) (w : Option Rf) (h : Hp), run 2 1126 101 [some (vo w), l1] [] h = run 2 1126 102 [some (vo w), l1] [vo w] h) ∧
  (∀ (l0 l1 : Option AV) (o z : Nat) (h : Hp), run 2 1126 102 [l0, l1] [vo (some (o, 11, z))] h = run 2 1126 105 [l0, l1] [vo (hR h o 0)] h) ∧
  (∀ (l0 l1 : Option AV) (o z : Nat) (h : Hp), run 2 1126 105 [l0, l1] [vo (some (o, 10, z))] h = run 2 1126 108 [l0, l1] [vi (hI h o 1)] h) ∧
  (∀ (l0 l1 : Option AV) (s0 : Int32) (h : Hp), run 2 1126 108 [l0, l1] [vi s0] h = some (some (vi s0), h)) ∧
  (∀ (l1 : Option AV) (w : Option Rf) (h : Hp), run 2 1126 109 [some (vo w), l1] [] h = run 2 1126 110 [some (vo w), l1] [vo w] h) ∧
  (∀ (l0 l1 : Option AV) (o z : Nat) (h : Hp), run 2 1126 110 [l0, l1] [vo (some (o, 11, z))] h = run 2 1126 113 [l0, l1] [vo (hR h o 5)] h) ∧
  (∀ (l0 l1 : Option AV) (o z : Nat) (h : Hp), run 2 1126 113 [l0, l1] [vo (some (o, 7, z))] h = run 2 1126 116 [l0, l1] [vi (hI h o 0)] h) ∧
  (∀ (l0 l1 : Option AV) (s0 : Int32) (h : Hp), run 2 1126 116 [l0, l1] [vi s0] h = some (some (vi s0), h)) ∧
  (∀ (l1 : Option AV) (w : Option Rf) (h : Hp), run 2 1126 117 [some (vo w), l1] [] h = run 2 1126 118 [some (vo w), l1] [vo w] h) ∧
  (∀ (l0 l1 : Option AV) (o z : Nat) (h : Hp), run 2 1126 118 [l0, l1] [vo (some (o, 11, z))] h = run 2 1126 121 [l0, l1] [vo (hR h o 4)] h) ∧
  (∀ (l0 l1 : Option AV) (o z : Nat) (h : Hp), run 2 1126 121 [l0, l1] [vo (some (o, 4, z))] h = run 2 1126 124 [l0, l1] [vi (hI h o 0)] h) ∧
  (∀ (l0 l1 : Option AV) (s0 : Int32) (h : Hp), run 2 1126 124 [l0, l1] [vi s0] h = some (some (vi s0), h)) ∧
  (∀ (l1 : Option AV) (w : Option Rf) (h : Hp), run 2 1126 125 [some (vo w), l1] [] h = run 2 1126 126 [some (vo w), l1] [vo w] h) ∧
  (∀ (l0 l1 : Option AV) (o z : Nat) (h : Hp), run 2 1126 126 [l0, l1] [vo (some (o, 11, z))] h = run 2 1126 129 [l0, l1] [vi (hI h o 8)] h) ∧
  (∀ (l0 l1 : Option AV) (s0 : Int32) (h : Hp), run 2 1126 129 [l0, l1] [vi s0] h = some (some (vi s0), h)) ∧
  (∀ (l1 : Option AV) (w : Option Rf) (h : Hp), run 2 1126 130 [some (vo w), l1] [] h = run 2 1126 131 [some (vo w), l1] [vo w] h) ∧
  (∀ (l0 : Option AV) (s0 : Option Rf) (w : Int32) (h : Hp), run 2 1126 131 [l0, some (vi w)] [vo s0] h = run 2 1126 132 [l0, some (vi w)] [vi w, vo s0] h) ∧
  (∀ (l0 l1 : Option AV) (s0 : Int32) (o z : Nat) (h : Hp), run 2 1126 132 [l0, l1] [vi s0, vo (some (o, 11, z))] h = (call 1127 [vo (some (o, 11, z)), vi s0] h).bind (fun z => run 2 1126 135 [l0, l1] (z.1.toList ++ []) z.2)) ∧
  (∀ (l0 l1 : Option AV) (s0 : Int32) (h : Hp), run 2 1126 135 [l0, l1] [vi s0] h = some (some (vi s0), h)) := ⟨(fun _ _ _ => run_next rfl rfl),
  (fun _ _ s0 _ => (run_sw (fun e => by subst e; exact run_next rfl rfl) fun n0 => (run_sw (fun e => by subst e; exact run_next rfl rfl) fun n1 => (run_sw (fun e => by subst e; exact run_next rfl rfl) fun n2 => (run_sw (fun e => by subst e; exact run_next rfl rfl) fun n3 => (run_sw (fun e => by subst e; exact run_next rfl rfl) fun n4 => (run_sw (fun e => by subst e; exact run_next rfl rfl) fun n5 => (run_sw (fun e => by subst e; exact run_next rfl rfl) fun n6 => (run_sw (fun e => by subst e; exact run_next rfl rfl) fun n7 => (run_sw (fun e => by subst e; exact run_next rfl rfl) fun n8 => run_swd 9 rfl rfl (sw_out9 n0 n1 n2 n3 n4 n5 n6 n7 n8))))))))))),
  (fun _ _ _ => run_next rfl rfl),
  (fun _ _ _ _ _ => run_next rfl rfl),
  (fun _ _ _ _ _ => run_next rfl rfl),
  (fun _ _ _ _ _ => run_next rfl rfl),
  (fun _ _ s0 _ => run_ret rfl rfl),
  (fun _ _ _ => run_next rfl rfl),
  (fun _ _ _ _ _ => run_next rfl rfl),
  (fun _ _ _ _ _ => run_next rfl rfl),
  (fun _ _ _ _ _ => run_next rfl rfl),
  (fun _ _ s0 _ => run_ret rfl rfl),
  (fun _ _ _ => run_next rfl rfl),
  (fun _ _ _ _ _ => run_next rfl rfl),
  (fun _ _ _ _ _ => run_next rfl rfl),
  (fun _ _ s0 _ => run_ret rfl rfl),
  (fun _ _ _ => run_next rfl rfl),
  (fun _ _ _ _ _ => run_next rfl rfl),
  (fun _ _ _ _ _ => run_next rfl rfl),
  (fun _ _ _ _ _ => run_calx rfl rfl (Nat.le_of_ble_eq_true rfl) (Nat.le_of_ble_eq_true rfl) rfl),
  (fun _ _ s0 _ => run_ret rfl rfl),
  (fun _ _ _ => run_next rfl rfl),
  (fun _ _ _ _ _ => run_next rfl rfl),
  (fun _ _ _ _ _ => run_next rfl rfl),
  (fun _ _ s0 _ => run_ret rfl rfl),
  (fun _ _ _ => run_next rfl rfl),
  (fun _ _ _ _ _ => run_next rfl rfl),
  (fun _ _ _ _ _ => run_next rfl rfl),
  (fun _ _ s0 _ => run_ret rfl rfl),
  (fun _ _ _ => run_next rfl rfl),
  (fun _ _ _ _ _ => run_next rfl rfl),
  (fun _ _ _ _ _ => run_next rfl rfl),
  (fun _ _ s0 _ => run_ret rfl rfl),
  (fun _ _ _ => run_next rfl rfl),
  (fun _ _ _ _ _ => run_next rfl rfl),
  (fun _ _ _ _ _ => run_next rfl rfl),
  (fun _ _ s0 _ => run_ret rfl rfl),
  (fun _ _ _ => run_next rfl rfl),
  (fun _ _ _ _ _ => run_next rfl rfl),
  (fun _ _ s0 _ => run_ret rfl rfl),
  (fun _ _ _ => run_next rfl rfl),
  (fun _ s0 _ _ => run_next rfl rfl),
  (fun _ _ s0 _ _ _ => run_calx rfl rfl (Nat.le_of_ble_eq_true rfl) (Nat.le_of_ble_eq_true rfl) rfl),
  (fun _ _ s0 _ => run_ret rfl rfl)⟩
theorem e_1126 (v : Option Rf) (a0 : Int32) (h : Hp) : call 1126 [vo v, vi a0] h = run 2 1126 0 [some (vo v), some (vi a0)] [] h := rfl
set_option maxRecDepth 20000 in
theorem x_1127 : (∀ (l0 : Option AV) (w : Int32) (h : Hp), run 0 1127 0 [l0, some (vi w)] [] h = run 0 1127 1 [l0, some (vi w)] [vi w] h) ∧
  (∀ (l0 l1 : Option AV) (s0 : Int32) (h : Hp), run 0 1127 1 [l0, l1] [vi s0] h = run 0 1127 3 [l0, l1] [vi (10 : Int32), vi s0] h) ∧
  (∀ (l0 l1 : Option AV) (s0 : Int32) (s1 : Int32) (h : Hp), run 0 1127 3 [l0, l1] [vi s0, vi s1] h = if s1 ≤ s0 then run 0 1127 12 [l0, l1] [] h else run 0 1127 6 [l0, l1] [] h) ∧
  (∀ (l0 : Option AV) (w : Int32) (h : Hp), run 0 1127 6 [l0, some (vi w)] [] h = run 0 1127 7 [l0, some (vi w)] [vi w] h) ∧
  (∀ (l0 l1 : Option AV) (s0 : Int32) (h : Hp), run 0 1127 7 [l0, l1] [vi s0] h = run 0 1127 9 [l0, l1] [vi (16 : Int32), vi s0] h) ∧
  (∀ (l0 l1 : Option AV) (s0 : Int32) (s1 : Int32) (h : Hp), run 0 1127 9 [l0, l1] [vi s0, vi s1] h = if s1 ≤ s0 then run 0 1127 15 [l0, l1] [] h else run 0 1127 12 [l0, l1] [] h) ∧
  (∀ (l0 l1 : Option AV) (h : Hp), run 0 1127 12 [l0, l1] [] h = run 0 1127 14 [l0, l1] [vi (-9 : Int32)] h) ∧
  (∀ (l0 l1 : Option AV) (s0 : Int32) (h : Hp), run 0 1127 14 [l0, l1] [vi s0] h = some (some (vi s0), h)) ∧
  (∀ (l1 : Option AV) (w : Option Rf) (h : Hp), run 0 1127 15 [some (vo w), l1] [] h = run 0 1127 16 [some (vo w), l1] [vo w] h) ∧
  (∀ (l0 l1 : Option AV) (o z : Nat) (h : Hp), run 0 1127 16 [l0, l1] [vo (some (o, 11, z))] h = run 0 1127 19 [l0, l1] [vo (hR h o 9)] h) ∧
  (∀ (l0 : Option AV) (s0 : Option Rf) (w : Int32) (h : Hp), run 0 1127 19 [l0, some (vi w)] [vo s0] h = run 0 1127 20 [l0, some (vi w)] [vi w, vo s0] h) ∧
  (∀ (l0 l1 : Option AV) (s0 : Int32) (s1 : Option Rf) (h : Hp), run 0 1127 20 [l0, l1] [vi s0, vo s1] h = run 0 1127 22 [l0, l1] [vi (10 : Int32), vi s0, vo s1] h) ∧
  (∀ (l0 l1 : Option AV) (s0 : Int32) (s1 : Int32) (s2 : Option Rf) (h : Hp), run 0 1127 22 [l0, l1] [vi s0, vi s1, vo s2] h = run 0 1127 23 [l0, l1] [vi (s1 - s0), vo s2] h) ∧
  (∀ (l0 l1 : Option AV) (s0 : Int32) (o z : Nat) (h : Hp), run 0 1127 23 [l0, l1] [vi s0, vo (some (o, 13, z))] h = if s0 < 0 ∨ z ≤ s0.toNatClampNeg then none else run 0 1127 24 [l0, l1] [vi (hI h o s0.toNatClampNeg)] h) ∧
  (∀ (l0 l1 : Option AV) (s0 : Int32) (h : Hp), run 0 1127 24 [l0, l1] [vi s0] h = some (some (vi s0), h)) := ⟨(fun _ _ _ => run_next rfl rfl),
  (fun _ _ s0 _ => run_next rfl rfl),
  (fun _ _ s0 _ _ => run_if rfl rfl (run_next rfl) (run_next rfl)),
  (fun _ _ _ => run_next rfl rfl),
  (fun _ _ s0 _ => run_next rfl rfl),
  (fun _ _ s0 _ _ => run_if rfl rfl (run_next rfl) (run_next rfl)),
  (fun _ _ _ => run_next rfl rfl),
  (fun _ _ s0 _ => run_ret rfl rfl),
  (fun _ _ _ => run_next rfl rfl),
  (fun _ _ _ _ _ => run_next rfl rfl),
  (fun _ s0 _ _ => run_next rfl rfl),
  (fun _ _ s0 _ _ => run_next rfl rfl),
  (fun _ _ s0 _ _ _ => run_next rfl rfl),
  (fun _ _ s0 _ _ _ => run_if rfl rfl (run_fail rfl) (run_next rfl)),
  (fun _ _ s0 _ => run_ret rfl rfl)⟩
theorem e_1127 (v : Option Rf) (a0 : Int32) (h : Hp) : call 1127 [vo v, vi a0] h = run 0 1127 0 [some (vo v), some (vi a0)] [] h := rfl
set_option maxRecDepth 20000 in
theorem x_1128 : (∀ (l0 : Option AV) (w : Int32) (h : Hp), run 0 1128 0 [l0, some (vi w)] [] h = run 0 1128 1 [l0, some (vi w)] [vi w] h) ∧
  (∀ (l0 l1 : Option AV) (s0 : Int32) (h : Hp), run 0 1128 1 [l0, l1] [vi s0] h = if 0 ≤ s0 then run 0 1128 21 [l0, l1] [] h else run 0 1128 4 [l0, l1] [] h) ∧
  (∀ (l0 : Option AV) (w : Int32) (h : Hp), run 0 1128 4 [l0, some (vi w)] [] h = run 0 1128 5 [l0, some (vi w)] [vi w] h) ∧
  (∀ (l0 l1 : Option AV) (s0 : Int32) (h : Hp), run 0 1128 5 [l0, l1] [vi s0] h = run 0 1128 7 [l0, l1] [vi (-6 : Int32), vi s0] h) ∧
  (∀ (l0 l1 : Option AV) (s0 : Int32) (s1 : Int32) (h : Hp), run 0 1128 7 [l0, l1] [vi s0, vi s1] h = if s1 < s0 then run 0 1128 21 [l0, l1] [] h else run 0 1128 10 [l0, l1] [] h) ∧
  (∀ (l1 : Option AV) (w : Option Rf) (h : Hp), run 0 1128 10 [some (vo w), l1] [] h = run 0 1128 11 [some (vo w), l1] [vo w] h) ∧
  (∀ (l0 l1 : Option AV) (o z : Nat) (h : Hp), run 0 1128 11 [l0, l1] [vo (some (o, 11, z))] h = run 0 1128 14 [l0, l1] [vo (hR h o 9)] h) ∧
  (∀ (l0 : Option AV) (s0 : Option Rf) (w : Int32) (h : Hp), run 0 1128 14 [l0, some (vi w)] [vo s0] h = run 0 1128 15 [l0, some (vi w)] [vi w, vo s0] h) ∧
  (∀ (l0 l1 : Option AV) (s0 : Int32) (s1 : Option Rf) (h : Hp), run 0 1128 15 [l0, l1] [vi s0, vo s1] h = run 0 1128 16 [l0, l1] [vi (-s0), vo s1] h) ∧
  (∀ (l0 l1 : Option AV) (s0 : Int32) (s1 : Option Rf) (h : Hp), run 0 1128 16 [l0, l1] [vi s0, vo s1] h = run 0 1128 17 [l0, l1] [vi s0, vo s1, vi s0, vo s1] h) ∧
  (∀ (l0 l1 : Option AV) (s0 : Int32) (s2 : Int32) (s3 : Option Rf) (o z : Nat) (h : Hp), run 0 1128 17 [l0, l1] [vi s0, vo (some (o, 13, z)), vi s2, vo s3] h = if s0 < 0 ∨ z ≤ s0.toNatClampNeg then none else run 0 1128 18 [l0, l1] [vi (hI h o s0.toNatClampNeg), vi s2, vo s3] h) ∧
  (∀ (l0 l1 : Option AV) (s0 : Int32) (s1 : Int32) (s2 : Option Rf) (h : Hp), run 0 1128 18 [l0, l1] [vi s0, vi s1, vo s2] h = run 0 1128 19 [l0, l1] [vi (1 : Int32), vi s0, vi s1, vo s2] h) ∧
  (∀ (l0 l1 : Option AV) (s0 : Int32) (s1 : Int32) (s2 : Int32) (s3 : Option Rf) (h : Hp), run 0 1128 19 [l0, l1] [vi s0, vi s1, vi s2, vo s3] h = run 0 1128 20 [l0, l1] [vi (s1 + s0), vi s2, vo s3] h) ∧
  (∀ (l0 l1 : Option AV) (s0 : Int32) (s1 : Int32) (o z : Nat) (h : Hp), run 0 1128 20 [l0, l1] [vi s0, vi s1, vo (some (o, 13, z))] h = if s1 < 0 ∨ z ≤ s1.toNatClampNeg then none else run 0 1128 21 [l0, l1] [] (hsI h o s1.toNatClampNeg s0)) ∧
  (∀ (l0 : Option AV) (w : Int32) (h : Hp), run 0 1128 21 [l0, some (vi w)] [] h = run 0 1128 22 [l0, some (vi w)] [vi w] h) ∧
  (∀ (l0 l1 : Option AV) (s0 : Int32) (h : Hp), run 0 1128 22 [l0, l1] [vi s0] h = some (some (vi s0), h)) := ⟨(fun _ _ _ => run_next rfl rfl),
  (fun _ _ s0 _ => run_if rfl rfl (run_next rfl) (run_next rfl)),
  (fun _ _ _ => run_next rfl rfl),
  (fun _ _ s0 _ => run_next rfl rfl),
  (fun _ _ s0 _ _ => run_if rfl rfl (run_next rfl) (run_next rfl)),
  (fun _ _ _ => run_next rfl rfl),
  (fun _ _ _ _ _ => run_next rfl rfl),
  (fun _ s0 _ _ => run_next rfl rfl),
  (fun _ _ s0 _ _ => run_next rfl rfl),
  (fun _ _ s0 _ _ => run_next rfl rfl),
  (fun _ _ s0 _ _ _ _ _ => run_if rfl rfl (run_fail rfl) (run_next rfl)),
  (fun _ _ s0 _ _ _ => run_next rfl rfl),
  (fun _ _ s0 _ _ _ _ => run_next rfl rfl),
  (fun _ _ s0 _ _ _ _ => run_if rfl rfl (run_fail rfl) (run_next rfl)),
  (fun _ _ _ => run_next rfl rfl),
  (fun _ _ s0 _ => run_ret rfl rfl)⟩
theorem e_1128 (v : Option Rf) (a0 : Int32) (h : Hp) : call 1128 [vo v, vi a0] h = run 0 1128 0 [some (vo v), some (vi a0)] [] h := rfl
set_option maxRecDepth 20000 in
theorem x_1129 : (∀ (l1 l2 : Option AV) (w : Int32) (h : Hp), run 0 1129 0 [some (vi w), l1, l2] [] h = run 0 1129 1 [some (vi w), l1, l2] [vi w] h) ∧
  (∀ (l0 l2 : Option AV) (s0 : Int32) (w : Int32) (h : Hp), run 0 1129 1 [l0, some (vi w), l2] [vi s0] h = run 0 1129 2 [l0, some (vi w), l2] [vi w, vi s0] h) ∧
  (∀ (l0 l1 l2 : Option AV) (s0 : Int32) (s1 : Int32) (h : Hp), run 0 1129 2 [l0, l1, l2] [vi s0, vi s1] h = if s0 ≤ s1 then run 0 1129 8 [l0, l1, l2] [] h else run 0 1129 5 [l0, l1, l2] [] h) ∧
  (∀ (l0 l1 l2 : Option AV) (h : Hp), run 0 1129 5 [l0, l1, l2] [] h = run 0 1129 7 [l0, l1, l2] [vi (-4 : Int32)] h) ∧
  (∀ (l0 l1 l2 : Option AV) (s0 : Int32) (h : Hp), run 0 1129 7 [l0, l1, l2] [vi s0] h = some (some (vi s0), h)) ∧
  (∀ (l1 l2 : Option AV) (w : Int32) (h : Hp), run 0 1129 8 [some (vi w), l1, l2] [] h = run 0 1129 9 [some (vi w), l1, l2] [vi w] h) ∧
  (∀ (l0 l1 : Option AV) (s0 : Int32) (w : Int32) (h : Hp), run 0 1129 9 [l0, l1, some (vi w)] [vi s0] h = run 0 1129 10 [l0, l1, some (vi w)] [vi w, vi s0] h) ∧
  (∀ (l0 l1 l2 : Option AV) (s0 : Int32) (s1 : Int32) (h : Hp), run 0 1129 10 [l0, l1, l2] [vi s0, vi s1] h = if s1 ≤ s0 then run 0 1129 18 [l0, l1, l2] [] h else run 0 1129 13 [l0, l1, l2] [] h) ∧
  (∀ (l0 l1 l2 : Option AV) (h : Hp), run 0 1129 13 [l0, l1, l2] [] h = run 0 1129 15 [l0, l1, l2] [vi (-6 : Int32)] h) ∧
  (∀ (l0 l1 l2 : Option AV) (s0 : Int32) (h : Hp), run 0 1129 15 [l0, l1, l2] [vi s0] h = run 0 1129 19 [l0, l1, l2] [vi s0] h) ∧
  (∀ (l0 l1 l2 : Option AV) (h : Hp), run 0 1129 18 [l0, l1, l2] [] h = run 0 1129 19 [l0, l1, l2] [vi (0 : Int32)] h) ∧
  (∀ (l0 l1 l2 : Option AV) (s0 : Int32) (h : Hp), run 0 1129 19 [l0, l1, l2] [vi s0] h = some (some (vi s0), h)) := ⟨(fun _ _ _ _ => run_next rfl rfl),
  (fun _ _ s0 _ _ => run_next rfl rfl),
  (fun _ _ _ s0 _ _ => run_if rfl rfl (run_next rfl) (run_next rfl)),
  (fun _ _ _ _ => run_next rfl rfl),
  (fun _ _ _ s0 _ => run_ret rfl rfl),
  (fun _ _ _ _ => run_next rfl rfl),
  (fun _ _ s0 _ _ => run_next rfl rfl),
  (fun _ _ _ s0 _ _ => run_if rfl rfl (run_next rfl) (run_next rfl)),
  (fun _ _ _ _ => run_next rfl rfl),
  (fun _ _ _ s0 _ => run_next rfl rfl),
  (fun _ _ _ _ => run_next rfl rfl),
  (fun _ _ _ s0 _ => run_ret rfl rfl)⟩
theorem e_1129 (a0 : Int32) (a1 : Int32) (a2 : Int32) (h : Hp) : call 1129 [vi a0, vi a1, vi a2] h = run 0 1129 0 [some (vi a0), some (vi a1), some (vi a2)] [] h := rfl
set_option maxRecDepth 20000 in
theorem x_1130 : (∀ (l1 : Option AV) (w : Int32) (h : Hp), run 0 1130 0 [some (vi w), l1] [] h = run 0 1130 1 [some (vi w), l1] [vi w] h) ∧
  (∀ (l0 l1 : Option AV) (s0 : Int32) (h : Hp), run 0 1130 1 [l0, l1] [vi s0] h = if s0 < 0 then run 0 1130 9 [l0, l1] [] h else run 0 1130 4 [l0, l1] [] h) ∧
  (∀ (l1 : Option AV) (w : Int32) (h : Hp), run 0 1130 4 [some (vi w), l1] [] h = run 0 1130 5 [some (vi w), l1] [vi w] h) ∧
  (∀ (l0 : Option AV) (s0 : Int32) (w : Int32) (h : Hp), run 0 1130 5 [l0, some (vi w)] [vi s0] h = run 0 1130 6 [l0, some (vi w)] [vi w, vi s0] h) ∧
  (∀ (l0 l1 : Option AV) (s0 : Int32) (s1 : Int32) (h : Hp), run 0 1130 6 [l0, l1] [vi s0, vi s1] h = if s1 ≤ s0 then run 0 1130 14 [l0, l1] [] h else run 0 1130 9 [l0, l1] [] h) ∧
  (∀ (l0 l1 : Option AV) (h : Hp), run 0 1130 9 [l0, l1] [] h = run 0 1130 11 [l0, l1] [vi (-2 : Int32)] h) ∧
  (∀ (l0 l1 : Option AV) (s0 : Int32) (h : Hp), run 0 1130 11 [l0, l1] [vi s0] h = run 0 1130 15 [l0, l1] [vi s0] h) ∧
  (∀ (l0 l1 : Option AV) (h : Hp), run 0 1130 14 [l0, l1] [] h = run 0 1130 15 [l0, l1] [vi (0 : Int32)] h) ∧
  (∀ (l0 l1 : Option AV) (s0 : Int32) (h : Hp), run 0 1130 15 [l0, l1] [vi s0] h = some (some (vi s0), h)) := ⟨(fun _ _ _ => run_next rfl rfl),
  (fun _ _ s0 _ => run_if rfl rfl (run_next rfl) (run_next rfl)),
  (fun _ _ _ => run_next rfl rfl),
  (fun _ s0 _ _ => run_next rfl rfl),
  (fun _ _ s0 _ _ => run_if rfl rfl (run_next rfl) (run_next rfl)),
  (fun _ _ _ => run_next rfl rfl),
  (fun _ _ s0 _ => run_next rfl rfl),
  (fun _ _ _ => run_next rfl rfl),
  (fun _ _ s0 _ => run_ret rfl rfl)⟩
theorem e_1130 (a0 : Int32) (a1 : Int32) (h : Hp) : call 1130 [vi a0, vi a1] h = run 0 1130 0 [some (vi a0), some (vi a1)] [] h := rfl
set_option maxRecDepth 20000 in
theorem x_1131 : (∀ (l1 : Option AV) (w : Option Rf) (h : Hp), run 1 1131 0 [some (vo w), l1] [] h = run 1 1131 1 [some (vo w), l1] [vo w] h) ∧
  (∀ (l0 l1 : Option AV) (o z : Nat) (h : Hp), run 1 1131 1 [l0, l1] [vo (some (o, 11, z))] h = run 1 1131 4 [l0, l1] [vo (hR h o 0)] h) ∧
  (∀ (l0 : Option AV) (s0 : Option Rf) (w : Int32) (h : Hp), run 1 1131 4 [l0, some (vi w)] [vo s0] h = run 1 1131 5 [l0, some (vi w)] [vi w, vo s0] h) ∧
  (∀ (l0 l1 : Option AV) (s0 : Int32) (o z : Nat) (h : Hp), run 1 1131 5 [l0, l1] [vi s0, vo (some (o, 10, z))] h = (call 1004 [vo (some (o, 10, z)), vi s0] h).bind (fun z => run 1 1131 8 [l0, l1] (z.1.toList ++ []) z.2)) ∧
  (∀ (l0 l1 : Option AV) (h : Hp), run 1 1131 8 [l0, l1] [vo none] h = run 1 1131 11 [l0, l1] [] h) ∧
  (∀ (l0 l1 : Option AV) (w : Rf) (h : Hp), run 1 1131 8 [l0, l1] [vo (some w)] h = run 1 1131 15 [l0, l1] [] h) ∧
  (∀ (l0 l1 : Option AV) (h : Hp), run 1 1131 11 [l0, l1] [] h = run 1 1131 12 [l0, l1] [vi (-1 : Int32)] h) ∧
  (∀ (l0 l1 : Option AV) (s0 : Int32) (h : Hp), run 1 1131 12 [l0, l1] [vi s0] h = run 1 1131 16 [l0, l1] [vi s0] h) ∧
  (∀ (l0 l1 : Option AV) (h : Hp), run 1 1131 15 [l0, l1] [] h = run 1 1131 16 [l0, l1] [vi (0 : Int32)] h) ∧
  (∀ (l0 l1 : Option AV) (s0 : Int32) (h : Hp), run 1 1131 16 [l0, l1] [vi s0] h = some (some (vi s0), h)) := ⟨(fun _ _ _ => run_next rfl rfl),
  (fun _ _ _ _ _ => run_next rfl rfl),
  (fun _ s0 _ _ => run_next rfl rfl),
  (fun _ _ s0 _ _ _ => run_calx rfl rfl (Nat.le_of_ble_eq_true rfl) (Nat.le_of_ble_eq_true rfl) rfl),
  (fun _ _ _ => run_next rfl rfl),
  (fun _ _ _ _ => run_next rfl rfl),
  (fun _ _ _ => run_next rfl rfl),
  (fun _ _ s0 _ => run_next rfl rfl),
  (fun _ _ _ => run_next rfl rfl),
  (fun _ _ s0 _ => run_ret rfl rfl)⟩
theorem e_1131 (v : Option Rf) (a0 : Int32) (h : Hp) : call 1131 [vo v, vi a0] h = run 1 1131 0 [some (vo v), some (vi a0)] [] h := rfl
set_option maxRecDepth 20000 in
theorem x_1132 : (∀ (l0 l2 : Option AV) (w : Int32) (h : Hp), run 2 1132 0 [l0, some (vi w), l2] [] h = run 2 1132 1 [l0, some (vi w), l2] [vi w] h) ∧
  (∀ (l0 l1 : Option AV) (s0 : Int32) (w : Int32) (h : Hp), run 2 1132 1 [l0, l1, some (vi w)] [vi s0] h = run 2 1132 2 [l0, l1, some (vi w)] [vi w, vi s0] h) ∧
  (∀ (l0 l1 l2 : Option AV) (s0 : Int32) (s1 : Int32) (h : Hp), run 2 1132 2 [l0, l1, l2] [vi s0, vi s1] h = if s1 = s0 then run 2 1132 21 [l0, l1, l2] [] h else run 2 1132 5 [l0, l1, l2] [] h) ∧
  (∀ (l1 l2 : Option AV) (w : Option Rf) (h : Hp), run 2 1132 5 [some (vo w), l1, l2] [] h = run 2 1132 6 [some (vo w), l1, l2] [vo w] h) ∧
  (∀ (l0 l2 : Option AV) (s0 : Option Rf) (w : Int32) (h : Hp), run 2 1132 6 [l0, some (vi w), l2] [vo s0] h = run 2 1132 7 [l0, some (vi w), l2] [vi w, vo s0] h) ∧
  (∀ (l0 l1 l2 : Option AV) (s0 : Int32) (o z : Nat) (h : Hp), run 2 1132 7 [l0, l1, l2] [vi s0, vo (some (o, 11, z))] h = (call 1131 [vo (some (o, 11, z)), vi s0] h).bind (fun z => run 2 1132 10 [l0, l1, l2] (z.1.toList ++ []) z.2)) ∧
  (∀ (l0 l1 l2 : Option AV) (s0 : Int32) (h : Hp), run 2 1132 10 [l0, l1, l2] [vi s0] h = if s0 = 0 then run 2 1132 13 [l0, l1, l2] [] h else run 2 1132 21 [l0, l1, l2] [] h) ∧
  (∀ (l1 l2 : Option AV) (w : Option Rf) (h : Hp), run 2 1132 13 [some (vo w), l1, l2] [] h = run 2 1132 14 [some (vo w), l1, l2] [vo w] h) ∧
  (∀ (l0 l1 : Option AV) (s0 : Option Rf) (w : Int32) (h : Hp), run 2 1132 14 [l0, l1, some (vi w)] [vo s0] h = run 2 1132 15 [l0, l1, some (vi w)] [vi w, vo s0] h) ∧
  (∀ (l0 l1 l2 : Option AV) (s0 : Int32) (o z : Nat) (h : Hp), run 2 1132 15 [l0, l1, l2] [vi s0, vo (some (o, 11, z))] h = (call 1131 [vo (some (o, 11, z)), vi s0] h).bind (fun z => run 2 1132 18 [l0, l1, l2] (z.1.toList ++ []) z.2)) ∧
  (∀ (l0 l1 l2 : Option AV) (s0 : Int32) (h : Hp), run 2 1132 18 [l0, l1, l2] [vi s0] h = if s0 = 0 then run 2 1132 25 [l0, l1, l2] [] h else run 2 1132 21 [l0, l1, l2] [] h) ∧
  (∀ (l0 l1 l2 : Option AV) (h : Hp), run 2 1132 21 [l0, l1, l2] [] h = run 2 1132 22 [l0, l1, l2] [vi (-1 : Int32)] h) ∧
  (∀ (l0 l1 l2 : Option AV) (s0 : Int32) (h : Hp), run 2 1132 22 [l0, l1, l2] [vi s0] h = run 2 1132 26 [l0, l1, l2] [vi s0] h) ∧
  (∀ (l0 l1 l2 : Option AV) (h : Hp), run 2 1132 25 [l0, l1, l2] [] h = run 2 1132 26 [l0, l1, l2] [vi (0 : Int32)] h) ∧
  (∀ (l0 l1 l2 : Option AV) (s0 : Int32) (h : Hp), run 2 1132 26 [l0, l1, l2] [vi s0] h = some (some (vi s0), h)) := ⟨(fun _ _ _ _ => run_next rfl rfl),
  (fun _ _ s0 _ _ => run_next rfl rfl),
  (fun _ _ _ s0 _ _ => run_if rfl rfl (run_next rfl) (run_next rfl)),
  (fun _ _ _ _ => run_next rfl rfl),
  (fun _ _ s0 _ _ => run_next rfl rfl),
  (fun _ _ _ s0 _ _ _ => run_calx rfl rfl (Nat.le_of_ble_eq_true rfl) (Nat.le_of_ble_eq_true rfl) rfl),
  (fun _ _ _ s0 _ => run_if rfl rfl (run_next rfl) (run_next rfl)),
  (fun _ _ _ _ => run_next rfl rfl),
  (fun _ _ s0 _ _ => run_next rfl rfl),
  (fun _ _ _ s0 _ _ _ => run_calx rfl rfl (Nat.le_of_ble_eq_true rfl) (Nat.le_of_ble_eq_true rfl) rfl),
  (fun _ _ _ s0 _ => run_if rfl rfl (run_next rfl) (run_next rfl)),
  (fun _ _ _ _ => run_next rfl rfl),
  (fun _ _ _ s0 _ => run_next rfl rfl),
  (fun _ _ _ _ => run_next rfl rfl),
  (fun _ _ _ s0 _ => run_ret rfl rfl)⟩
theorem e_1132 (v : Option Rf) (a0 : Int32) (a1 : Int32) (h : Hp) : call 1132 [vo v, vi a0, vi a1] h = run 2 1132 0 [some (vo v), some (vi a0), some (vi a1)] [] h := rfl
set_option maxRecDepth 20000 in
theorem x_1133 : (∀ (l1 : Option AV) (w : Option Rf) (h : Hp), run 1 1133 0 [some (vo w), l1] [] h = run 1 1133 1 [some (vo w), l1] [vo w] h) ∧
  (∀ (l0 l1 : Option AV) (o z : Nat) (h : Hp), run 1 1133 1 [l0, l1] [vo (some (o, 11, z))] h = run 1 1133 4 [l0, l1] [vo (hR h o 0)] h) ∧
  (∀ (l0 l1 : Option AV) (o z : Nat) (h : Hp), run 1 1133 4 [l0, l1] [vo (some (o, 10, z))] h = run 1 1133 7 [l0, l1] [vo (hR h o 0)] h) ∧
  (∀ (l0 : Option AV) (s0 : Option Rf) (w : Int32) (h : Hp), run 1 1133 7 [l0, some (vi w)] [vo s0] h = run 1 1133 8 [l0, some (vi w)] [vi w, vo s0] h) ∧
  (∀ (l0 l1 : Option AV) (s0 : Int32) (o z : Nat) (h : Hp), run 1 1133 8 [l0, l1] [vi s0, vo (some (o, 5, z))] h = (call 504 [vo (some (o, 5, z)), vi s0] h).bind (fun z => run 1 1133 11 [l0, l1] (z.1.toList ++ []) z.2)) ∧
  (∀ (l0 l1 : Option AV) (s0 : Int32) (h : Hp), run 1 1133 11 [l0, l1] [vi s0] h = if s0 = 0 then run 1 1133 18 [l0, l1] [] h else run 1 1133 14 [l0, l1] [] h) ∧
  (∀ (l0 l1 : Option AV) (h : Hp), run 1 1133 14 [l0, l1] [] h = run 1 1133 15 [l0, l1] [vi (0 : Int32)] h) ∧
  (∀ (l0 l1 : Option AV) (s0 : Int32) (h : Hp), run 1 1133 15 [l0, l1] [vi s0] h = run 1 1133 19 [l0, l1] [vi s0] h) ∧
  (∀ (l0 l1 : Option AV) (h : Hp), run 1 1133 18 [l0, l1] [] h = run 1 1133 19 [l0, l1] [vi (-1 : Int32)] h) ∧
  (∀ (l0 l1 : Option AV) (s0 : Int32) (h : Hp), run 1 1133 19 [l0, l1] [vi s0] h = some (some (vi s0), h)) := ⟨(fun _ _ _ => run_next rfl rfl),
  (fun _ _ _ _ _ => run_next rfl rfl),
  (fun _ _ _ _ _ => run_next rfl rfl),
  (fun _ s0 _ _ => run_next rfl rfl),
  (fun _ _ s0 _ _ _ => run_calx rfl rfl (Nat.le_of_ble_eq_true rfl) (Nat.le_of_ble_eq_true rfl) rfl),
  (fun _ _ s0 _ => run_if rfl rfl (run_next rfl) (run_next rfl)),
  (fun _ _ _ => run_next rfl rfl),
  (fun _ _ s0 _ => run_next rfl rfl),
  (fun _ _ _ => run_next rfl rfl),
  (fun _ _ s0 _ => run_ret rfl rfl)⟩
theorem e_1133 (v : Option Rf) (a0 : Int32) (h : Hp) : call 1133 [vo v, vi a0] h = run 1 1133 0 [some (vo v), some (vi a0)] [] h := rfl
