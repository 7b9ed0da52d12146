set_option maxRecDepth 20000 in
theorem x_1234 : (∀ (l1 l2 : Option AV) (w : Option Rf) (h : Hp), run 5 1234 0 [some (vo w), l1, l2] [] h = run 5 1234 1 [some (vo w), l1, l2] [vo w] h) ∧
  (∀ (l0 l1 l2 : Option AV) (s0 : Option Rf) (h : Hp), run 5 1234 1 [l0, l1, l2] [vo s0] h = run 5 1234 2 [l0, l1, l2] [vi (0 : Int32), vo s0] h) ∧
  (∀ (l0 l1 l2 : Option AV) (s0 : Int32) (o z : Nat) (h : Hp), run 5 1234 2 [l0, l1, l2] [vi s0, vo (some (o, 12, z))] h = run 5 1234 5 [l0, l1, l2] [] (hsI h o 12 s0)) ∧
  (∀ (l1 l2 : Option AV) (w : Option Rf) (h : Hp), run 5 1234 5 [some (vo w), l1, l2] [] h = run 5 1234 6 [some (vo w), l1, l2] [vo w] h) ∧
  (∀ (l0 l2 : Option AV) (s0 : Option Rf) (w : Int32) (h : Hp), run 5 1234 6 [l0, some (vi w), l2] [vo s0] h = run 5 1234 7 [l0, some (vi w), l2] [vi w, vo s0] h) ∧
  (∀ (l0 l1 l2 : Option AV) (s0 : Int32) (o z : Nat) (h : Hp), run 5 1234 7 [l0, l1, l2] [vi s0, vo (some (o, 12, z))] h = (call 1204 [vo (some (o, 12, z)), vi s0] h).bind (fun z => run 5 1234 10 [l0, l1, l2] (z.1.toList ++ []) z.2)) ∧
  (∀ (l0 l1 l2 : Option AV) (s0 : Int32) (h : Hp), run 5 1234 10 [l0, l1, l2] [vi s0] h = if s0 = 0 then run 5 1234 25 [l0, l1, l2] [] h else run 5 1234 13 [l0, l1, l2] [] h) ∧
  (∀ (l0 l1 : Option AV) (w : Int32) (h : Hp), run 5 1234 13 [l0, l1, some (vi w)] [] h = run 5 1234 14 [l0, l1, some (vi w)] [vi w] h) ∧
  (∀ (l0 l1 l2 : Option AV) (s0 : Int32) (h : Hp), run 5 1234 14 [l0, l1, l2] [vi s0] h = run 5 1234 15 [l0, l1, l2] [vl s0.toInt64] h) ∧
  (∀ (l0 l1 l2 : Option AV) (s0 : Int64) (h : Hp), run 5 1234 15 [l0, l1, l2] [vl s0] h = run 5 1234 16 [l0, l1, l2] [vl (0 : Int64), vl s0] h) ∧
  (∀ (l0 l1 l2 : Option AV) (s0 : Int64) (s1 : Int64) (h : Hp), run 5 1234 16 [l0, l1, l2] [vl s0, vl s1] h = run 5 1234 19 [l0, l1, l2] [vl (4 : Int64), vl s0, vl s1] h) ∧
  (∀ (l0 l1 l2 : Option AV) (s0 : Int64) (s1 : Int64) (s2 : Int64) (h : Hp), run 5 1234 19 [l0, l1, l2] [vl s0, vl s1, vl s2] h = (call 1201 [vl s2, vl s1, vl s0] h).bind (fun z => run 5 1234 22 [l0, l1, l2] (z.1.toList ++ []) z.2)) ∧
  (∀ (l0 l1 l2 : Option AV) (s0 : Int32) (h : Hp), run 5 1234 22 [l0, l1, l2] [vi s0] h = if s0 = 0 then run 5 1234 25 [l0, l1, l2] [] h else run 5 1234 44 [l0, l1, l2] [] h) ∧
  (∀ (l1 l2 : Option AV) (w : Option Rf) (h : Hp), run 5 1234 25 [some (vo w), l1, l2] [] h = run 5 1234 26 [some (vo w), l1, l2] [vo w] h) ∧
  (∀ (l1 l2 : Option AV) (s0 : Option Rf) (w : Option Rf) (h : Hp), run 5 1234 26 [some (vo w), l1, l2] [vo s0] h = run 5 1234 27 [some (vo w), l1, l2] [vo w, vo s0] h) ∧
  (∀ (l0 l2 : Option AV) (s0 : Option Rf) (s1 : Option Rf) (w : Int32) (h : Hp), run 5 1234 27 [l0, some (vi w), l2] [vo s0, vo s1] h = run 5 1234 28 [l0, some (vi w), l2] [vi w, vo s0, vo s1] h) ∧
  (∀ (l0 l1 l2 : Option AV) (s0 : Int32) (s2 : Option Rf) (o z : Nat) (h : Hp), run 5 1234 28 [l0, l1, l2] [vi s0, vo (some (o, 12, z)), vo s2] h = (call 1204 [vo (some (o, 12, z)), vi s0] h).bind (fun z => run 5 1234 31 [l0, l1, l2] (z.1.toList ++ [vo s2]) z.2)) ∧
  (∀ (l0 l1 l2 : Option AV) (s0 : Int32) (s1 : Option Rf) (h : Hp), run 5 1234 31 [l0, l1, l2] [vi s0, vo s1] h = if s0 = 0 then run 5 1234 39 [l0, l1, l2] [vo s1] h else run 5 1234 34 [l0, l1, l2] [vo s1] h) ∧
  (∀ (l0 l1 l2 : Option AV) (s0 : Option Rf) (h : Hp), run 5 1234 34 [l0, l1, l2] [vo s0] h = run 5 1234 36 [l0, l1, l2] [vi (-2 : Int32), vo s0] h) ∧
  (∀ (l0 l1 l2 : Option AV) (s0 : Int32) (s1 : Option Rf) (h : Hp), run 5 1234 36 [l0, l1, l2] [vi s0, vo s1] h = run 5 1234 40 [l0, l1, l2] [vi s0, vo s1] h) ∧
  (∀ (l0 l1 l2 : Option AV) (s0 : Option Rf) (h : Hp), run 5 1234 39 [l0, l1, l2] [vo s0] h = run 5 1234 40 [l0, l1, l2] [vi (-1 : Int32), vo s0] h) ∧
  (∀ (l0 l1 l2 : Option AV) (s0 : Int32) (o z : Nat) (h : Hp), run 5 1234 40 [l0, l1, l2] [vi s0, vo (some (o, 12, z))] h = (call 1202 [vo (some (o, 12, z)), vi s0] h).bind (fun z => run 5 1234 43 [l0, l1, l2] (z.1.toList ++ []) z.2)) ∧
  (∀ (l0 l1 l2 : Option AV) (s0 : Int32) (h : Hp), run 5 1234 43 [l0, l1, l2] [vi s0] h = some (some (vi s0), h)) ∧
  (∀ (l0 l1 : Option AV) (w : Int32) (h : Hp), run 5 1234 44 [l0, l1, some (vi w)] [] h = run 5 1234 45 [l0, l1, some (vi w)] [vi w] h) ∧
  (∀ (l0 l1 l2 : Option AV) (s0 : Int32) (h : Hp), run 5 1234 45 [l0, l1, l2] [vi s0] h = if s0 = 0 then run 5 1234 48 [l0, l1, l2] [] h else run 5 1234 57 [l0, l1, l2] [] h) ∧
  (∀ (l1 l2 : Option AV) (w : Option Rf) (h : Hp), run 5 1234 48 [some (vo w), l1, l2] [] h = run 5 1234 49 [some (vo w), l1, l2] [vo w] h) ∧
  (∀ (l0 l1 l2 : Option AV) (o z : Nat) (h : Hp), run 5 1234 49 [l0, l1, l2] [vo (some (o, 12, z))] h = run 5 1234 52 [l0, l1, l2] [vo (hR h o 6)] h) ∧
  (∀ (l0 l2 : Option AV) (s0 : Option Rf) (w : Int32) (h : Hp), run 5 1234 52 [l0, some (vi w), l2] [vo s0] h = run 5 1234 53 [l0, some (vi w), l2] [vi w, vo s0] h) ∧
  (∀ (l0 l1 l2 : Option AV) (s0 : Int32) (o z : Nat) (h : Hp), run 5 1234 53 [l0, l1, l2] [vi s0, vo (some (o, 13, z))] h = if s0 < 0 ∨ z ≤ s0.toNatClampNeg then none else run 5 1234 54 [l0, l1, l2] [vi (hI h o s0.toNatClampNeg)] h) ∧
  (∀ (l0 l1 l2 : Option AV) (s0 : Int32) (h : Hp), run 5 1234 54 [l0, l1, l2] [vi s0] h = run 5 1234 103 [l0, l1, l2] [vi s0] h) ∧
  (∀ (l0 l1 : Option AV) (w : Int32) (h : Hp), run 5 1234 57 [l0, l1, some (vi w)] [] h = run 5 1234 58 [l0, l1, some (vi w)] [vi w] h) ∧
  (∀ (l0 l1 l2 : Option AV) (s0 : Int32) (h : Hp), run 5 1234 58 [l0, l1, l2] [vi s0] h = run 5 1234 59 [l0, l1, l2] [vi (1 : Int32), vi s0] h) ∧
  (∀ (l0 l1 l2 : Option AV) (s0 : Int32) (s1 : Int32) (h : Hp), run 5 1234 59 [l0, l1, l2] [vi s0, vi s1] h = if s1 = s0 then run 5 1234 62 [l0, l1, l2] [] h else run 5 1234 71 [l0, l1, l2] [] h) ∧
  (∀ (l1 l2 : Option AV) (w : Option Rf) (h : Hp), run 5 1234 62 [some (vo w), l1, l2] [] h = run 5 1234 63 [some (vo w), l1, l2] [vo w] h) ∧
  (∀ (l0 l1 l2 : Option AV) (o z : Nat) (h : Hp), run 5 1234 63 [l0, l1, l2] [vo (some (o, 12, z))] h = run 5 1234 66 [l0, l1, l2] [vo (hR h o 7)] h) ∧
  (∀ (l0 l2 : Option AV) (s0 : Option Rf) (w : Int32) (h : Hp), run 5 1234 66 [l0, some (vi w), l2] [vo s0] h = run 5 1234 67 [l0, some (vi w), l2] [vi w, vo s0] h) ∧
  (∀ (l0 l1 l2 : Option AV) (s0 : Int32) (o z : Nat) (h : Hp), run 5 1234 67 [l0, l1, l2] [vi s0, vo (some (o, 13, z))] h = if s0 < 0 ∨ z ≤ s0.toNatClampNeg then none else run 5 1234 68 [l0, l1, l2] [vi (hI h o s0.toNatClampNeg)] h) ∧
  (∀ (l0 l1 l2 : Option AV) (s0 : Int32) (h : Hp), run 5 1234 68 [l0, l1, l2] [vi s0] h = run 5 1234 103 [l0, l1, l2] [vi s0] h) ∧
  (∀ (l0 l1 : Option AV) (w : Int32) (h : Hp), run 5 1234 71 [l0, l1, some (vi w)] [] h = run 5 1234 72 [l0, l1, some (vi w)] [vi w] h) ∧
  (∀ (l0 l1 l2 : Option AV) (s0 : Int32) (h : Hp), run 5 1234 72 [l0, l1, l2] [vi s0] h = run 5 1234 73 [l0, l1, l2] [vi (2 : Int32), vi s0] h) ∧
  (∀ (l0 l1 l2 : Option AV) (s0 : Int32) (s1 : Int32) (h : Hp), run 5 1234 73 [l0, l1, l2] [vi s0, vi s1] h = if s1 = s0 then run 5 1234 76 [l0, l1, l2] [] h else run 5 1234 84 [l0, l1, l2] [] h) ∧
  (∀ (l1 l2 : Option AV) (w : Option Rf) (h : Hp), run 5 1234 76 [some (vo w), l1, l2] [] h = run 5 1234 77 [some (vo w), l1, l2] [vo w] h) ∧
  (∀ (l0 l2 : Option AV) (s0 : Option Rf) (w : Int32) (h : Hp), run 5 1234 77 [l0, some (vi w), l2] [vo s0] h = run 5 1234 78 [l0, some (vi w), l2] [vi w, vo s0] h) ∧
  (∀ (l0 l1 l2 : Option AV) (s0 : Int32) (o z : Nat) (h : Hp), run 5 1234 78 [l0, l1, l2] [vi s0, vo (some (o, 12, z))] h = (call 1210 [vo (some (o, 12, z)), vi s0] h).bind (fun z => run 5 1234 81 [l0, l1, l2] (z.1.toList ++ []) z.2)) ∧
  (∀ (l0 l1 l2 : Option AV) (s0 : Int32) (h : Hp), run 5 1234 81 [l0, l1, l2] [vi s0] h = run 5 1234 103 [l0, l1, l2] [vi s0] h) ∧
  (∀ (l0 l1 : Option AV) (w : Int32) (h : Hp), run 5 1234 84 [l0, l1, some (vi w)] [] h = run 5 1234 85 [l0, l1, some (vi w)] [vi w] h) ∧
  (∀ (l0 l1 l2 : Option AV) (s0 : Int32) (h : Hp), run 5 1234 85 [l0, l1, l2] [vi s0] h = run 5 1234 86 [l0, l1, l2] [vi (3 : Int32), vi s0] h) ∧
  (∀ (l0 l1 l2 : Option AV) (s0 : Int32) (s1 : Int32) (h : Hp), run 5 1234 86 [l0, l1, l2] [vi s0, vi s1] h = if s1 = s0 then run 5 1234 89 [l0, l1, l2] [] h else run 5 1234 98 [l0, l1, l2] [] h) ∧
  (∀ (l1 l2 : Option AV) (w : Option Rf) (h : Hp), run 5 1234 89 [some (vo w), l1, l2] [] h = run 5 1234 90 [some (vo w), l1, l2] [vo w] h) ∧
  (∀ (l0 l1 l2 : Option AV) (o z : Nat) (h : Hp), run 5 1234 90 [l0, l1, l2] [vo (some (o, 12, z))] h = run 5 1234 93 [l0, l1, l2] [vo (hR h o 8)] h) ∧
  (∀ (l0 l2 : Option AV) (s0 : Option Rf) (w : Int32) (h : Hp), run 5 1234 93 [l0, some (vi w), l2] [vo s0] h = run 5 1234 94 [l0, some (vi w), l2] [vi w, vo s0] h) ∧
  (∀ (l0 l1 l2 : Option AV) (s0 : Int32) (o z : Nat) (h : Hp), run 5 1234 94 [l0, l1, l2] [vi s0, vo (some (o, 13, z))] h = if s0 < 0 ∨ z ≤ s0.toNatClampNeg then none else run 5 1234 95 [l0, l1, l2] [vi (hI h o s0.toNatClampNeg)] h) ∧
  (∀ (l0 l1 l2 : Option AV) (s0 : Int32) (h : Hp), run 5 1234 95 [l0, l1, l2] [vi s0] h = run 5 1234 103 [l0, l1, l2] [vi s0] h) ∧
  (∀ (l1 l2 : Option AV) (w : Option Rf) (h : Hp), run 5 1234 98 [some (vo w), l1, l2] [] h = run 5 1234 99 [some (vo w), l1, l2] [vo w] h) ∧
  (∀ (l0 l2 : Option AV) (s0 : Option Rf) (w : Int32) (h : Hp), run 5 1234 99 [l0, some (vi w), l2] [vo s0] h = run 5 1234 100 [l0, some (vi w), l2] [vi w, vo s0] h) ∧
  (∀ (l0 l1 l2 : Option AV) (s0 : Int32) (o z : Nat) (h : Hp), run 5 1234 100 [l0, l1, l2] [vi s0, vo (some (o, 12, z))] h = (call 1216 [vo (some (o, 12, z)), vi s0] h).bind (fun z => run 5 1234 103 [l0, l1, l2] (z.1.toList ++ []) z.2)) ∧
  (∀ (l0 l1 l2 : Option AV) (s0 : Int32) (h : Hp), run 5 1234 103 [l0, l1, l2] [vi s0] h = some (some (vi s0), h)) := ⟨(fun _ _ _ _ => run_next rfl rfl),
  (fun _ _ _ s0 _ => run_next rfl rfl),
  (fun _ _ _ s0 _ _ _ => run_next rfl rfl),
  (fun _ _ _ _ => run_next rfl rfl),
  (fun _ _ s0 _ _ => run_next rfl rfl),
  (fun _ _ _ s0 _ _ _ => run_calx rfl rfl (Nat.le_of_ble_eq_true rfl) (Nat.le_of_ble_eq_true rfl) rfl),
  (fun _ _ _ s0 _ => run_if rfl rfl (run_next rfl) (run_next rfl)),
  (fun _ _ _ _ => run_next rfl rfl),
  (fun _ _ _ s0 _ => run_next rfl rfl),
  (fun _ _ _ s0 _ => run_next rfl rfl),
  (fun _ _ _ s0 _ _ => run_next rfl rfl),
  (fun _ _ _ s0 _ _ _ => run_calx rfl rfl (Nat.le_of_ble_eq_true rfl) (Nat.le_of_ble_eq_true rfl) rfl),
  (fun _ _ _ s0 _ => run_if rfl rfl (run_next rfl) (run_next rfl)),
  (fun _ _ _ _ => run_next rfl rfl),
  (fun _ _ s0 _ _ => run_next rfl rfl),
  (fun _ _ s0 _ _ _ => run_next rfl rfl),
  (fun _ _ _ s0 _ _ _ _ => run_calx rfl rfl (Nat.le_of_ble_eq_true rfl) (Nat.le_of_ble_eq_true rfl) rfl),
  (fun _ _ _ s0 _ _ => run_if rfl rfl (run_next rfl) (run_next rfl)),
  (fun _ _ _ s0 _ => run_next rfl rfl),
  (fun _ _ _ s0 _ _ => run_next rfl rfl),
  (fun _ _ _ s0 _ => run_next rfl rfl),
  (fun _ _ _ s0 _ _ _ => run_calx rfl rfl (Nat.le_of_ble_eq_true rfl) (Nat.le_of_ble_eq_true rfl) rfl),
  (fun _ _ _ s0 _ => run_ret rfl rfl),
  (fun _ _ _ _ => run_next rfl rfl),
  (fun _ _ _ s0 _ => run_if rfl rfl (run_next rfl) (run_next rfl)),
  (fun _ _ _ _ => run_next rfl rfl),
  (fun _ _ _ _ _ _ => run_next rfl rfl),
  (fun _ _ s0 _ _ => run_next rfl rfl),
  (fun _ _ _ s0 _ _ _ => run_if rfl rfl (run_fail rfl) (run_next rfl)),
  (fun _ _ _ s0 _ => run_next rfl rfl),
  (fun _ _ _ _ => run_next rfl rfl),
  (fun _ _ _ s0 _ => run_next rfl rfl),
  (fun _ _ _ s0 _ _ => run_if rfl rfl (run_next rfl) (run_next rfl)),
  (fun _ _ _ _ => run_next rfl rfl),
  (fun _ _ _ _ _ _ => run_next rfl rfl),
  (fun _ _ s0 _ _ => run_next rfl rfl),
  (fun _ _ _ s0 _ _ _ => run_if rfl rfl (run_fail rfl) (run_next rfl)),
  (fun _ _ _ s0 _ => run_next rfl rfl),
  (fun _ _ _ _ => run_next rfl rfl),
  (fun _ _ _ s0 _ => run_next rfl rfl),
  (fun _ _ _ s0 _ _ => run_if rfl rfl (run_next rfl) (run_next rfl)),
  (fun _ _ _ _ => run_next rfl rfl),
  (fun _ _ s0 _ _ => run_next rfl rfl),
  (fun _ _ _ s0 _ _ _ => run_calx rfl rfl (Nat.le_of_ble_eq_true rfl) (Nat.le_of_ble_eq_true rfl) rfl),
  (fun _ _ _ s0 _ => run_next rfl rfl),
  (fun _ _ _ _ => run_next rfl rfl),
  (fun _ _ _ s0 _ => run_next rfl rfl),
  (fun _ _ _ s0 _ _ => run_if rfl rfl (run_next rfl) (run_next rfl)),
  (fun _ _ _ _ => run_next rfl rfl),
  (fun _ _ _ _ _ _ => run_next rfl rfl),
  (fun _ _ s0 _ _ => run_next rfl rfl),
  (fun _ _ _ s0 _ _ _ => run_if rfl rfl (run_fail rfl) (run_next rfl)),
  (fun _ _ _ s0 _ => run_next rfl rfl),
  (fun _ _ _ _ => run_next rfl rfl),
  (fun _ _ s0 _ _ => run_next rfl rfl),
  (fun _ _ _ s0 _ _ _ => run_calx rfl rfl (Nat.le_of_ble_eq_true rfl) (Nat.le_of_ble_eq_true rfl) rfl),
  (fun _ _ _ s0 _ => run_ret rfl rfl)⟩
theorem e_1234 (v : Option Rf) (a0 : Int32) (a1 : Int32) (h : Hp) : call 1234 [vo v, vi a0, vi a1] h = run 5 1234 0 [some (vo v), some (vi a0), some (vi a1)] [] h := rfl
set_option maxRecDepth 20000 in
theorem x_1235 : (∀ (l1 l2 : Option AV) (w : Option Rf) (h : Hp), run 1 1235 0 [some (vo w), l1, l2] [] h = run 1 1235 1 [some (vo w), l1, l2] [vo w] h) ∧
  (∀ (l0 l1 l2 : Option AV) (s0 : Option Rf) (h : Hp), run 1 1235 1 [l0, l1, l2] [vo s0] h = run 1 1235 2 [l0, l1, l2] [vi (0 : Int32), vo s0] h) ∧
  (∀ (l0 l1 l2 : Option AV) (s0 : Int32) (o z : Nat) (h : Hp), run 1 1235 2 [l0, l1, l2] [vi s0, vo (some (o, 12, z))] h = run 1 1235 5 [l0, l1, l2] [] (hsI h o 12 s0)) ∧
  (∀ (l0 l2 : Option AV) (w : Int32) (h : Hp), run 1 1235 5 [l0, some (vi w), l2] [] h = run 1 1235 6 [l0, some (vi w), l2] [vi w] h) ∧
  (∀ (l0 l1 l2 : Option AV) (s0 : Int32) (h : Hp), run 1 1235 6 [l0, l1, l2] [vi s0] h = if s0 < 0 then run 1 1235 14 [l0, l1, l2] [] h else run 1 1235 9 [l0, l1, l2] [] h) ∧
  (∀ (l0 l2 : Option AV) (w : Int32) (h : Hp), run 1 1235 9 [l0, some (vi w), l2] [] h = run 1 1235 10 [l0, some (vi w), l2] [vi w] h) ∧
  (∀ (l0 l1 l2 : Option AV) (s0 : Int32) (h : Hp), run 1 1235 10 [l0, l1, l2] [vi s0] h = run 1 1235 11 [l0, l1, l2] [vi (3 : Int32), vi s0] h) ∧
  (∀ (l0 l1 l2 : Option AV) (s0 : Int32) (s1 : Int32) (h : Hp), run 1 1235 11 [l0, l1, l2] [vi s0, vi s1] h = if s1 ≤ s0 then run 1 1235 30 [l0, l1, l2] [] h else run 1 1235 14 [l0, l1, l2] [] h) ∧
  (∀ (l1 l2 : Option AV) (w : Option Rf) (h : Hp), run 1 1235 14 [some (vo w), l1, l2] [] h = run 1 1235 15 [some (vo w), l1, l2] [vo w] h) ∧
  (∀ (l0 l2 : Option AV) (s0 : Option Rf) (w : Int32) (h : Hp), run 1 1235 15 [l0, some (vi w), l2] [vo s0] h = run 1 1235 16 [l0, some (vi w), l2] [vi w, vo s0] h) ∧
  (∀ (l0 l1 l2 : Option AV) (s0 : Int32) (s1 : Option Rf) (h : Hp), run 1 1235 16 [l0, l1, l2] [vi s0, vo s1] h = if 0 ≤ s0 then run 1 1235 24 [l0, l1, l2] [vo s1] h else run 1 1235 19 [l0, l1, l2] [vo s1] h) ∧
  (∀ (l0 l1 l2 : Option AV) (s0 : Option Rf) (h : Hp), run 1 1235 19 [l0, l1, l2] [vo s0] h = run 1 1235 21 [l0, l1, l2] [vi (-4 : Int32), vo s0] h) ∧
  (∀ (l0 l1 l2 : Option AV) (s0 : Int32) (s1 : Option Rf) (h : Hp), run 1 1235 21 [l0, l1, l2] [vi s0, vo s1] h = run 1 1235 26 [l0, l1, l2] [vi s0, vo s1] h) ∧
  (∀ (l0 l1 l2 : Option AV) (s0 : Option Rf) (h : Hp), run 1 1235 24 [l0, l1, l2] [vo s0] h = run 1 1235 26 [l0, l1, l2] [vi (-6 : Int32), vo s0] h) ∧
  (∀ (l0 l1 l2 : Option AV) (s0 : Int32) (o z : Nat) (h : Hp), run 1 1235 26 [l0, l1, l2] [vi s0, vo (some (o, 12, z))] h = (call 1202 [vo (some (o, 12, z)), vi s0] h).bind (fun z => run 1 1235 29 [l0, l1, l2] (z.1.toList ++ []) z.2)) ∧
  (∀ (l0 l1 l2 : Option AV) (s0 : Int32) (h : Hp), run 1 1235 29 [l0, l1, l2] [vi s0] h = some (some (vi s0), h)) ∧
  (∀ (l1 l2 : Option AV) (w : Option Rf) (h : Hp), run 1 1235 30 [some (vo w), l1, l2] [] h = run 1 1235 31 [some (vo w), l1, l2] [vo w] h) ∧
  (∀ (l0 l1 l2 : Option AV) (o z : Nat) (h : Hp), run 1 1235 31 [l0, l1, l2] [vo (some (o, 12, z))] h = run 1 1235 34 [l0, l1, l2] [vi (hI h o 4)] h) ∧
  (∀ (l0 l2 : Option AV) (s0 : Int32) (h : Hp), run 1 1235 34 [l0, none, l2] [vi s0] h = run 1 1235 35 [l0, none, some (vi s0)] [] h) ∧
  (∀ (l0 l2 : Option AV) (s0 : Int32) (w1 : Int32) (h : Hp), run 1 1235 34 [l0, some (vi w1), l2] [vi s0] h = run 1 1235 35 [l0, some (vi w1), some (vi s0)] [] h) ∧
  (∀ (l0 l2 : Option AV) (s0 : Int32) (w1 : Option Rf) (h : Hp), run 1 1235 34 [l0, some (vo w1), l2] [vi s0] h = run 1 1235 35 [l0, some (vo w1), some (vi s0)] [] h) ∧
  (∀ (l1 l2 : Option AV) (w : Option Rf) (h : Hp), run 1 1235 35 [some (vo w), l1, l2] [] h = run 1 1235 36 [some (vo w), l1, l2] [vo w] h) ∧
  (∀ (l0 l2 : Option AV) (s0 : Option Rf) (w : Int32) (h : Hp), run 1 1235 36 [l0, some (vi w), l2] [vo s0] h = run 1 1235 37 [l0, some (vi w), l2] [vi w, vo s0] h) ∧
  (∀ (l0 l1 l2 : Option AV) (s0 : Int32) (o z : Nat) (h : Hp), run 1 1235 37 [l0, l1, l2] [vi s0, vo (some (o, 12, z))] h = run 1 1235 40 [l0, l1, l2] [] (hsI h o 4 s0)) ∧
  (∀ (l0 l1 : Option AV) (w : Int32) (h : Hp), run 1 1235 40 [l0, l1, some (vi w)] [] h = run 1 1235 41 [l0, l1, some (vi w)] [vi w] h) ∧
  (∀ (l0 l1 l2 : Option AV) (s0 : Int32) (h : Hp), run 1 1235 41 [l0, l1, l2] [vi s0] h = some (some (vi s0), h)) := ⟨(fun _ _ _ _ => run_next rfl rfl),
  (fun _ _ _ s0 _ => run_next rfl rfl),
  (fun _ _ _ s0 _ _ _ => run_next rfl rfl),
  (fun _ _ _ _ => run_next rfl rfl),
  (fun _ _ _ s0 _ => run_if rfl rfl (run_next rfl) (run_next rfl)),
  (fun _ _ _ _ => run_next rfl rfl),
  (fun _ _ _ s0 _ => run_next rfl rfl),
  (fun _ _ _ s0 _ _ => run_if rfl rfl (run_next rfl) (run_next rfl)),
  (fun _ _ _ _ => run_next rfl rfl),
  (fun _ _ s0 _ _ => run_next rfl rfl),
  (fun _ _ _ s0 _ _ => run_if rfl rfl (run_next rfl) (run_next rfl)),
  (fun _ _ _ s0 _ => run_next rfl rfl),
  (fun _ _ _ s0 _ _ => run_next rfl rfl),
  (fun _ _ _ s0 _ => run_next rfl rfl),
  (fun _ _ _ s0 _ _ _ => run_calx rfl rfl (Nat.le_of_ble_eq_true rfl) (Nat.le_of_ble_eq_true rfl) rfl),
  (fun _ _ _ s0 _ => run_ret rfl rfl),
  (fun _ _ _ _ => run_next rfl rfl),
  (fun _ _ _ _ _ _ => run_next rfl rfl),
  (fun _ _ s0 _ => run_next rfl rfl),
  (fun _ _ s0 _ _ => run_next rfl rfl),
  (fun _ _ s0 _ _ => run_next rfl rfl),
  (fun _ _ _ _ => run_next rfl rfl),
  (fun _ _ s0 _ _ => run_next rfl rfl),
  (fun _ _ _ s0 _ _ _ => run_next rfl rfl),
  (fun _ _ _ _ => run_next rfl rfl),
  (fun _ _ _ s0 _ => run_ret rfl rfl)⟩
theorem e_1235 (v : Option Rf) (a0 : Int32) (h : Hp) : call 1235 [vo v, vi a0] h = run 1 1235 0 [some (vo v), some (vi a0), none] [] h := rfl
set_option maxRecDepth 20000 in
theorem x_1236 : (∀  (w : Option Rf) (h : Hp), run 6 1236 0 [some (vo w)] [] h = run 6 1236 1 [some (vo w)] [vo w] h) ∧
  (∀ (l0 : Option AV) (s0 : Option Rf) (h : Hp), run 6 1236 1 [l0] [vo s0] h = run 6 1236 2 [l0] [vi (0 : Int32), vo s0] h) ∧
  (∀ (l0 : Option AV) (s0 : Int32) (o z : Nat) (h : Hp), run 6 1236 2 [l0] [vi s0, vo (some (o, 12, z))] h = run 6 1236 5 [l0] [] (hsI h o 12 s0)) ∧
  (∀  (w : Option Rf) (h : Hp), run 6 1236 5 [some (vo w)] [] h = run 6 1236 6 [some (vo w)] [vo w] h) ∧
  (∀ (l0 : Option AV) (o z : Nat) (h : Hp), run 6 1236 6 [l0] [vo (some (o, 12, z))] h = run 6 1236 9 [l0] [vi (hI h o 5)] h) ∧
  (∀ (l0 : Option AV) (s0 : Int32) (h : Hp), run 6 1236 9 [l0] [vi s0] h = run 6 1236 11 [l0] [vi (60 : Int32), vi s0] h) ∧
  (∀ (l0 : Option AV) (s0 : Int32) (s1 : Int32) (h : Hp), run 6 1236 11 [l0] [vi s0, vi s1] h = if s1 = s0 then run 6 1236 14 [l0] [] h else run 6 1236 23 [l0] [] h) ∧
  (∀  (w : Option Rf) (h : Hp), run 6 1236 14 [some (vo w)] [] h = run 6 1236 15 [some (vo w)] [vo w] h) ∧
  (∀ (l0 : Option AV) (s0 : Option Rf) (h : Hp), run 6 1236 15 [l0] [vo s0] h = run 6 1236 17 [l0] [vi (-6 : Int32), vo s0] h) ∧
  (∀ (l0 : Option AV) (s0 : Int32) (o z : Nat) (h : Hp), run 6 1236 17 [l0] [vi s0, vo (some (o, 12, z))] h = (call 1202 [vo (some (o, 12, z)), vi s0] h).bind (fun z => run 6 1236 20 [l0] (z.1.toList ++ []) z.2)) ∧
  (∀ (l0 : Option AV) (s0 : Int32) (h : Hp), run 6 1236 20 [l0] [vi s0] h = run 6 1236 27 [l0] [vi s0] h) ∧
  (∀  (w : Option Rf) (h : Hp), run 6 1236 23 [some (vo w)] [] h = run 6 1236 24 [some (vo w)] [vo w] h) ∧
  (∀ (l0 : Option AV) (o z : Nat) (h : Hp), run 6 1236 24 [l0] [vo (some (o, 12, z))] h = (call 1217 [vo (some (o, 12, z))] h).bind (fun z => run 6 1236 27 [l0] (z.1.toList ++ []) z.2)) ∧
  (∀ (l0 : Option AV) (s0 : Int32) (h : Hp), run 6 1236 27 [l0] [vi s0] h = some (some (vi s0), h)) := ⟨(fun _ _ => run_next rfl rfl),
  (fun _ s0 _ => run_next rfl rfl),
  (fun _ s0 _ _ _ => run_next rfl rfl),
  (fun _ _ => run_next rfl rfl),
  (fun _ _ _ _ => run_next rfl rfl),
  (fun _ s0 _ => run_next rfl rfl),
  (fun _ s0 _ _ => run_if rfl rfl (run_next rfl) (run_next rfl)),
  (fun _ _ => run_next rfl rfl),
  (fun _ s0 _ => run_next rfl rfl),
  (fun _ s0 _ _ _ => run_calx rfl rfl (Nat.le_of_ble_eq_true rfl) (Nat.le_of_ble_eq_true rfl) rfl),
  (fun _ s0 _ => run_next rfl rfl),
  (fun _ _ => run_next rfl rfl),
  (fun _ _ _ _ => run_calx rfl rfl (Nat.le_of_ble_eq_true rfl) (Nat.le_of_ble_eq_true rfl) rfl),
  (fun _ s0 _ => run_ret rfl rfl)⟩
theorem e_1236 (v : Option Rf) (h : Hp) : call 1236 [vo v] h = run 6 1236 0 [some (vo v)] [] h := rfl
set_option maxRecDepth 20000 in
theorem x_1237 : (∀ (l1 l2 l3 : Option AV) (w : Option Rf) (h : Hp), run 2 1237 0 [some (vo w), l1, l2, l3] [] h = run 2 1237 1 [some (vo w), l1, l2, l3] [vo w] h) ∧
  (∀ (l0 l1 l2 l3 : Option AV) (s0 : Option Rf) (h : Hp), run 2 1237 1 [l0, l1, l2, l3] [vo s0] h = run 2 1237 2 [l0, l1, l2, l3] [vi (0 : Int32), vo s0] h) ∧
  (∀ (l0 l1 l2 l3 : Option AV) (s0 : Int32) (o z : Nat) (h : Hp), run 2 1237 2 [l0, l1, l2, l3] [vi s0, vo (some (o, 12, z))] h = run 2 1237 5 [l0, l1, l2, l3] [] (hsI h o 12 s0)) ∧
  (∀ (l1 l2 l3 : Option AV) (w : Option Rf) (h : Hp), run 2 1237 5 [some (vo w), l1, l2, l3] [] h = run 2 1237 6 [some (vo w), l1, l2, l3] [vo w] h) ∧
  (∀ (l0 l2 l3 : Option AV) (s0 : Option Rf) (w : Int32) (h : Hp), run 2 1237 6 [l0, some (vi w), l2, l3] [vo s0] h = run 2 1237 7 [l0, some (vi w), l2, l3] [vi w, vo s0] h) ∧
  (∀ (l0 l1 l2 l3 : Option AV) (s0 : Int32) (o z : Nat) (h : Hp), run 2 1237 7 [l0, l1, l2, l3] [vi s0, vo (some (o, 12, z))] h = (call 1204 [vo (some (o, 12, z)), vi s0] h).bind (fun z => run 2 1237 10 [l0, l1, l2, l3] (z.1.toList ++ []) z.2)) ∧
  (∀ (l0 l1 l2 l3 : Option AV) (s0 : Int32) (h : Hp), run 2 1237 10 [l0, l1, l2, l3] [vi s0] h = if s0 = 0 then run 2 1237 13 [l0, l1, l2, l3] [] h else run 2 1237 17 [l0, l1, l2, l3] [] h) ∧
  (∀ (l0 l1 l2 l3 : Option AV) (h : Hp), run 2 1237 13 [l0, l1, l2, l3] [] h = run 2 1237 14 [l0, l1, l2, l3] [vi (-1 : Int32)] h) ∧
  (∀ (l0 l1 l2 l3 : Option AV) (s0 : Int32) (h : Hp), run 2 1237 14 [l0, l1, l2, l3] [vi s0] h = run 2 1237 40 [l0, l1, l2, l3] [vi s0] h) ∧
  (∀ (l0 l1 l3 : Option AV) (w : Int32) (h : Hp), run 2 1237 17 [l0, l1, some (vi w), l3] [] h = run 2 1237 18 [l0, l1, some (vi w), l3] [vi w] h) ∧
  (∀ (l0 l1 l2 l3 : Option AV) (s0 : Int32) (h : Hp), run 2 1237 18 [l0, l1, l2, l3] [vi s0] h = if 0 ≤ s0 then run 2 1237 26 [l0, l1, l2, l3] [] h else run 2 1237 21 [l0, l1, l2, l3] [] h) ∧
  (∀ (l0 l1 l2 l3 : Option AV) (h : Hp), run 2 1237 21 [l0, l1, l2, l3] [] h = run 2 1237 23 [l0, l1, l2, l3] [vi (-4 : Int32)] h) ∧
  (∀ (l0 l1 l2 l3 : Option AV) (s0 : Int32) (h : Hp), run 2 1237 23 [l0, l1, l2, l3] [vi s0] h = run 2 1237 40 [l0, l1, l2, l3] [vi s0] h) ∧
  (∀ (l0 l1 l3 : Option AV) (w : Int32) (h : Hp), run 2 1237 26 [l0, l1, some (vi w), l3] [] h = run 2 1237 27 [l0, l1, some (vi w), l3] [vi w] h) ∧
  (∀ (l1 l2 l3 : Option AV) (s0 : Int32) (w : Option Rf) (h : Hp), run 2 1237 27 [some (vo w), l1, l2, l3] [vi s0] h = run 2 1237 28 [some (vo w), l1, l2, l3] [vo w, vi s0] h) ∧
  (∀ (l0 l1 l2 l3 : Option AV) (s1 : Int32) (o z : Nat) (h : Hp), run 2 1237 28 [l0, l1, l2, l3] [vo (some (o, 12, z)), vi s1] h = run 2 1237 31 [l0, l1, l2, l3] [vi (hI h o 5), vi s1] h) ∧
  (∀ (l0 l1 l2 l3 : Option AV) (s0 : Int32) (s1 : Int32) (h : Hp), run 2 1237 31 [l0, l1, l2, l3] [vi s0, vi s1] h = if s1 ≤ s0 then run 2 1237 39 [l0, l1, l2, l3] [] h else run 2 1237 34 [l0, l1, l2, l3] [] h) ∧
  (∀ (l0 l1 l2 l3 : Option AV) (h : Hp), run 2 1237 34 [l0, l1, l2, l3] [] h = run 2 1237 36 [l0, l1, l2, l3] [vi (-6 : Int32)] h) ∧
  (∀ (l0 l1 l2 l3 : Option AV) (s0 : Int32) (h : Hp), run 2 1237 36 [l0, l1, l2, l3] [vi s0] h = run 2 1237 40 [l0, l1, l2, l3] [vi s0] h) ∧
  (∀ (l0 l1 l2 l3 : Option AV) (h : Hp), run 2 1237 39 [l0, l1, l2, l3] [] h = run 2 1237 40 [l0, l1, l2, l3] [vi (0 : Int32)] h) ∧
  (∀ (l0 l1 l3 : Option AV) (s0 : Int32) (h : Hp), run 2 1237 40 [l0, l1, none, l3] [vi s0] h = run 2 1237 41 [l0, l1, none, some (vi s0)] [] h) ∧
  (∀ (l0 l1 l3 : Option AV) (s0 : Int32) (w1 : Int32) (h : Hp), run 2 1237 40 [l0, l1, some (vi w1), l3] [vi s0] h = run 2 1237 41 [l0, l1, some (vi w1), some (vi s0)] [] h) ∧
  (∀ (l0 l1 l3 : Option AV) (s0 : Int32) (w1 : Option Rf) (h : Hp), run 2 1237 40 [l0, l1, some (vo w1), l3] [vi s0] h = run 2 1237 41 [l0, l1, some (vo w1), some (vi s0)] [] h) ∧
  (∀ (l0 l1 l2 : Option AV) (w : Int32) (h : Hp), run 2 1237 41 [l0, l1, l2, some (vi w)] [] h = run 2 1237 42 [l0, l1, l2, some (vi w)] [vi w] h) ∧
  (∀ (l0 l1 l2 l3 : Option AV) (s0 : Int32) (h : Hp), run 2 1237 42 [l0, l1, l2, l3] [vi s0] h = if 0 ≤ s0 then run 2 1237 53 [l0, l1, l2, l3] [] h else run 2 1237 45 [l0, l1, l2, l3] [] h) ∧
  (∀ (l1 l2 l3 : Option AV) (w : Option Rf) (h : Hp), run 2 1237 45 [some (vo w), l1, l2, l3] [] h = run 2 1237 46 [some (vo w), l1, l2, l3] [vo w] h) ∧
  (∀ (l0 l1 l2 : Option AV) (s0 : Option Rf) (w : Int32) (h : Hp), run 2 1237 46 [l0, l1, l2, some (vi w)] [vo s0] h = run 2 1237 47 [l0, l1, l2, some (vi w)] [vi w, vo s0] h) ∧
  (∀ (l0 l1 l2 l3 : Option AV) (s0 : Int32) (o z : Nat) (h : Hp), run 2 1237 47 [l0, l1, l2, l3] [vi s0, vo (some (o, 12, z))] h = (call 1202 [vo (some (o, 12, z)), vi s0] h).bind (fun z => run 2 1237 50 [l0, l1, l2, l3] (z.1.toList ++ []) z.2)) ∧
  (∀ (l0 l1 l2 l3 : Option AV) (s0 : Int32) (h : Hp), run 2 1237 50 [l0, l1, l2, l3] [vi s0] h = run 2 1237 59 [l0, l1, l2, l3] [vi s0] h) ∧
  (∀ (l1 l2 l3 : Option AV) (w : Option Rf) (h : Hp), run 2 1237 53 [some (vo w), l1, l2, l3] [] h = run 2 1237 54 [some (vo w), l1, l2, l3] [vo w] h) ∧
  (∀ (l0 l2 l3 : Option AV) (s0 : Option Rf) (w : Int32) (h : Hp), run 2 1237 54 [l0, some (vi w), l2, l3] [vo s0] h = run 2 1237 55 [l0, some (vi w), l2, l3] [vi w, vo s0] h) ∧
  (∀ (l0 l1 l3 : Option AV) (s0 : Int32) (s1 : Option Rf) (w : Int32) (h : Hp), run 2 1237 55 [l0, l1, some (vi w), l3] [vi s0, vo s1] h = run 2 1237 56 [l0, l1, some (vi w), l3] [vi w, vi s0, vo s1] h) ∧
  (∀ (l0 l1 l2 l3 : Option AV) (s0 : Int32) (s1 : Int32) (o z : Nat) (h : Hp), run 2 1237 56 [l0, l1, l2, l3] [vi s0, vi s1, vo (some (o, 12, z))] h = (call 1209 [vo (some (o, 12, z)), vi s1, vi s0] h).bind (fun z => run 2 1237 59 [l0, l1, l2, l3] (z.1.toList ++ []) z.2)) ∧
  (∀ (l0 l1 l2 l3 : Option AV) (s0 : Int32) (h : Hp), run 2 1237 59 [l0, l1, l2, l3] [vi s0] h = some (some (vi s0), h)) := ⟨(fun _ _ _ _ _ => run_next rfl rfl),
  (fun _ _ _ _ s0 _ => run_next rfl rfl),
  (fun _ _ _ _ s0 _ _ _ => run_next rfl rfl),
  (fun _ _ _ _ _ => run_next rfl rfl),
  (fun _ _ _ s0 _ _ => run_next rfl rfl),
  (fun _ _ _ _ s0 _ _ _ => run_calx rfl rfl (Nat.le_of_ble_eq_true rfl) (Nat.le_of_ble_eq_true rfl) rfl),
  (fun _ _ _ _ s0 _ => run_if rfl rfl (run_next rfl) (run_next rfl)),
  (fun _ _ _ _ _ => run_next rfl rfl),
  (fun _ _ _ _ s0 _ => run_next rfl rfl),
  (fun _ _ _ _ _ => run_next rfl rfl),
  (fun _ _ _ _ s0 _ => run_if rfl rfl (run_next rfl) (run_next rfl)),
  (fun _ _ _ _ _ => run_next rfl rfl),
  (fun _ _ _ _ s0 _ => run_next rfl rfl),
  (fun _ _ _ _ _ => run_next rfl rfl),
  (fun _ _ _ s0 _ _ => run_next rfl rfl),
  (fun _ _ _ _ _ _ _ _ => run_next rfl rfl),
  (fun _ _ _ _ s0 _ _ => run_if rfl rfl (run_next rfl) (run_next rfl)),
  (fun _ _ _ _ _ => run_next rfl rfl),
  (fun _ _ _ _ s0 _ => run_next rfl rfl),
  (fun _ _ _ _ _ => run_next rfl rfl),
  (fun _ _ _ s0 _ => run_next rfl rfl),
  (fun _ _ _ s0 _ _ => run_next rfl rfl),
  (fun _ _ _ s0 _ _ => run_next rfl rfl),
  (fun _ _ _ _ _ => run_next rfl rfl),
  (fun _ _ _ _ s0 _ => run_if rfl rfl (run_next rfl) (run_next rfl)),
  (fun _ _ _ _ _ => run_next rfl rfl),
  (fun _ _ _ s0 _ _ => run_next rfl rfl),
  (fun _ _ _ _ s0 _ _ _ => run_calx rfl rfl (Nat.le_of_ble_eq_true rfl) (Nat.le_of_ble_eq_true rfl) rfl),
  (fun _ _ _ _ s0 _ => run_next rfl rfl),
  (fun _ _ _ _ _ => run_next rfl rfl),
  (fun _ _ _ s0 _ _ => run_next rfl rfl),
  (fun _ _ _ s0 _ _ _ => run_next rfl rfl),
  (fun _ _ _ _ s0 _ _ _ _ => run_calx rfl rfl (Nat.le_of_ble_eq_true rfl) (Nat.le_of_ble_eq_true rfl) rfl),
  (fun _ _ _ _ s0 _ => run_ret rfl rfl)⟩
theorem e_1237 (v : Option Rf) (a0 : Int32) (a1 : Int32) (h : Hp) : call 1237 [vo v, vi a0, vi a1] h = run 2 1237 0 [some (vo v), some (vi a0), some (vi a1), none] [] h := rfl
set_option maxRecDepth 20000 in
theorem x_1238 : (∀ (l1 l2 : Option AV) (w : Option Rf) (h : Hp), run 3 1238 0 [some (vo w), l1, l2] [] h = run 3 1238 1 [some (vo w), l1, l2] [vo w] h) ∧
  (∀ (l0 l1 l2 : Option AV) (s0 : Option Rf) (h : Hp), run 3 1238 1 [l0, l1, l2] [vo s0] h = run 3 1238 2 [l0, l1, l2] [vi (0 : Int32), vo s0] h) ∧
  (∀ (l0 l1 l2 : Option AV) (s0 : Int32) (o z : Nat) (h : Hp), run 3 1238 2 [l0, l1, l2] [vi s0, vo (some (o, 12, z))] h = run 3 1238 5 [l0, l1, l2] [] (hsI h o 12 s0)) ∧
  (∀ (l1 l2 : Option AV) (w : Option Rf) (h : Hp), run 3 1238 5 [some (vo w), l1, l2] [] h = run 3 1238 6 [some (vo w), l1, l2] [vo w] h) ∧
  (∀ (l0 l2 : Option AV) (s0 : Option Rf) (w : Int32) (h : Hp), run 3 1238 6 [l0, some (vi w), l2] [vo s0] h = run 3 1238 7 [l0, some (vi w), l2] [vi w, vo s0] h) ∧
  (∀ (l0 l1 : Option AV) (s0 : Int32) (s1 : Option Rf) (w : Int32) (h : Hp), run 3 1238 7 [l0, l1, some (vi w)] [vi s0, vo s1] h = run 3 1238 8 [l0, l1, some (vi w)] [vi w, vi s0, vo s1] h) ∧
  (∀ (l0 l1 l2 : Option AV) (s0 : Int32) (s1 : Int32) (o z : Nat) (h : Hp), run 3 1238 8 [l0, l1, l2] [vi s0, vi s1, vo (some (o, 12, z))] h = (call 1205 [vo (some (o, 12, z)), vi s1, vi s0] h).bind (fun z => run 3 1238 11 [l0, l1, l2] (z.1.toList ++ []) z.2)) ∧
  (∀ (l0 l1 l2 : Option AV) (s0 : Int32) (h : Hp), run 3 1238 11 [l0, l1, l2] [vi s0] h = if s0 = 0 then run 3 1238 31 [l0, l1, l2] [] h else run 3 1238 14 [l0, l1, l2] [] h) ∧
  (∀ (l1 l2 : Option AV) (w : Option Rf) (h : Hp), run 3 1238 14 [some (vo w), l1, l2] [] h = run 3 1238 15 [some (vo w), l1, l2] [vo w] h) ∧
  (∀ (l0 l1 : Option AV) (s0 : Option Rf) (w : Int32) (h : Hp), run 3 1238 15 [l0, l1, some (vi w)] [vo s0] h = run 3 1238 16 [l0, l1, some (vi w)] [vi w, vo s0] h) ∧
  (∀ (l1 l2 : Option AV) (s0 : Int32) (s1 : Option Rf) (w : Option Rf) (h : Hp), run 3 1238 16 [some (vo w), l1, l2] [vi s0, vo s1] h = run 3 1238 17 [some (vo w), l1, l2] [vo w, vi s0, vo s1] h) ∧
  (∀ (l0 l1 l2 : Option AV) (s1 : Int32) (s2 : Option Rf) (o z : Nat) (h : Hp), run 3 1238 17 [l0, l1, l2] [vo (some (o, 12, z)), vi s1, vo s2] h = run 3 1238 20 [l0, l1, l2] [vi (hI h o 5), vi s1, vo s2] h) ∧
  (∀ (l1 l2 : Option AV) (s0 : Int32) (s1 : Int32) (s2 : Option Rf) (w : Option Rf) (h : Hp), run 3 1238 20 [some (vo w), l1, l2] [vi s0, vi s1, vo s2] h = run 3 1238 21 [some (vo w), l1, l2] [vo w, vi s0, vi s1, vo s2] h) ∧
  (∀ (l0 l1 l2 : Option AV) (s1 : Int32) (s2 : Int32) (s3 : Option Rf) (o z : Nat) (h : Hp), run 3 1238 21 [l0, l1, l2] [vo (some (o, 12, z)), vi s1, vi s2, vo s3] h = run 3 1238 24 [l0, l1, l2] [vi (hI h o 4), vi s1, vi s2, vo s3] h) ∧
  (∀ (l0 l1 l2 : Option AV) (s0 : Int32) (s1 : Int32) (s2 : Int32) (s3 : Option Rf) (h : Hp), run 3 1238 24 [l0, l1, l2] [vi s0, vi s1, vi s2, vo s3] h = run 3 1238 25 [l0, l1, l2] [vi (s1 - s0), vi s2, vo s3] h) ∧
  (∀ (l0 l1 l2 : Option AV) (s0 : Int32) (s1 : Int32) (o z : Nat) (h : Hp), run 3 1238 25 [l0, l1, l2] [vi s0, vi s1, vo (some (o, 12, z))] h = (call 1209 [vo (some (o, 12, z)), vi s1, vi s0] h).bind (fun z => run 3 1238 28 [l0, l1, l2] (z.1.toList ++ []) z.2)) ∧
  (∀ (l0 l1 l2 : Option AV) (s0 : Int32) (h : Hp), run 3 1238 28 [l0, l1, l2] [vi s0] h = run 3 1238 36 [l0, l1, l2] [vi s0] h) ∧
  (∀ (l1 l2 : Option AV) (w : Option Rf) (h : Hp), run 3 1238 31 [some (vo w), l1, l2] [] h = run 3 1238 32 [some (vo w), l1, l2] [vo w] h) ∧
  (∀ (l0 l1 l2 : Option AV) (s0 : Option Rf) (h : Hp), run 3 1238 32 [l0, l1, l2] [vo s0] h = run 3 1238 33 [l0, l1, l2] [vi (-1 : Int32), vo s0] h) ∧
  (∀ (l0 l1 l2 : Option AV) (s0 : Int32) (o z : Nat) (h : Hp), run 3 1238 33 [l0, l1, l2] [vi s0, vo (some (o, 12, z))] h = (call 1202 [vo (some (o, 12, z)), vi s0] h).bind (fun z => run 3 1238 36 [l0, l1, l2] (z.1.toList ++ []) z.2)) ∧
  (∀ (l0 l1 l2 : Option AV) (s0 : Int32) (h : Hp), run 3 1238 36 [l0, l1, l2] [vi s0] h = some (some (vi s0), h)) := ⟨(fun _ _ _ _ => run_next rfl rfl),
  (fun _ _ _ s0 _ => run_next rfl rfl),
  (fun _ _ _ s0 _ _ _ => run_next rfl rfl),
  (fun _ _ _ _ => run_next rfl rfl),
  (fun _ _ s0 _ _ => run_next rfl rfl),
  (fun _ _ s0 _ _ _ => run_next rfl rfl),
  (fun _ _ _ s0 _ _ _ _ => run_calx rfl rfl (Nat.le_of_ble_eq_true rfl) (Nat.le_of_ble_eq_true rfl) rfl),
  (fun _ _ _ s0 _ => run_if rfl rfl (run_next rfl) (run_next rfl)),
  (fun _ _ _ _ => run_next rfl rfl),
  (fun _ _ s0 _ _ => run_next rfl rfl),
  (fun _ _ s0 _ _ _ => run_next rfl rfl),
  (fun _ _ _ _ _ _ _ _ => run_next rfl rfl),
  (fun _ _ s0 _ _ _ _ => run_next rfl rfl),
  (fun _ _ _ _ _ _ _ _ _ => run_next rfl rfl),
  (fun _ _ _ s0 _ _ _ _ => run_next rfl rfl),
  (fun _ _ _ s0 _ _ _ _ => run_calx rfl rfl (Nat.le_of_ble_eq_true rfl) (Nat.le_of_ble_eq_true rfl) rfl),
  (fun _ _ _ s0 _ => run_next rfl rfl),
  (fun _ _ _ _ => run_next rfl rfl),
  (fun _ _ _ s0 _ => run_next rfl rfl),
  (fun _ _ _ s0 _ _ _ => run_calx rfl rfl (Nat.le_of_ble_eq_true rfl) (Nat.le_of_ble_eq_true rfl) rfl),
  (fun _ _ _ s0 _ => run_ret rfl rfl)⟩
theorem e_1238 (v : Option Rf) (a0 : Int32) (a1 : Int32) (h : Hp) : call 1238 [vo v, vi a0, vi a1] h = run 3 1238 0 [some (vo v), some (vi a0), some (vi a1)] [] h := rfl
set_option maxRecDepth 20000 in
theorem x_1239 : (∀ (l1 l2 : Option AV) (w : Int32) (h : Hp), run 0 1239 0 [some (vi w), l1, l2] [] h = run 0 1239 1 [some (vi w), l1, l2] [vi w] h) ∧
  (∀ (l0 l2 : Option AV) (s0 : Int32) (w : Int32) (h : Hp), run 0 1239 1 [l0, some (vi w), l2] [vi s0] h = run 0 1239 2 [l0, some (vi w), l2] [vi w, vi s0] h) ∧
  (∀ (l0 l1 l2 : Option AV) (s0 : Int32) (s1 : Int32) (h : Hp), run 0 1239 2 [l0, l1, l2] [vi s0, vi s1] h = if s0 ≤ s1 then run 0 1239 10 [l0, l1, l2] [] h else run 0 1239 5 [l0, l1, l2] [] h) ∧
  (∀ (l0 l1 l2 : Option AV) (h : Hp), run 0 1239 5 [l0, l1, l2] [] h = run 0 1239 7 [l0, l1, l2] [vi (-4 : Int32)] h) ∧
  (∀ (l0 l1 l2 : Option AV) (s0 : Int32) (h : Hp), run 0 1239 7 [l0, l1, l2] [vi s0] h = run 0 1239 21 [l0, l1, l2] [vi s0] h) ∧
  (∀ (l1 l2 : Option AV) (w : Int32) (h : Hp), run 0 1239 10 [some (vi w), l1, l2] [] h = run 0 1239 11 [some (vi w), l1, l2] [vi w] h) ∧
  (∀ (l0 l1 : Option AV) (s0 : Int32) (w : Int32) (h : Hp), run 0 1239 11 [l0, l1, some (vi w)] [vi s0] h = run 0 1239 12 [l0, l1, some (vi w)] [vi w, vi s0] h) ∧
  (∀ (l0 l1 l2 : Option AV) (s0 : Int32) (s1 : Int32) (h : Hp), run 0 1239 12 [l0, l1, l2] [vi s0, vi s1] h = if s1 ≤ s0 then run 0 1239 20 [l0, l1, l2] [] h else run 0 1239 15 [l0, l1, l2] [] h) ∧
  (∀ (l0 l1 l2 : Option AV) (h : Hp), run 0 1239 15 [l0, l1, l2] [] h = run 0 1239 17 [l0, l1, l2] [vi (-6 : Int32)] h) ∧
  (∀ (l0 l1 l2 : Option AV) (s0 : Int32) (h : Hp), run 0 1239 17 [l0, l1, l2] [vi s0] h = run 0 1239 21 [l0, l1, l2] [vi s0] h) ∧
  (∀ (l0 l1 l2 : Option AV) (h : Hp), run 0 1239 20 [l0, l1, l2] [] h = run 0 1239 21 [l0, l1, l2] [vi (0 : Int32)] h) ∧
  (∀ (l0 l1 l2 : Option AV) (s0 : Int32) (h : Hp), run 0 1239 21 [l0, l1, l2] [vi s0] h = some (some (vi s0), h)) := ⟨(fun _ _ _ _ => run_next rfl rfl),
  (fun _ _ s0 _ _ => run_next rfl rfl),
  (fun _ _ _ s0 _ _ => run_if rfl rfl (run_next rfl) (run_next rfl)),
  (fun _ _ _ _ => run_next rfl rfl),
  (fun _ _ _ s0 _ => run_next rfl rfl),
  (fun _ _ _ _ => run_next rfl rfl),
  (fun _ _ s0 _ _ => run_next rfl rfl),
  (fun _ _ _ s0 _ _ => run_if rfl rfl (run_next rfl) (run_next rfl)),
  (fun _ _ _ _ => run_next rfl rfl),
  (fun _ _ _ s0 _ => run_next rfl rfl),
  (fun _ _ _ _ => run_next rfl rfl),
  (fun _ _ _ s0 _ => run_ret rfl rfl)⟩
theorem e_1239 (a0 : Int32) (a1 : Int32) (a2 : Int32) (h : Hp) : call 1239 [vi a0, vi a1, vi a2] h = run 0 1239 0 [some (vi a0), some (vi a1), some (vi a2)] [] h := rfl
set_option maxRecDepth 20000 in
theorem x_1240 : (∀ (l1 l2 l3 l4 l5 : Option AV) (w : Option Rf) (h : Hp), run 7 1240 0 [some (vo w), l1, l2, l3, l4, l5] [] h = run 7 1240 1 [some (vo w), l1, l2, l3, l4, l5] [vo w] h) ∧
  (∀ (l0 l1 l2 l3 l4 l5 : Option AV) (s0 : Option Rf) (h : Hp), run 7 1240 1 [l0, l1, l2, l3, l4, l5] [vo s0] h = run 7 1240 2 [l0, l1, l2, l3, l4, l5] [vi (0 : Int32), vo s0] h) ∧
  (∀ (l0 l1 l2 l3 l4 l5 : Option AV) (s0 : Int32) (o z : Nat) (h : Hp), run 7 1240 2 [l0, l1, l2, l3, l4, l5] [vi s0, vo (some (o, 12, z))] h = run 7 1240 5 [l0, l1, l2, l3, l4, l5] [] (hsI h o 12 s0)) ∧
  (∀ (l1 l2 l3 l4 l5 : Option AV) (w : Option Rf) (h : Hp), run 7 1240 5 [some (vo w), l1, l2, l3, l4, l5] [] h = run 7 1240 6 [some (vo w), l1, l2, l3, l4, l5] [vo w] h) ∧
  (∀ (l0 l2 l3 l4 l5 : Option AV) (s0 : Option Rf) (w : Int32) (h : Hp), run 7 1240 6 [l0, some (vi w), l2, l3, l4, l5] [vo s0] h = run 7 1240 7 [l0, some (vi w), l2, l3, l4, l5] [vi w, vo s0] h) ∧
  (∀ (l0 l1 l2 l3 l4 l5 : Option AV) (s0 : Int32) (o z : Nat) (h : Hp), run 7 1240 7 [l0, l1, l2, l3, l4, l5] [vi s0, vo (some (o, 12, z))] h = (call 1204 [vo (some (o, 12, z)), vi s0] h).bind (fun z => run 7 1240 10 [l0, l1, l2, l3, l4, l5] (z.1.toList ++ []) z.2)) ∧
  (∀ (l0 l1 l2 l3 l4 l5 : Option AV) (s0 : Int32) (h : Hp), run 7 1240 10 [l0, l1, l2, l3, l4, l5] [vi s0] h = if s0 = 0 then run 7 1240 23 [l0, l1, l2, l3, l4, l5] [] h else run 7 1240 13 [l0, l1, l2, l3, l4, l5] [] h) ∧
  (∀ (l0 l1 l3 l4 l5 : Option AV) (w : Int32) (h : Hp), run 7 1240 13 [l0, l1, some (vi w), l3, l4, l5] [] h = run 7 1240 14 [l0, l1, some (vi w), l3, l4, l5] [vi w] h) ∧
  (∀ (l0 l1 l2 l3 l4 l5 : Option AV) (s0 : Int32) (h : Hp), run 7 1240 14 [l0, l1, l2, l3, l4, l5] [vi s0] h = run 7 1240 15 [l0, l1, l2, l3, l4, l5] [vi (0 : Int32), vi s0] h) ∧
  (∀ (l0 l1 l2 l3 l4 l5 : Option AV) (s0 : Int32) (s1 : Int32) (h : Hp), run 7 1240 15 [l0, l1, l2, l3, l4, l5] [vi s0, vi s1] h = run 7 1240 17 [l0, l1, l2, l3, l4, l5] [vi (60 : Int32), vi s0, vi s1] h) ∧
  (∀ (l0 l1 l2 l3 l4 l5 : Option AV) (s0 : Int32) (s1 : Int32) (s2 : Int32) (h : Hp), run 7 1240 17 [l0, l1, l2, l3, l4, l5] [vi s0, vi s1, vi s2] h = (call 1239 [vi s2, vi s1, vi s0] h).bind (fun z => run 7 1240 20 [l0, l1, l2, l3, l4, l5] (z.1.toList ++ []) z.2)) ∧
  (∀ (l0 l1 l2 l3 l4 l5 : Option AV) (s0 : Int32) (h : Hp), run 7 1240 20 [l0, l1, l2, l3, l4, l5] [vi s0] h = run 7 1240 24 [l0, l1, l2, l3, l4, l5] [vi s0] h) ∧
  (∀ (l0 l1 l2 l3 l4 l5 : Option AV) (h : Hp), run 7 1240 23 [l0, l1, l2, l3, l4, l5] [] h = run 7 1240 24 [l0, l1, l2, l3, l4, l5] [vi (-1 : Int32)] h) ∧
  (∀ (l0 l1 l3 l4 l5 : Option AV) (s0 : Int32) (h : Hp), run 7 1240 24 [l0, l1, none, l3, l4, l5] [vi s0] h = run 7 1240 25 [l0, l1, none, some (vi s0), l4, l5] [] h) ∧
  (∀ (l0 l1 l3 l4 l5 : Option AV) (s0 : Int32) (w1 : Int32) (h : Hp), run 7 1240 24 [l0, l1, some (vi w1), l3, l4, l5] [vi s0] h = run 7 1240 25 [l0, l1, some (vi w1), some (vi s0), l4, l5] [] h) ∧
  (∀ (l0 l1 l3 l4 l5 : Option AV) (s0 : Int32) (w1 : Option Rf) (h : Hp), run 7 1240 24 [l0, l1, some (vo w1), l3, l4, l5] [vi s0] h = run 7 1240 25 [l0, l1, some (vo w1), some (vi s0), l4, l5] [] h) ∧
  (∀ (l0 l1 l2 l4 l5 : Option AV) (w : Int32) (h : Hp), run 7 1240 25 [l0, l1, l2, some (vi w), l4, l5] [] h = run 7 1240 26 [l0, l1, l2, some (vi w), l4, l5] [vi w] h) ∧
  (∀ (l0 l1 l2 l3 l4 l5 : Option AV) (s0 : Int32) (h : Hp), run 7 1240 26 [l0, l1, l2, l3, l4, l5] [vi s0] h = if 0 ≤ s0 then run 7 1240 35 [l0, l1, l2, l3, l4, l5] [] h else run 7 1240 29 [l0, l1, l2, l3, l4, l5] [] h) ∧
  (∀ (l1 l2 l3 l4 l5 : Option AV) (w : Option Rf) (h : Hp), run 7 1240 29 [some (vo w), l1, l2, l3, l4, l5] [] h = run 7 1240 30 [some (vo w), l1, l2, l3, l4, l5] [vo w] h) ∧
  (∀ (l0 l1 l2 l4 l5 : Option AV) (s0 : Option Rf) (w : Int32) (h : Hp), run 7 1240 30 [l0, l1, l2, some (vi w), l4, l5] [vo s0] h = run 7 1240 31 [l0, l1, l2, some (vi w), l4, l5] [vi w, vo s0] h) ∧
  (∀ (l0 l1 l2 l3 l4 l5 : Option AV) (s0 : Int32) (o z : Nat) (h : Hp), run 7 1240 31 [l0, l1, l2, l3, l4, l5] [vi s0, vo (some (o, 12, z))] h = (call 1202 [vo (some (o, 12, z)), vi s0] h).bind (fun z => run 7 1240 34 [l0, l1, l2, l3, l4, l5] (z.1.toList ++ []) z.2)) ∧
  (∀ (l0 l1 l2 l3 l4 l5 : Option AV) (s0 : Int32) (h : Hp), run 7 1240 34 [l0, l1, l2, l3, l4, l5] [vi s0] h = some (some (vi s0), h)) ∧
  (∀ (l1 l2 l3 l4 l5 : Option AV) (w : Option Rf) (h : Hp), run 7 1240 35 [some (vo w), l1, l2, l3, l4, l5] [] h = run 7 1240 36 [some (vo w), l1, l2, l3, l4, l5] [vo w] h) ∧
  (∀ (l0 l1 l2 l3 l4 l5 : Option AV) (o z : Nat) (h : Hp), run 7 1240 36 [l0, l1, l2, l3, l4, l5] [vo (some (o, 12, z))] h = run 7 1240 39 [l0, l1, l2, l3, l4, l5] [vi (hI h o 5)] h) ∧
  (∀ (l0 l1 l2 l4 l5 : Option AV) (s0 : Int32) (h : Hp), run 7 1240 39 [l0, l1, l2, none, l4, l5] [vi s0] h = run 7 1240 41 [l0, l1, l2, none, some (vi s0), l5] [] h) ∧
  (∀ (l0 l1 l2 l4 l5 : Option AV) (s0 : Int32) (w1 : Int32) (h : Hp), run 7 1240 39 [l0, l1, l2, some (vi w1), l4, l5] [vi s0] h = run 7 1240 41 [l0, l1, l2, some (vi w1), some (vi s0), l5] [] h) ∧
  (∀ (l0 l1 l2 l4 l5 : Option AV) (s0 : Int32) (w1 : Option Rf) (h : Hp), run 7 1240 39 [l0, l1, l2, some (vo w1), l4, l5] [vi s0] h = run 7 1240 41 [l0, l1, l2, some (vo w1), some (vi s0), l5] [] h) ∧
  (∀ (l1 l2 l3 l4 l5 : Option AV) (w : Option Rf) (h : Hp), run 7 1240 41 [some (vo w), l1, l2, l3, l4, l5] [] h = run 7 1240 42 [some (vo w), l1, l2, l3, l4, l5] [vo w] h) ∧
  (∀ (l0 l1 l3 l4 l5 : Option AV) (s0 : Option Rf) (w : Int32) (h : Hp), run 7 1240 42 [l0, l1, some (vi w), l3, l4, l5] [vo s0] h = run 7 1240 43 [l0, l1, some (vi w), l3, l4, l5] [vi w, vo s0] h) ∧
  (∀ (l0 l1 l2 l3 l4 l5 : Option AV) (s0 : Int32) (o z : Nat) (h : Hp), run 7 1240 43 [l0, l1, l2, l3, l4, l5] [vi s0, vo (some (o, 12, z))] h = (call 1218 [vo (some (o, 12, z)), vi s0] h).bind (fun z => run 7 1240 46 [l0, l1, l2, l3, l4, l5] (z.1.toList ++ []) z.2)) ∧
  (∀ (l1 l2 l3 l4 l5 : Option AV) (w : Option Rf) (h : Hp), run 7 1240 46 [some (vo w), l1, l2, l3, l4, l5] [] h = run 7 1240 47 [some (vo w), l1, l2, l3, l4, l5] [vo w] h) ∧
  (∀ (l0 l2 l3 l4 l5 : Option AV) (s0 : Option Rf) (w : Int32) (h : Hp), run 7 1240 47 [l0, some (vi w), l2, l3, l4, l5] [vo s0] h = run 7 1240 48 [l0, some (vi w), l2, l3, l4, l5] [vi w, vo s0] h) ∧
  (∀ (l0 l1 l2 l3 l4 l5 : Option AV) (s0 : Int32) (o z : Nat) (h : Hp), run 7 1240 48 [l0, l1, l2, l3, l4, l5] [vi s0, vo (some (o, 12, z))] h = (call 1210 [vo (some (o, 12, z)), vi s0] h).bind (fun z => run 7 1240 51 [l0, l1, l2, l3, l4, l5] (z.1.toList ++ []) z.2)) ∧
  (∀ (l0 l1 l2 l3 l5 : Option AV) (s0 : Int32) (h : Hp), run 7 1240 51 [l0, l1, l2, l3, none, l5] [vi s0] h = run 7 1240 53 [l0, l1, l2, l3, none, some (vi s0)] [] h) ∧
  (∀ (l0 l1 l2 l3 l5 : Option AV) (s0 : Int32) (w1 : Int32) (h : Hp), run 7 1240 51 [l0, l1, l2, l3, some (vi w1), l5] [vi s0] h = run 7 1240 53 [l0, l1, l2, l3, some (vi w1), some (vi s0)] [] h) ∧
  (∀ (l0 l1 l2 l3 l5 : Option AV) (s0 : Int32) (w1 : Option Rf) (h : Hp), run 7 1240 51 [l0, l1, l2, l3, some (vo w1), l5] [vi s0] h = run 7 1240 53 [l0, l1, l2, l3, some (vo w1), some (vi s0)] [] h) ∧
  (∀ (l1 l2 l3 l4 l5 : Option AV) (w : Option Rf) (h : Hp), run 7 1240 53 [some (vo w), l1, l2, l3, l4, l5] [] h = run 7 1240 54 [some (vo w), l1, l2, l3, l4, l5] [vo w] h) ∧
  (∀ (l0 l1 l2 l3 l5 : Option AV) (s0 : Option Rf) (w : Int32) (h : Hp), run 7 1240 54 [l0, l1, l2, l3, some (vi w), l5] [vo s0] h = run 7 1240 56 [l0, l1, l2, l3, some (vi w), l5] [vi w, vo s0] h) ∧
  (∀ (l0 l1 l2 l3 l4 l5 : Option AV) (s0 : Int32) (o z : Nat) (h : Hp), run 7 1240 56 [l0, l1, l2, l3, l4, l5] [vi s0, vo (some (o, 12, z))] h = run 7 1240 59 [l0, l1, l2, l3, l4, l5] [] (hsI h o 5 s0)) ∧
  (∀ (l0 l1 l2 l3 l4 : Option AV) (w : Int32) (h : Hp), run 7 1240 59 [l0, l1, l2, l3, l4, some (vi w)] [] h = run 7 1240 61 [l0, l1, l2, l3, l4, some (vi w)] [vi w] h) ∧
  (∀ (l0 l1 l2 l3 l4 l5 : Option AV) (s0 : Int32) (h : Hp), run 7 1240 61 [l0, l1, l2, l3, l4, l5] [vi s0] h = some (some (vi s0), h)) := ⟨(fun _ _ _ _ _ _ _ => run_next rfl rfl),
  (fun _ _ _ _ _ _ s0 _ => run_next rfl rfl),
  (fun _ _ _ _ _ _ s0 _ _ _ => run_next rfl rfl),
  (fun _ _ _ _ _ _ _ => run_next rfl rfl),
  (fun _ _ _ _ _ s0 _ _ => run_next rfl rfl),
  (fun _ _ _ _ _ _ s0 _ _ _ => run_calx rfl rfl (Nat.le_of_ble_eq_true rfl) (Nat.le_of_ble_eq_true rfl) rfl),
  (fun _ _ _ _ _ _ s0 _ => run_if rfl rfl (run_next rfl) (run_next rfl)),
  (fun _ _ _ _ _ _ _ => run_next rfl rfl),
  (fun _ _ _ _ _ _ s0 _ => run_next rfl rfl),
  (fun _ _ _ _ _ _ s0 _ _ => run_next rfl rfl),
  (fun _ _ _ _ _ _ s0 _ _ _ => run_calx rfl rfl (Nat.le_of_ble_eq_true rfl) (Nat.le_of_ble_eq_true rfl) rfl),
  (fun _ _ _ _ _ _ s0 _ => run_next rfl rfl),
  (fun _ _ _ _ _ _ _ => run_next rfl rfl),
  (fun _ _ _ _ _ s0 _ => run_next rfl rfl),
  (fun _ _ _ _ _ s0 _ _ => run_next rfl rfl),
  (fun _ _ _ _ _ s0 _ _ => run_next rfl rfl),
  (fun _ _ _ _ _ _ _ => run_next rfl rfl),
  (fun _ _ _ _ _ _ s0 _ => run_if rfl rfl (run_next rfl) (run_next rfl)),
  (fun _ _ _ _ _ _ _ => run_next rfl rfl),
  (fun _ _ _ _ _ s0 _ _ => run_next rfl rfl),
  (fun _ _ _ _ _ _ s0 _ _ _ => run_calx rfl rfl (Nat.le_of_ble_eq_true rfl) (Nat.le_of_ble_eq_true rfl) rfl),
  (fun _ _ _ _ _ _ s0 _ => run_ret rfl rfl),
  (fun _ _ _ _ _ _ _ => run_next rfl rfl),
  (fun _ _ _ _ _ _ _ _ _ => run_next rfl rfl),
  (fun _ _ _ _ _ s0 _ => run_next rfl rfl),
  (fun _ _ _ _ _ s0 _ _ => run_next rfl rfl),
  (fun _ _ _ _ _ s0 _ _ => run_next rfl rfl),
  (fun _ _ _ _ _ _ _ => run_next rfl rfl),
  (fun _ _ _ _ _ s0 _ _ => run_next rfl rfl),
  (fun _ _ _ _ _ _ s0 _ _ _ => run_calx rfl rfl (Nat.le_of_ble_eq_true rfl) (Nat.le_of_ble_eq_true rfl) rfl),
  (fun _ _ _ _ _ _ _ => run_next rfl rfl),
  (fun _ _ _ _ _ s0 _ _ => run_next rfl rfl),
  (fun _ _ _ _ _ _ s0 _ _ _ => run_calx rfl rfl (Nat.le_of_ble_eq_true rfl) (Nat.le_of_ble_eq_true rfl) rfl),
  (fun _ _ _ _ _ s0 _ => run_next rfl rfl),
  (fun _ _ _ _ _ s0 _ _ => run_next rfl rfl),
  (fun _ _ _ _ _ s0 _ _ => run_next rfl rfl),
  (fun _ _ _ _ _ _ _ => run_next rfl rfl),
  (fun _ _ _ _ _ s0 _ _ => run_next rfl rfl),
  (fun _ _ _ _ _ _ s0 _ _ _ => run_next rfl rfl),
  (fun _ _ _ _ _ _ _ => run_next rfl rfl),
  (fun _ _ _ _ _ _ s0 _ => run_ret rfl rfl)⟩
theorem e_1240 (v : Option Rf) (a0 : Int32) (a1 : Int32) (h : Hp) : call 1240 [vo v, vi a0, vi a1] h = run 7 1240 0 [some (vo v), some (vi a0), some (vi a1), none, none, none] [] h := rfl
set_option maxRecDepth 20000 in
theorem x_1241 : (∀ (l1 l2 l3 l4 l5 l6 l7 l8 l9 l10 : Option AV) (w : Option Rf) (h : Hp), run 6 1241 0 [some (vo w), l1, l2, l3, l4, l5, l6, l7, l8, l9, l10] [] h = run 6 1241 1 [some (vo w), l1, l2, l3, l4, l5, l6, l7, l8, l9, l10] [vo w] h) ∧
  (∀ (l0 l1 l2 l3 l4 l5 l6 l7 l8 l9 l10 : Option AV) (s0 : Option Rf) (h : Hp), run 6 1241 1 [l0, l1, l2, l3, l4, l5, l6, l7, l8, l9, l10] [vo s0] h = run 6 1241 2 [l0, l1, l2, l3, l4, l5, l6, l7, l8, l9, l10] [vi (0 : Int32), vo s0] h) ∧
  (∀ (l0 l1 l2 l3 l4 l5 l6 l7 l8 l9 l10 : Option AV) (s0 : Int32) (o z : Nat) (h : Hp), run 6 1241 2 [l0, l1, l2, l3, l4, l5, l6, l7, l8, l9, l10] [vi s0, vo (some (o, 12, z))] h = run 6 1241 5 [l0, l1, l2, l3, l4, l5, l6, l7, l8, l9, l10] [] (hsI h o 12 s0)) ∧
  (∀ (l1 l2 l3 l4 l5 l6 l7 l8 l9 l10 : Option AV) (w : Option Rf) (h : Hp), run 6 1241 5 [some (vo w), l1, l2, l3, l4, l5, l6, l7, l8, l9, l10] [] h = run 6 1241 6 [some (vo w), l1, l2, l3, l4, l5, l6, l7, l8, l9, l10] [vo w] h) ∧
  (∀ (l0 l2 l3 l4 l5 l6 l7 l8 l9 l10 : Option AV) (s0 : Option Rf) (w : Int32) (h : Hp), run 6 1241 6 [l0, some (vi w), l2, l3, l4, l5, l6, l7, l8, l9, l10] [vo s0] h = run 6 1241 7 [l0, some (vi w), l2, l3, l4, l5, l6, l7, l8, l9, l10] [vi w, vo s0] h) ∧
  (∀ (l0 l1 l3 l4 l5 l6 l7 l8 l9 l10 : Option AV) (s0 : Int32) (s1 : Option Rf) (w : Int32) (h : Hp), run 6 1241 7 [l0, l1, some (vi w), l3, l4, l5, l6, l7, l8, l9, l10] [vi s0, vo s1] h = run 6 1241 8 [l0, l1, some (vi w), l3, l4, l5, l6, l7, l8, l9, l10] [vi w, vi s0, vo s1] h) ∧
  (∀ (l0 l1 l2 l3 l4 l5 l6 l7 l8 l9 l10 : Option AV) (s0 : Int32) (s1 : Int32) (o z : Nat) (h : Hp), run 6 1241 8 [l0, l1, l2, l3, l4, l5, l6, l7, l8, l9, l10] [vi s0, vi s1, vo (some (o, 12, z))] h = (call 1205 [vo (some (o, 12, z)), vi s1, vi s0] h).bind (fun z => run 6 1241 11 [l0, l1, l2, l3, l4, l5, l6, l7, l8, l9, l10] (z.1.toList ++ []) z.2)) ∧
  (∀ (l0 l1 l2 l3 l4 l5 l6 l7 l8 l9 l10 : Option AV) (s0 : Int32) (h : Hp), run 6 1241 11 [l0, l1, l2, l3, l4, l5, l6, l7, l8, l9, l10] [vi s0] h = if s0 = 0 then run 6 1241 24 [l0, l1, l2, l3, l4, l5, l6, l7, l8, l9, l10] [] h else run 6 1241 14 [l0, l1, l2, l3, l4, l5, l6, l7, l8, l9, l10] [] h) ∧
  (∀ (l0 l1 l2 l4 l5 l6 l7 l8 l9 l10 : Option AV) (w : Int32) (h : Hp), run 6 1241 14 [l0, l1, l2, some (vi w), l4, l5, l6, l7, l8, l9, l10] [] h = run 6 1241 15 [l0, l1, l2, some (vi w), l4, l5, l6, l7, l8, l9, l10] [vi w] h) ∧
  (∀ (l0 l1 l2 l3 l4 l5 l6 l7 l8 l9 l10 : Option AV) (s0 : Int32) (h : Hp), run 6 1241 15 [l0, l1, l2, l3, l4, l5, l6, l7, l8, l9, l10] [vi s0] h = run 6 1241 16 [l0, l1, l2, l3, l4, l5, l6, l7, l8, l9, l10] [vl s0.toInt64] h) ∧
  (∀ (l0 l1 l2 l3 l4 l5 l6 l7 l8 l9 l10 : Option AV) (s0 : Int64) (h : Hp), run 6 1241 16 [l0, l1, l2, l3, l4, l5, l6, l7, l8, l9, l10] [vl s0] h = run 6 1241 17 [l0, l1, l2, l3, l4, l5, l6, l7, l8, l9, l10] [vl (0 : Int64), vl s0] h) ∧
  (∀ (l0 l1 l2 l3 l4 l5 l6 l7 l8 l9 l10 : Option AV) (s0 : Int64) (s1 : Int64) (h : Hp), run 6 1241 17 [l0, l1, l2, l3, l4, l5, l6, l7, l8, l9, l10] [vl s0, vl s1] h = run 6 1241 18 [l0, l1, l2, l3, l4, l5, l6, l7, l8, l9, l10] [vl (1 : Int64), vl s0, vl s1] h) ∧
  (∀ (l0 l1 l2 l3 l4 l5 l6 l7 l8 l9 l10 : Option AV) (s0 : Int64) (s1 : Int64) (s2 : Int64) (h : Hp), run 6 1241 18 [l0, l1, l2, l3, l4, l5, l6, l7, l8, l9, l10] [vl s0, vl s1, vl s2] h = (call 1201 [vl s2, vl s1, vl s0] h).bind (fun z => run 6 1241 21 [l0, l1, l2, l3, l4, l5, l6, l7, l8, l9, l10] (z.1.toList ++ []) z.2)) ∧
  (∀ (l0 l1 l2 l3 l4 l5 l6 l7 l8 l9 l10 : Option AV) (s0 : Int32) (h : Hp), run 6 1241 21 [l0, l1, l2, l3, l4, l5, l6, l7, l8, l9, l10] [vi s0] h = if s0 = 0 then run 6 1241 24 [l0, l1, l2, l3, l4, l5, l6, l7, l8, l9, l10] [] h else run 6 1241 44 [l0, l1, l2, l3, l4, l5, l6, l7, l8, l9, l10] [] h) ∧
  (∀ (l1 l2 l3 l4 l5 l6 l7 l8 l9 l10 : Option AV) (w : Option Rf) (h : Hp), run 6 1241 24 [some (vo w), l1, l2, l3, l4, l5, l6, l7, l8, l9, l10] [] h = run 6 1241 25 [some (vo w), l1, l2, l3, l4, l5, l6, l7, l8, l9, l10] [vo w] h) ∧
  (∀ (l1 l2 l3 l4 l5 l6 l7 l8 l9 l10 : Option AV) (s0 : Option Rf) (w : Option Rf) (h : Hp), run 6 1241 25 [some (vo w), l1, l2, l3, l4, l5, l6, l7, l8, l9, l10] [vo s0] h = run 6 1241 26 [some (vo w), l1, l2, l3, l4, l5, l6, l7, l8, l9, l10] [vo w, vo s0] h) ∧
  (∀ (l0 l2 l3 l4 l5 l6 l7 l8 l9 l10 : Option AV) (s0 : Option Rf) (s1 : Option Rf) (w : Int32) (h : Hp), run 6 1241 26 [l0, some (vi w), l2, l3, l4, l5, l6, l7, l8, l9, l10] [vo s0, vo s1] h = run 6 1241 27 [l0, some (vi w), l2, l3, l4, l5, l6, l7, l8, l9, l10] [vi w, vo s0, vo s1] h) ∧
  (∀ (l0 l1 l3 l4 l5 l6 l7 l8 l9 l10 : Option AV) (s0 : Int32) (s1 : Option Rf) (s2 : Option Rf) (w : Int32) (h : Hp), run 6 1241 27 [l0, l1, some (vi w), l3, l4, l5, l6, l7, l8, l9, l10] [vi s0, vo s1, vo s2] h = run 6 1241 28 [l0, l1, some (vi w), l3, l4, l5, l6, l7, l8, l9, l10] [vi w, vi s0, vo s1, vo s2] h) ∧
  (∀ (l0 l1 l2 l3 l4 l5 l6 l7 l8 l9 l10 : Option AV) (s0 : Int32) (s1 : Int32) (s3 : Option Rf) (o z : Nat) (h : Hp), run 6 1241 28 [l0, l1, l2, l3, l4, l5, l6, l7, l8, l9, l10] [vi s0, vi s1, vo (some (o, 12, z)), vo s3] h = (call 1205 [vo (some (o, 12, z)), vi s1, vi s0] h).bind (fun z => run 6 1241 31 [l0, l1, l2, l3, l4, l5, l6, l7, l8, l9, l10] (z.1.toList ++ [vo s3]) z.2)) ∧
  (∀ (l0 l1 l2 l3 l4 l5 l6 l7 l8 l9 l10 : Option AV) (s0 : Int32) (s1 : Option Rf) (h : Hp), run 6 1241 31 [l0, l1, l2, l3, l4, l5, l6, l7, l8, l9, l10] [vi s0, vo s1] h = if s0 = 0 then run 6 1241 39 [l0, l1, l2, l3, l4, l5, l6, l7, l8, l9, l10] [vo s1] h else run 6 1241 34 [l0, l1, l2, l3, l4, l5, l6, l7, l8, l9, l10] [vo s1] h) ∧
  (∀ (l0 l1 l2 l3 l4 l5 l6 l7 l8 l9 l10 : Option AV) (s0 : Option Rf) (h : Hp), run 6 1241 34 [l0, l1, l2, l3, l4, l5, l6, l7, l8, l9, l10] [vo s0] h = run 6 1241 36 [l0, l1, l2, l3, l4, l5, l6, l7, l8, l9, l10] [vi (-2 : Int32), vo s0] h) ∧
  (∀ (l0 l1 l2 l3 l4 l5 l6 l7 l8 l9 l10 : Option AV) (s0 : Int32) (s1 : Option Rf) (h : Hp), run 6 1241 36 [l0, l1, l2, l3, l4, l5, l6, l7, l8, l9, l10] [vi s0, vo s1] h = run 6 1241 40 [l0, l1, l2, l3, l4, l5, l6, l7, l8, l9, l10] [vi s0, vo s1] h) ∧
  (∀ (l0 l1 l2 l3 l4 l5 l6 l7 l8 l9 l10 : Option AV) (s0 : Option Rf) (h : Hp), run 6 1241 39 [l0, l1, l2, l3, l4, l5, l6, l7, l8, l9, l10] [vo s0] h = run 6 1241 40 [l0, l1, l2, l3, l4, l5, l6, l7, l8, l9, l10] [vi (-1 : Int32), vo s0] h) ∧
  (∀ (l0 l1 l2 l3 l4 l5 l6 l7 l8 l9 l10 : Option AV) (s0 : Int32) (o z : Nat) (h : Hp), run 6 1241 40 [l0, l1, l2, l3, l4, l5, l6, l7, l8, l9, l10] [vi s0, vo (some (o, 12, z))] h = (call 1202 [vo (some (o, 12, z)), vi s0] h).bind (fun z => run 6 1241 43 [l0, l1, l2, l3, l4, l5, l6, l7, l8, l9, l10] (z.1.toList ++ []) z.2)) ∧
  (∀ (l0 l1 l2 l3 l4 l5 l6 l7 l8 l9 l10 : Option AV) (s0 : Int32) (h : Hp), run 6 1241 43 [l0, l1, l2, l3, l4, l5, l6, l7, l8, l9, l10] [vi s0] h = some (some (vi s0), h)) ∧
  (∀ (l1 l2 l3 l4 l5 l6 l7 l8 l9 l10 : Option AV) (w : Option Rf) (h : Hp), run 6 1241 44 [some (vo w), l1, l2, l3, l4, l5, l6, l7, l8, l9, l10] [] h = run 6 1241 45 [some (vo w), l1, l2, l3, l4, l5, l6, l7, l8, l9, l10] [vo w] h) ∧
  (∀ (l0 l1 l2 l3 l4 l5 l6 l7 l8 l9 l10 : Option AV) (o z : Nat) (h : Hp), run 6 1241 45 [l0, l1, l2, l3, l4, l5, l6, l7, l8, l9, l10] [vo (some (o, 12, z))] h = run 6 1241 48 [l0, l1, l2, l3, l4, l5, l6, l7, l8, l9, l10] [vi (hI h o 5)] h) ∧
  (∀ (l0 l1 l2 l4 l5 l6 l7 l8 l9 l10 : Option AV) (s0 : Int32) (h : Hp), run 6 1241 48 [l0, l1, l2, none, l4, l5, l6, l7, l8, l9, l10] [vi s0] h = run 6 1241 50 [l0, l1, l2, none, some (vi s0), l5, l6, l7, l8, l9, l10] [] h) ∧
  (∀ (l0 l1 l2 l4 l5 l6 l7 l8 l9 l10 : Option AV) (s0 : Int32) (w1 : Int32) (h : Hp), run 6 1241 48 [l0, l1, l2, some (vi w1), l4, l5, l6, l7, l8, l9, l10] [vi s0] h = run 6 1241 50 [l0, l1, l2, some (vi w1), some (vi s0), l5, l6, l7, l8, l9, l10] [] h) ∧
  (∀ (l0 l1 l2 l4 l5 l6 l7 l8 l9 l10 : Option AV) (s0 : Int32) (w1 : Option Rf) (h : Hp), run 6 1241 48 [l0, l1, l2, some (vo w1), l4, l5, l6, l7, l8, l9, l10] [vi s0] h = run 6 1241 50 [l0, l1, l2, some (vo w1), some (vi s0), l5, l6, l7, l8, l9, l10] [] h) ∧
  (∀ (l0 l1 l2 l4 l5 l6 l7 l8 l9 l10 : Option AV) (w : Int32) (h : Hp), run 6 1241 50 [l0, l1, l2, some (vi w), l4, l5, l6, l7, l8, l9, l10] [] h = run 6 1241 51 [l0, l1, l2, some (vi w), l4, l5, l6, l7, l8, l9, l10] [vi w] h) ∧
  (∀ (l0 l1 l2 l3 l4 l5 l6 l7 l8 l9 l10 : Option AV) (s0 : Int32) (h : Hp), run 6 1241 51 [l0, l1, l2, l3, l4, l5, l6, l7, l8, l9, l10] [vi s0] h = if s0 = 0 then run 6 1241 54 [l0, l1, l2, l3, l4, l5, l6, l7, l8, l9, l10] [] h else run 6 1241 71 [l0, l1, l2, l3, l4, l5, l6, l7, l8, l9, l10] [] h) ∧
  (∀ (l1 l2 l3 l4 l5 l6 l7 l8 l9 l10 : Option AV) (w : Option Rf) (h : Hp), run 6 1241 54 [some (vo w), l1, l2, l3, l4, l5, l6, l7, l8, l9, l10] [] h = run 6 1241 55 [some (vo w), l1, l2, l3, l4, l5, l6, l7, l8, l9, l10] [vo w] h) ∧
  (∀ (l0 l2 l3 l4 l5 l6 l7 l8 l9 l10 : Option AV) (s0 : Option Rf) (w : Int32) (h : Hp), run 6 1241 55 [l0, some (vi w), l2, l3, l4, l5, l6, l7, l8, l9, l10] [vo s0] h = run 6 1241 56 [l0, some (vi w), l2, l3, l4, l5, l6, l7, l8, l9, l10] [vi w, vo s0] h) ∧
  (∀ (l0 l1 l2 l3 l4 l5 l6 l7 l8 l9 l10 : Option AV) (s0 : Int32) (o z : Nat) (h : Hp), run 6 1241 56 [l0, l1, l2, l3, l4, l5, l6, l7, l8, l9, l10] [vi s0, vo (some (o, 12, z))] h = (call 1210 [vo (some (o, 12, z)), vi s0] h).bind (fun z => run 6 1241 59 [l0, l1, l2, l3, l4, l5, l6, l7, l8, l9, l10] (z.1.toList ++ []) z.2)) ∧
  (∀ (l1 l2 l3 l4 l5 l6 l7 l8 l9 l10 : Option AV) (s0 : Int32) (w : Option Rf) (h : Hp), run 6 1241 59 [some (vo w), l1, l2, l3, l4, l5, l6, l7, l8, l9, l10] [vi s0] h = run 6 1241 60 [some (vo w), l1, l2, l3, l4, l5, l6, l7, l8, l9, l10] [vo w, vi s0] h) ∧
  (∀ (l0 l1 l3 l4 l5 l6 l7 l8 l9 l10 : Option AV) (s0 : Option Rf) (s1 : Int32) (w : Int32) (h : Hp), run 6 1241 60 [l0, l1, some (vi w), l3, l4, l5, l6, l7, l8, l9, l10] [vo s0, vi s1] h = run 6 1241 61 [l0, l1, some (vi w), l3, l4, l5, l6, l7, l8, l9, l10] [vi w, vo s0, vi s1] h) ∧
  (∀ (l0 l1 l2 l3 l4 l5 l6 l7 l8 l9 l10 : Option AV) (s0 : Int32) (s2 : Int32) (o z : Nat) (h : Hp), run 6 1241 61 [l0, l1, l2, l3, l4, l5, l6, l7, l8, l9, l10] [vi s0, vo (some (o, 12, z)), vi s2] h = (call 1210 [vo (some (o, 12, z)), vi s0] h).bind (fun z => run 6 1241 64 [l0, l1, l2, l3, l4, l5, l6, l7, l8, l9, l10] (z.1.toList ++ [vi s2]) z.2)) ∧
  (∀ (l0 l1 l2 l3 l4 l5 l6 l7 l8 l9 l10 : Option AV) (s0 : Int32) (s1 : Int32) (h : Hp), run 6 1241 64 [l0, l1, l2, l3, l4, l5, l6, l7, l8, l9, l10] [vi s0, vi s1] h = if s1 = s0 then run 6 1241 67 [l0, l1, l2, l3, l4, l5, l6, l7, l8, l9, l10] [] h else run 6 1241 71 [l0, l1, l2, l3, l4, l5, l6, l7, l8, l9, l10] [] h) ∧
  (∀ (l0 l1 l2 l3 l4 l5 l6 l7 l8 l9 l10 : Option AV) (h : Hp), run 6 1241 67 [l0, l1, l2, l3, l4, l5, l6, l7, l8, l9, l10] [] h = run 6 1241 68 [l0, l1, l2, l3, l4, l5, l6, l7, l8, l9, l10] [vi (0 : Int32)] h) ∧
  (∀ (l0 l1 l2 l3 l4 l5 l6 l7 l8 l9 l10 : Option AV) (s0 : Int32) (h : Hp), run 6 1241 68 [l0, l1, l2, l3, l4, l5, l6, l7, l8, l9, l10] [vi s0] h = run 6 1241 73 [l0, l1, l2, l3, l4, l5, l6, l7, l8, l9, l10] [vi s0] h) ∧
  (∀ (l0 l1 l2 l3 l4 l5 l6 l7 l8 l9 l10 : Option AV) (h : Hp), run 6 1241 71 [l0, l1, l2, l3, l4, l5, l6, l7, l8, l9, l10] [] h = run 6 1241 73 [l0, l1, l2, l3, l4, l5, l6, l7, l8, l9, l10] [vi (-9 : Int32)] h) ∧
  (∀ (l0 l1 l2 l3 l5 l6 l7 l8 l9 l10 : Option AV) (s0 : Int32) (h : Hp), run 6 1241 73 [l0, l1, l2, l3, none, l5, l6, l7, l8, l9, l10] [vi s0] h = run 6 1241 75 [l0, l1, l2, l3, none, some (vi s0), l6, l7, l8, l9, l10] [] h) ∧
  (∀ (l0 l1 l2 l3 l5 l6 l7 l8 l9 l10 : Option AV) (s0 : Int32) (w1 : Int32) (h : Hp), run 6 1241 73 [l0, l1, l2, l3, some (vi w1), l5, l6, l7, l8, l9, l10] [vi s0] h = run 6 1241 75 [l0, l1, l2, l3, some (vi w1), some (vi s0), l6, l7, l8, l9, l10] [] h) ∧
  (∀ (l0 l1 l2 l3 l5 l6 l7 l8 l9 l10 : Option AV) (s0 : Int32) (w1 : Option Rf) (h : Hp), run 6 1241 73 [l0, l1, l2, l3, some (vo w1), l5, l6, l7, l8, l9, l10] [vi s0] h = run 6 1241 75 [l0, l1, l2, l3, some (vo w1), some (vi s0), l6, l7, l8, l9, l10] [] h) ∧
  (∀ (l0 l1 l2 l3 l4 l5 l6 l7 l8 l9 l10 : Option AV) (h : Hp), run 6 1241 75 [l0, l1, l2, l3, l4, l5, l6, l7, l8, l9, l10] [] h = run 6 1241 76 [l0, l1, l2, l3, l4, l5, l6, l7, l8, l9, l10] [vi (1 : Int32)] h) ∧
  (∀ (l0 l1 l2 l3 l4 l6 l7 l8 l9 l10 : Option AV) (s0 : Int32) (h : Hp), run 6 1241 76 [l0, l1, l2, l3, l4, none, l6, l7, l8, l9, l10] [vi s0] h = run 6 1241 78 [l0, l1, l2, l3, l4, none, some (vi s0), l7, l8, l9, l10] [] h) ∧
  (∀ (l0 l1 l2 l3 l4 l6 l7 l8 l9 l10 : Option AV) (s0 : Int32) (w1 : Int32) (h : Hp), run 6 1241 76 [l0, l1, l2, l3, l4, some (vi w1), l6, l7, l8, l9, l10] [vi s0] h = run 6 1241 78 [l0, l1, l2, l3, l4, some (vi w1), some (vi s0), l7, l8, l9, l10] [] h) ∧
  (∀ (l0 l1 l2 l3 l4 l6 l7 l8 l9 l10 : Option AV) (s0 : Int32) (w1 : Option Rf) (h : Hp), run 6 1241 76 [l0, l1, l2, l3, l4, some (vo w1), l6, l7, l8, l9, l10] [vi s0] h = run 6 1241 78 [l0, l1, l2, l3, l4, some (vo w1), some (vi s0), l7, l8, l9, l10] [] h) ∧
  (∀ (l0 l1 l2 l3 l4 l5 l6 l7 l8 l9 l10 : Option AV) (s0 : Int32) (h : Hp), run 6 1241 80 [l0, l1, l2, l3, l4, l5, l6, l7, l8, l9, l10] [vi s0] h = run 6 1241 82 [l0, l1, l2, l3, l4, l5, l6, l7, l8, l9, l10] [vi (60 : Int32), vi s0] h) ∧
  (∀ (l0 l1 l2 l3 l4 l5 l6 l7 l8 l9 l10 : Option AV) (s0 : Int32) (s1 : Int32) (h : Hp), run 6 1241 82 [l0, l1, l2, l3, l4, l5, l6, l7, l8, l9, l10] [vi s0, vi s1] h = if s0 < s1 then run 6 1241 197 [l0, l1, l2, l3, l4, l5, l6, l7, l8, l9, l10] [] h else run 6 1241 85 [l0, l1, l2, l3, l4, l5, l6, l7, l8, l9, l10] [] h) ∧
  (∀ (l0 l1 l2 l3 l4 l6 l7 l8 l9 l10 : Option AV) (w : Int32) (h : Hp), run 6 1241 85 [l0, l1, l2, l3, l4, some (vi w), l6, l7, l8, l9, l10] [] h = run 6 1241 87 [l0, l1, l2, l3, l4, some (vi w), l6, l7, l8, l9, l10] [vi w] h) ∧
  (∀ (l0 l1 l2 l3 l4 l5 l6 l7 l8 l9 l10 : Option AV) (s0 : Int32) (h : Hp), run 6 1241 87 [l0, l1, l2, l3, l4, l5, l6, l7, l8, l9, l10] [vi s0] h = if 0 ≤ s0 then run 6 1241 197 [l0, l1, l2, l3, l4, l5, l6, l7, l8, l9, l10] [] h else run 6 1241 90 [l0, l1, l2, l3, l4, l5, l6, l7, l8, l9, l10] [] h) ∧
  (∀ (l1 l2 l3 l4 l5 l6 l7 l8 l9 l10 : Option AV) (w : Option Rf) (h : Hp), run 6 1241 90 [some (vo w), l1, l2, l3, l4, l5, l6, l7, l8, l9, l10] [] h = run 6 1241 91 [some (vo w), l1, l2, l3, l4, l5, l6, l7, l8, l9, l10] [vo w] h) ∧
  (∀ (l0 l2 l3 l4 l5 l6 l7 l8 l9 l10 : Option AV) (s0 : Option Rf) (w : Int32) (h : Hp), run 6 1241 91 [l0, some (vi w), l2, l3, l4, l5, l6, l7, l8, l9, l10] [vo s0] h = run 6 1241 92 [l0, some (vi w), l2, l3, l4, l5, l6, l7, l8, l9, l10] [vi w, vo s0] h) ∧
  (∀ (l0 l1 l2 l3 l4 l5 l6 l7 l8 l9 l10 : Option AV) (s0 : Int32) (o z : Nat) (h : Hp), run 6 1241 92 [l0, l1, l2, l3, l4, l5, l6, l7, l8, l9, l10] [vi s0, vo (some (o, 12, z))] h = (call 1210 [vo (some (o, 12, z)), vi s0] h).bind (fun z => run 6 1241 95 [l0, l1, l2, l3, l4, l5, l6, l7, l8, l9, l10] (z.1.toList ++ []) z.2)) ∧
  (∀ (l0 l1 l2 l3 l4 l5 l7 l8 l9 l10 : Option AV) (s0 : Int32) (h : Hp), run 6 1241 95 [l0, l1, l2, l3, l4, l5, none, l7, l8, l9, l10] [vi s0] h = run 6 1241 97 [l0, l1, l2, l3, l4, l5, none, some (vi s0), l8, l9, l10] [] h) ∧
  (∀ (l0 l1 l2 l3 l4 l5 l7 l8 l9 l10 : Option AV) (s0 : Int32) (w1 : Int32) (h : Hp), run 6 1241 95 [l0, l1, l2, l3, l4, l5, some (vi w1), l7, l8, l9, l10] [vi s0] h = run 6 1241 97 [l0, l1, l2, l3, l4, l5, some (vi w1), some (vi s0), l8, l9, l10] [] h) ∧
  (∀ (l0 l1 l2 l3 l4 l5 l7 l8 l9 l10 : Option AV) (s0 : Int32) (w1 : Option Rf) (h : Hp), run 6 1241 95 [l0, l1, l2, l3, l4, l5, some (vo w1), l7, l8, l9, l10] [vi s0] h = run 6 1241 97 [l0, l1, l2, l3, l4, l5, some (vo w1), some (vi s0), l8, l9, l10] [] h) ∧
  (∀ (l1 l2 l3 l4 l5 l6 l7 l8 l9 l10 : Option AV) (w : Option Rf) (h : Hp), run 6 1241 97 [some (vo w), l1, l2, l3, l4, l5, l6, l7, l8, l9, l10] [] h = run 6 1241 98 [some (vo w), l1, l2, l3, l4, l5, l6, l7, l8, l9, l10] [vo w] h) ∧
  (∀ (l0 l1 l3 l4 l5 l6 l7 l8 l9 l10 : Option AV) (s0 : Option Rf) (w : Int32) (h : Hp), run 6 1241 98 [l0, l1, some (vi w), l3, l4, l5, l6, l7, l8, l9, l10] [vo s0] h = run 6 1241 99 [l0, l1, some (vi w), l3, l4, l5, l6, l7, l8, l9, l10] [vi w, vo s0] h) ∧
  (∀ (l0 l1 l2 l3 l4 l5 l6 l7 l8 l9 l10 : Option AV) (s0 : Int32) (o z : Nat) (h : Hp), run 6 1241 99 [l0, l1, l2, l3, l4, l5, l6, l7, l8, l9, l10] [vi s0, vo (some (o, 12, z))] h = (call 1210 [vo (some (o, 12, z)), vi s0] h).bind (fun z => run 6 1241 102 [l0, l1, l2, l3, l4, l5, l6, l7, l8, l9, l10] (z.1.toList ++ []) z.2)) ∧
  (∀ (l0 l1 l2 l3 l4 l5 l6 l8 l9 l10 : Option AV) (s0 : Int32) (h : Hp), run 6 1241 102 [l0, l1, l2, l3, l4, l5, l6, none, l8, l9, l10] [vi s0] h = run 6 1241 104 [l0, l1, l2, l3, l4, l5, l6, none, some (vi s0), l9, l10] [] h) ∧
  (∀ (l0 l1 l2 l3 l4 l5 l6 l8 l9 l10 : Option AV) (s0 : Int32) (w1 : Int32) (h : Hp), run 6 1241 102 [l0, l1, l2, l3, l4, l5, l6, some (vi w1), l8, l9, l10] [vi s0] h = run 6 1241 104 [l0, l1, l2, l3, l4, l5, l6, some (vi w1), some (vi s0), l9, l10] [] h) ∧
  (∀ (l0 l1 l2 l3 l4 l5 l6 l8 l9 l10 : Option AV) (s0 : Int32) (w1 : Option Rf) (h : Hp), run 6 1241 102 [l0, l1, l2, l3, l4, l5, l6, some (vo w1), l8, l9, l10] [vi s0] h = run 6 1241 104 [l0, l1, l2, l3, l4, l5, l6, some (vo w1), some (vi s0), l9, l10] [] h) ∧
  (∀ (l1 l2 l3 l4 l5 l6 l7 l8 l9 l10 : Option AV) (w : Option Rf) (h : Hp), run 6 1241 104 [some (vo w), l1, l2, l3, l4, l5, l6, l7, l8, l9, l10] [] h = run 6 1241 105 [some (vo w), l1, l2, l3, l4, l5, l6, l7, l8, l9, l10] [vo w] h) ∧
  (∀ (l0 l1 l2 l3 l4 l5 l6 l7 l8 l9 l10 : Option AV) (o z : Nat) (h : Hp), run 6 1241 105 [l0, l1, l2, l3, l4, l5, l6, l7, l8, l9, l10] [vo (some (o, 12, z))] h = (call 1217 [vo (some (o, 12, z))] h).bind (fun z => run 6 1241 108 [l0, l1, l2, l3, l4, l5, l6, l7, l8, l9, l10] (z.1.toList ++ []) z.2)) ∧
  (∀ (l0 l1 l2 l3 l4 l5 l6 l7 l8 l9 l10 : Option AV) (s0 : Int32) (h : Hp), run 6 1241 108 [l0, l1, l2, l3, l4, l5, l6, l7, l8, l9, l10] [vi s0] h = run 6 1241 109 [l0, l1, l2, l3, l4, l5, l6, l7, l8, l9, l10] [] h) ∧
  (∀ (l1 l2 l3 l4 l5 l6 l7 l8 l9 l10 : Option AV) (w : Option Rf) (h : Hp), run 6 1241 109 [some (vo w), l1, l2, l3, l4, l5, l6, l7, l8, l9, l10] [] h = run 6 1241 110 [some (vo w), l1, l2, l3, l4, l5, l6, l7, l8, l9, l10] [vo w] h) ∧
  (∀ (l0 l2 l3 l4 l5 l6 l7 l8 l9 l10 : Option AV) (s0 : Option Rf) (w : Int32) (h : Hp), run 6 1241 110 [l0, some (vi w), l2, l3, l4, l5, l6, l7, l8, l9, l10] [vo s0] h = run 6 1241 111 [l0, some (vi w), l2, l3, l4, l5, l6, l7, l8, l9, l10] [vi w, vo s0] h) ∧
  (∀ (l0 l1 l2 l3 l4 l5 l6 l7 l8 l9 l10 : Option AV) (s0 : Int32) (o z : Nat) (h : Hp), run 6 1241 111 [l0, l1, l2, l3, l4, l5, l6, l7, l8, l9, l10] [vi s0, vo (some (o, 12, z))] h = (call 1210 [vo (some (o, 12, z)), vi s0] h).bind (fun z => run 6 1241 114 [l0, l1, l2, l3, l4, l5, l6, l7, l8, l9, l10] (z.1.toList ++ []) z.2)) ∧
  (∀ (l1 l2 l3 l4 l5 l6 l7 l8 l9 l10 : Option AV) (s0 : Int32) (w : Option Rf) (h : Hp), run 6 1241 114 [some (vo w), l1, l2, l3, l4, l5, l6, l7, l8, l9, l10] [vi s0] h = run 6 1241 115 [some (vo w), l1, l2, l3, l4, l5, l6, l7, l8, l9, l10] [vo w, vi s0] h) ∧
  (∀ (l0 l1 l3 l4 l5 l6 l7 l8 l9 l10 : Option AV) (s0 : Option Rf) (s1 : Int32) (w : Int32) (h : Hp), run 6 1241 115 [l0, l1, some (vi w), l3, l4, l5, l6, l7, l8, l9, l10] [vo s0, vi s1] h = run 6 1241 116 [l0, l1, some (vi w), l3, l4, l5, l6, l7, l8, l9, l10] [vi w, vo s0, vi s1] h) ∧
  (∀ (l0 l1 l2 l3 l4 l5 l6 l7 l8 l9 l10 : Option AV) (s0 : Int32) (s2 : Int32) (o z : Nat) (h : Hp), run 6 1241 116 [l0, l1, l2, l3, l4, l5, l6, l7, l8, l9, l10] [vi s0, vo (some (o, 12, z)), vi s2] h = (call 1210 [vo (some (o, 12, z)), vi s0] h).bind (fun z => run 6 1241 119 [l0, l1, l2, l3, l4, l5, l6, l7, l8, l9, l10] (z.1.toList ++ [vi s2]) z.2)) ∧
  (∀ (l0 l1 l2 l3 l4 l5 l6 l7 l8 l9 l10 : Option AV) (s0 : Int32) (s1 : Int32) (h : Hp), run 6 1241 119 [l0, l1, l2, l3, l4, l5, l6, l7, l8, l9, l10] [vi s0, vi s1] h = if s1 = s0 then run 6 1241 122 [l0, l1, l2, l3, l4, l5, l6, l7, l8, l9, l10] [] h else run 6 1241 126 [l0, l1, l2, l3, l4, l5, l6, l7, l8, l9, l10] [] h) ∧
  (∀ (l0 l1 l2 l3 l4 l5 l6 l7 l8 l9 l10 : Option AV) (h : Hp), run 6 1241 122 [l0, l1, l2, l3, l4, l5, l6, l7, l8, l9, l10] [] h = run 6 1241 123 [l0, l1, l2, l3, l4, l5, l6, l7, l8, l9, l10] [vi (1 : Int32)] h) ∧
  (∀ (l0 l1 l2 l3 l4 l5 l6 l7 l8 l9 l10 : Option AV) (s0 : Int32) (h : Hp), run 6 1241 123 [l0, l1, l2, l3, l4, l5, l6, l7, l8, l9, l10] [vi s0] h = run 6 1241 127 [l0, l1, l2, l3, l4, l5, l6, l7, l8, l9, l10] [vi s0] h) ∧
  (∀ (l0 l1 l2 l3 l4 l5 l6 l7 l8 l9 l10 : Option AV) (h : Hp), run 6 1241 126 [l0, l1, l2, l3, l4, l5, l6, l7, l8, l9, l10] [] h = run 6 1241 127 [l0, l1, l2, l3, l4, l5, l6, l7, l8, l9, l10] [vi (0 : Int32)] h) ∧
  (∀ (l0 l1 l2 l3 l4 l5 l6 l7 l9 l10 : Option AV) (s0 : Int32) (h : Hp), run 6 1241 127 [l0, l1, l2, l3, l4, l5, l6, l7, none, l9, l10] [vi s0] h = run 6 1241 129 [l0, l1, l2, l3, l4, l5, l6, l7, none, some (vi s0), l10] [] h) ∧
  (∀ (l0 l1 l2 l3 l4 l5 l6 l7 l9 l10 : Option AV) (s0 : Int32) (w1 : Int32) (h : Hp), run 6 1241 127 [l0, l1, l2, l3, l4, l5, l6, l7, some (vi w1), l9, l10] [vi s0] h = run 6 1241 129 [l0, l1, l2, l3, l4, l5, l6, l7, some (vi w1), some (vi s0), l10] [] h) ∧
  (∀ (l0 l1 l2 l3 l4 l5 l6 l7 l9 l10 : Option AV) (s0 : Int32) (w1 : Option Rf) (h : Hp), run 6 1241 127 [l0, l1, l2, l3, l4, l5, l6, l7, some (vo w1), l9, l10] [vi s0] h = run 6 1241 129 [l0, l1, l2, l3, l4, l5, l6, l7, some (vo w1), some (vi s0), l10] [] h) ∧
  (∀ (l0 l1 l2 l3 l4 l5 l6 l8 l9 l10 : Option AV) (w : Int32) (h : Hp), run 6 1241 129 [l0, l1, l2, l3, l4, l5, l6, some (vi w), l8, l9, l10] [] h = run 6 1241 131 [l0, l1, l2, l3, l4, l5, l6, some (vi w), l8, l9, l10] [vi w] h) ∧
  (∀ (l0 l1 l2 l3 l4 l5 l6 l7 l9 l10 : Option AV) (s0 : Int32) (w : Int32) (h : Hp), run 6 1241 131 [l0, l1, l2, l3, l4, l5, l6, l7, some (vi w), l9, l10] [vi s0] h = run 6 1241 133 [l0, l1, l2, l3, l4, l5, l6, l7, some (vi w), l9, l10] [vi w, vi s0] h) ∧
  (∀ (l0 l1 l2 l3 l4 l5 l6 l7 l8 l9 l10 : Option AV) (s0 : Int32) (s1 : Int32) (h : Hp), run 6 1241 133 [l0, l1, l2, l3, l4, l5, l6, l7, l8, l9, l10] [vi s0, vi s1] h = if s1 = s0 then run 6 1241 160 [l0, l1, l2, l3, l4, l5, l6, l7, l8, l9, l10] [] h else run 6 1241 136 [l0, l1, l2, l3, l4, l5, l6, l7, l8, l9, l10] [] h) ∧
  (∀ (l1 l2 l3 l4 l5 l6 l7 l8 l9 l10 : Option AV) (w : Option Rf) (h : Hp), run 6 1241 136 [some (vo w), l1, l2, l3, l4, l5, l6, l7, l8, l9, l10] [] h = run 6 1241 137 [some (vo w), l1, l2, l3, l4, l5, l6, l7, l8, l9, l10] [vo w] h) ∧
  (∀ (l0 l2 l3 l4 l5 l6 l7 l8 l9 l10 : Option AV) (s0 : Option Rf) (w : Int32) (h : Hp), run 6 1241 137 [l0, some (vi w), l2, l3, l4, l5, l6, l7, l8, l9, l10] [vo s0] h = run 6 1241 138 [l0, some (vi w), l2, l3, l4, l5, l6, l7, l8, l9, l10] [vi w, vo s0] h) ∧
  (∀ (l0 l1 l2 l3 l4 l5 l6 l7 l8 l9 l10 : Option AV) (s0 : Int32) (o z : Nat) (h : Hp), run 6 1241 138 [l0, l1, l2, l3, l4, l5, l6, l7, l8, l9, l10] [vi s0, vo (some (o, 12, z))] h = (call 1210 [vo (some (o, 12, z)), vi s0] h).bind (fun z => run 6 1241 141 [l0, l1, l2, l3, l4, l5, l6, l7, l8, l9, l10] (z.1.toList ++ []) z.2)) ∧
  (∀ (l0 l1 l2 l3 l4 l5 l6 l7 l9 l10 : Option AV) (s0 : Int32) (w : Int32) (h : Hp), run 6 1241 141 [l0, l1, l2, l3, l4, l5, l6, l7, some (vi w), l9, l10] [vi s0] h = run 6 1241 143 [l0, l1, l2, l3, l4, l5, l6, l7, some (vi w), l9, l10] [vi w, vi s0] h) ∧
  (∀ (l0 l1 l2 l3 l4 l5 l6 l7 l8 l9 l10 : Option AV) (s0 : Int32) (s1 : Int32) (h : Hp), run 6 1241 143 [l0, l1, l2, l3, l4, l5, l6, l7, l8, l9, l10] [vi s0, vi s1] h = if s1 = s0 then run 6 1241 146 [l0, l1, l2, l3, l4, l5, l6, l7, l8, l9, l10] [] h else run 6 1241 160 [l0, l1, l2, l3, l4, l5, l6, l7, l8, l9, l10] [] h) ∧
  (∀ (l1 l2 l3 l4 l5 l6 l7 l8 l9 l10 : Option AV) (w : Option Rf) (h : Hp), run 6 1241 146 [some (vo w), l1, l2, l3, l4, l5, l6, l7, l8, l9, l10] [] h = run 6 1241 147 [some (vo w), l1, l2, l3, l4, l5, l6, l7, l8, l9, l10] [vo w] h) ∧
  (∀ (l0 l1 l3 l4 l5 l6 l7 l8 l9 l10 : Option AV) (s0 : Option Rf) (w : Int32) (h : Hp), run 6 1241 147 [l0, l1, some (vi w), l3, l4, l5, l6, l7, l8, l9, l10] [vo s0] h = run 6 1241 148 [l0, l1, some (vi w), l3, l4, l5, l6, l7, l8, l9, l10] [vi w, vo s0] h) ∧
  (∀ (l0 l1 l2 l3 l4 l5 l6 l7 l8 l9 l10 : Option AV) (s0 : Int32) (o z : Nat) (h : Hp), run 6 1241 148 [l0, l1, l2, l3, l4, l5, l6, l7, l8, l9, l10] [vi s0, vo (some (o, 12, z))] h = (call 1210 [vo (some (o, 12, z)), vi s0] h).bind (fun z => run 6 1241 151 [l0, l1, l2, l3, l4, l5, l6, l7, l8, l9, l10] (z.1.toList ++ []) z.2)) ∧
  (∀ (l0 l1 l2 l3 l4 l5 l6 l8 l9 l10 : Option AV) (s0 : Int32) (w : Int32) (h : Hp), run 6 1241 151 [l0, l1, l2, l3, l4, l5, l6, some (vi w), l8, l9, l10] [vi s0] h = run 6 1241 153 [l0, l1, l2, l3, l4, l5, l6, some (vi w), l8, l9, l10] [vi w, vi s0] h) ∧
  (∀ (l0 l1 l2 l3 l4 l5 l6 l7 l8 l9 l10 : Option AV) (s0 : Int32) (s1 : Int32) (h : Hp), run 6 1241 153 [l0, l1, l2, l3, l4, l5, l6, l7, l8, l9, l10] [vi s0, vi s1] h = if s1 = s0 then run 6 1241 156 [l0, l1, l2, l3, l4, l5, l6, l7, l8, l9, l10] [] h else run 6 1241 160 [l0, l1, l2, l3, l4, l5, l6, l7, l8, l9, l10] [] h) ∧
  (∀ (l0 l1 l2 l3 l4 l5 l6 l7 l8 l9 l10 : Option AV) (h : Hp), run 6 1241 156 [l0, l1, l2, l3, l4, l5, l6, l7, l8, l9, l10] [] h = run 6 1241 157 [l0, l1, l2, l3, l4, l5, l6, l7, l8, l9, l10] [vi (1 : Int32)] h) ∧
  (∀ (l0 l1 l2 l3 l4 l5 l6 l7 l8 l9 l10 : Option AV) (s0 : Int32) (h : Hp), run 6 1241 157 [l0, l1, l2, l3, l4, l5, l6, l7, l8, l9, l10] [vi s0] h = run 6 1241 161 [l0, l1, l2, l3, l4, l5, l6, l7, l8, l9, l10] [vi s0] h) ∧
  (∀ (l0 l1 l2 l3 l4 l5 l6 l7 l8 l9 l10 : Option AV) (h : Hp), run 6 1241 160 [l0, l1, l2, l3, l4, l5, l6, l7, l8, l9, l10] [] h = run 6 1241 161 [l0, l1, l2, l3, l4, l5, l6, l7, l8, l9, l10] [vi (0 : Int32)] h) ∧
  (∀ (l0 l1 l2 l3 l4 l5 l6 l7 l8 l10 : Option AV) (s0 : Int32) (h : Hp), run 6 1241 161 [l0, l1, l2, l3, l4, l5, l6, l7, l8, none, l10] [vi s0] h = run 6 1241 163 [l0, l1, l2, l3, l4, l5, l6, l7, l8, none, some (vi s0)] [] h) ∧
  (∀ (l0 l1 l2 l3 l4 l5 l6 l7 l8 l10 : Option AV) (s0 : Int32) (w1 : Int32) (h : Hp), run 6 1241 161 [l0, l1, l2, l3, l4, l5, l6, l7, l8, some (vi w1), l10] [vi s0] h = run 6 1241 163 [l0, l1, l2, l3, l4, l5, l6, l7, l8, some (vi w1), some (vi s0)] [] h) ∧
  (∀ (l0 l1 l2 l3 l4 l5 l6 l7 l8 l10 : Option AV) (s0 : Int32) (w1 : Option Rf) (h : Hp), run 6 1241 161 [l0, l1, l2, l3, l4, l5, l6, l7, l8, some (vo w1), l10] [vi s0] h = run 6 1241 163 [l0, l1, l2, l3, l4, l5, l6, l7, l8, some (vo w1), some (vi s0)] [] h) ∧
  (∀ (l0 l1 l2 l4 l5 l6 l7 l8 l9 l10 : Option AV) (w : Int32) (h : Hp), run 6 1241 163 [l0, l1, l2, some (vi w), l4, l5, l6, l7, l8, l9, l10] [] h = run 6 1241 164 [l0, l1, l2, some (vi w), l4, l5, l6, l7, l8, l9, l10] [vi w] h) ∧
  (∀ (l0 l1 l2 l3 l4 l5 l6 l7 l8 l9 l10 : Option AV) (s0 : Int32) (h : Hp), run 6 1241 164 [l0, l1, l2, l3, l4, l5, l6, l7, l8, l9, l10] [vi s0] h = if s0 = 0 then run 6 1241 167 [l0, l1, l2, l3, l4, l5, l6, l7, l8, l9, l10] [] h else run 6 1241 172 [l0, l1, l2, l3, l4, l5, l6, l7, l8, l9, l10] [] h) ∧
  (∀ (l0 l1 l2 l3 l4 l5 l6 l7 l8 l10 : Option AV) (w : Int32) (h : Hp), run 6 1241 167 [l0, l1, l2, l3, l4, l5, l6, l7, l8, some (vi w), l10] [] h = run 6 1241 169 [l0, l1, l2, l3, l4, l5, l6, l7, l8, some (vi w), l10] [vi w] h) ∧
  (∀ (l0 l1 l2 l3 l4 l5 l6 l7 l8 l9 l10 : Option AV) (s0 : Int32) (h : Hp), run 6 1241 169 [l0, l1, l2, l3, l4, l5, l6, l7, l8, l9, l10] [vi s0] h = if s0 = 0 then run 6 1241 172 [l0, l1, l2, l3, l4, l5, l6, l7, l8, l9, l10] [] h else run 6 1241 182 [l0, l1, l2, l3, l4, l5, l6, l7, l8, l9, l10] [] h) ∧
  (∀ (l0 l1 l2 l4 l5 l6 l7 l8 l9 l10 : Option AV) (w : Int32) (h : Hp), run 6 1241 172 [l0, l1, l2, some (vi w), l4, l5, l6, l7, l8, l9, l10] [] h = run 6 1241 173 [l0, l1, l2, some (vi w), l4, l5, l6, l7, l8, l9, l10] [vi w] h) ∧
  (∀ (l0 l1 l2 l3 l4 l5 l6 l7 l8 l9 l10 : Option AV) (s0 : Int32) (h : Hp), run 6 1241 173 [l0, l1, l2, l3, l4, l5, l6, l7, l8, l9, l10] [vi s0] h = run 6 1241 174 [l0, l1, l2, l3, l4, l5, l6, l7, l8, l9, l10] [vi (1 : Int32), vi s0] h) ∧
  (∀ (l0 l1 l2 l3 l4 l5 l6 l7 l8 l9 l10 : Option AV) (s0 : Int32) (s1 : Int32) (h : Hp), run 6 1241 174 [l0, l1, l2, l3, l4, l5, l6, l7, l8, l9, l10] [vi s0, vi s1] h = if s1 = s0 then run 6 1241 177 [l0, l1, l2, l3, l4, l5, l6, l7, l8, l9, l10] [] h else run 6 1241 187 [l0, l1, l2, l3, l4, l5, l6, l7, l8, l9, l10] [] h) ∧
  (∀ (l0 l1 l2 l3 l4 l5 l6 l7 l8 l9 : Option AV) (w : Int32) (h : Hp), run 6 1241 177 [l0, l1, l2, l3, l4, l5, l6, l7, l8, l9, some (vi w)] [] h = run 6 1241 179 [l0, l1, l2, l3, l4, l5, l6, l7, l8, l9, some (vi w)] [vi w] h) ∧
  (∀ (l0 l1 l2 l3 l4 l5 l6 l7 l8 l9 l10 : Option AV) (s0 : Int32) (h : Hp), run 6 1241 179 [l0, l1, l2, l3, l4, l5, l6, l7, l8, l9, l10] [vi s0] h = if s0 = 0 then run 6 1241 187 [l0, l1, l2, l3, l4, l5, l6, l7, l8, l9, l10] [] h else run 6 1241 182 [l0, l1, l2, l3, l4, l5, l6, l7, l8, l9, l10] [] h) ∧
  (∀ (l0 l1 l2 l3 l4 l5 l7 l8 l9 l10 : Option AV) (w : Int32) (h : Hp), run 6 1241 182 [l0, l1, l2, l3, l4, l5, some (vi w), l7, l8, l9, l10] [] h = run 6 1241 184 [l0, l1, l2, l3, l4, l5, some (vi w), l7, l8, l9, l10] [vi w] h) ∧
  (∀ (l0 l1 l2 l3 l4 l5 l6 l7 l8 l9 l10 : Option AV) (s0 : Int32) (h : Hp), run 6 1241 184 [l0, l1, l2, l3, l4, l5, l6, l7, l8, l9, l10] [vi s0] h = run 6 1241 189 [l0, l1, l2, l3, l4, l5, l6, l7, l8, l9, l10] [vi s0] h) ∧
  (∀ (l0 l1 l2 l3 l4 l5 l6 l7 l8 l9 l10 : Option AV) (h : Hp), run 6 1241 187 [l0, l1, l2, l3, l4, l5, l6, l7, l8, l9, l10] [] h = run 6 1241 189 [l0, l1, l2, l3, l4, l5, l6, l7, l8, l9, l10] [vi (-9 : Int32)] h) ∧
  (∀ (l0 l1 l2 l3 l5 l6 l7 l8 l9 l10 : Option AV) (s0 : Int32) (h : Hp), run 6 1241 189 [l0, l1, l2, l3, none, l5, l6, l7, l8, l9, l10] [vi s0] h = run 6 1241 191 [l0, l1, l2, l3, none, some (vi s0), l6, l7, l8, l9, l10] [] h) ∧
  (∀ (l0 l1 l2 l3 l5 l6 l7 l8 l9 l10 : Option AV) (s0 : Int32) (w1 : Int32) (h : Hp), run 6 1241 189 [l0, l1, l2, l3, some (vi w1), l5, l6, l7, l8, l9, l10] [vi s0] h = run 6 1241 191 [l0, l1, l2, l3, some (vi w1), some (vi s0), l6, l7, l8, l9, l10] [] h) ∧
  (∀ (l0 l1 l2 l3 l5 l6 l7 l8 l9 l10 : Option AV) (s0 : Int32) (w1 : Option Rf) (h : Hp), run 6 1241 189 [l0, l1, l2, l3, some (vo w1), l5, l6, l7, l8, l9, l10] [vi s0] h = run 6 1241 191 [l0, l1, l2, l3, some (vo w1), some (vi s0), l6, l7, l8, l9, l10] [] h) ∧
  (∀ (l0 l1 l2 l3 l4 l7 l8 l9 l10 : Option AV) (w : Int32) (h : Hp), run 6 1241 191 [l0, l1, l2, l3, l4, none, some (vi w), l7, l8, l9, l10] [] h = run 6 1241 194 [l0, l1, l2, l3, l4, none, some (vi (w + (1 : Int32))), l7, l8, l9, l10] [] h) ∧
  (∀ (l0 l1 l2 l3 l4 l7 l8 l9 l10 : Option AV) (w1 : Int32) (w : Int32) (h : Hp), run 6 1241 191 [l0, l1, l2, l3, l4, some (vi w1), some (vi w), l7, l8, l9, l10] [] h = run 6 1241 194 [l0, l1, l2, l3, l4, some (vi w1), some (vi (w + (1 : Int32))), l7, l8, l9, l10] [] h) ∧
  (∀ (l0 l1 l2 l3 l4 l7 l8 l9 l10 : Option AV) (w1 : Option Rf) (w : Int32) (h : Hp), run 6 1241 191 [l0, l1, l2, l3, l4, some (vo w1), some (vi w), l7, l8, l9, l10] [] h = run 6 1241 194 [l0, l1, l2, l3, l4, some (vo w1), some (vi (w + (1 : Int32))), l7, l8, l9, l10] [] h) ∧
  (∀ (l0 l1 l2 l3 l4 l5 l6 l7 l8 l9 l10 : Option AV) (h : Hp), run 6 1241 194 [l0, l1, l2, l3, l4, l5, l6, l7, l8, l9, l10] [] h = run 6 1241 78 [l0, l1, l2, l3, l4, l5, l6, l7, l8, l9, l10] [] h) ∧
  (∀ (l1 l2 l3 l4 l5 l6 l7 l8 l9 l10 : Option AV) (w : Option Rf) (h : Hp), run 6 1241 197 [some (vo w), l1, l2, l3, l4, l5, l6, l7, l8, l9, l10] [] h = run 6 1241 198 [some (vo w), l1, l2, l3, l4, l5, l6, l7, l8, l9, l10] [vo w] h) ∧
  (∀ (l0 l1 l2 l3 l5 l6 l7 l8 l9 l10 : Option AV) (s0 : Option Rf) (w : Int32) (h : Hp), run 6 1241 198 [l0, l1, l2, l3, some (vi w), l5, l6, l7, l8, l9, l10] [vo s0] h = run 6 1241 200 [l0, l1, l2, l3, some (vi w), l5, l6, l7, l8, l9, l10] [vi w, vo s0] h) ∧
  (∀ (l0 l1 l2 l3 l4 l5 l6 l7 l8 l9 l10 : Option AV) (s0 : Int32) (o z : Nat) (h : Hp), run 6 1241 200 [l0, l1, l2, l3, l4, l5, l6, l7, l8, l9, l10] [vi s0, vo (some (o, 12, z))] h = run 6 1241 203 [l0, l1, l2, l3, l4, l5, l6, l7, l8, l9, l10] [] (hsI h o 5 s0)) ∧
  (∀ (l0 l1 l2 l3 l4 l6 l7 l8 l9 l10 : Option AV) (w : Int32) (h : Hp), run 6 1241 203 [l0, l1, l2, l3, l4, some (vi w), l6, l7, l8, l9, l10] [] h = run 6 1241 205 [l0, l1, l2, l3, l4, some (vi w), l6, l7, l8, l9, l10] [vi w] h) ∧
  (∀ (l0 l1 l2 l3 l4 l5 l6 l7 l8 l9 l10 : Option AV) (s0 : Int32) (h : Hp), run 6 1241 205 [l0, l1, l2, l3, l4, l5, l6, l7, l8, l9, l10] [vi s0] h = some (some (vi s0), h)) := ⟨(fun _ _ _ _ _ _ _ _ _ _ _ _ => run_next rfl rfl),
  (fun _ _ _ _ _ _ _ _ _ _ _ s0 _ => run_next rfl rfl),
  (fun _ _ _ _ _ _ _ _ _ _ _ s0 _ _ _ => run_next rfl rfl),
  (fun _ _ _ _ _ _ _ _ _ _ _ _ => run_next rfl rfl),
  (fun _ _ _ _ _ _ _ _ _ _ s0 _ _ => run_next rfl rfl),
  (fun _ _ _ _ _ _ _ _ _ _ s0 _ _ _ => run_next rfl rfl),
  (fun _ _ _ _ _ _ _ _ _ _ _ s0 _ _ _ _ => run_calx rfl rfl (Nat.le_of_ble_eq_true rfl) (Nat.le_of_ble_eq_true rfl) rfl),
  (fun _ _ _ _ _ _ _ _ _ _ _ s0 _ => run_if rfl rfl (run_next rfl) (run_next rfl)),
  (fun _ _ _ _ _ _ _ _ _ _ _ _ => run_next rfl rfl),
  (fun _ _ _ _ _ _ _ _ _ _ _ s0 _ => run_next rfl rfl),
  (fun _ _ _ _ _ _ _ _ _ _ _ s0 _ => run_next rfl rfl),
  (fun _ _ _ _ _ _ _ _ _ _ _ s0 _ _ => run_next rfl rfl),
  (fun _ _ _ _ _ _ _ _ _ _ _ s0 _ _ _ => run_calx rfl rfl (Nat.le_of_ble_eq_true rfl) (Nat.le_of_ble_eq_true rfl) rfl),
  (fun _ _ _ _ _ _ _ _ _ _ _ s0 _ => run_if rfl rfl (run_next rfl) (run_next rfl)),
  (fun _ _ _ _ _ _ _ _ _ _ _ _ => run_next rfl rfl),
  (fun _ _ _ _ _ _ _ _ _ _ s0 _ _ => run_next rfl rfl),
  (fun _ _ _ _ _ _ _ _ _ _ s0 _ _ _ => run_next rfl rfl),
  (fun _ _ _ _ _ _ _ _ _ _ s0 _ _ _ _ => run_next rfl rfl),
  (fun _ _ _ _ _ _ _ _ _ _ _ s0 _ _ _ _ _ => run_calx rfl rfl (Nat.le_of_ble_eq_true rfl) (Nat.le_of_ble_eq_true rfl) rfl),
  (fun _ _ _ _ _ _ _ _ _ _ _ s0 _ _ => run_if rfl rfl (run_next rfl) (run_next rfl)),
  (fun _ _ _ _ _ _ _ _ _ _ _ s0 _ => run_next rfl rfl),
  (fun _ _ _ _ _ _ _ _ _ _ _ s0 _ _ => run_next rfl rfl),
  (fun _ _ _ _ _ _ _ _ _ _ _ s0 _ => run_next rfl rfl),
  (fun _ _ _ _ _ _ _ _ _ _ _ s0 _ _ _ => run_calx rfl rfl (Nat.le_of_ble_eq_true rfl) (Nat.le_of_ble_eq_true rfl) rfl),
  (fun _ _ _ _ _ _ _ _ _ _ _ s0 _ => run_ret rfl rfl),
  (fun _ _ _ _ _ _ _ _ _ _ _ _ => run_next rfl rfl),
  (fun _ _ _ _ _ _ _ _ _ _ _ _ _ _ => run_next rfl rfl),
  (fun _ _ _ _ _ _ _ _ _ _ s0 _ => run_next rfl rfl),
  (fun _ _ _ _ _ _ _ _ _ _ s0 _ _ => run_next rfl rfl),
  (fun _ _ _ _ _ _ _ _ _ _ s0 _ _ => run_next rfl rfl),
  (fun _ _ _ _ _ _ _ _ _ _ _ _ => run_next rfl rfl),
  (fun _ _ _ _ _ _ _ _ _ _ _ s0 _ => run_if rfl rfl (run_next rfl) (run_next rfl)),
  (fun _ _ _ _ _ _ _ _ _ _ _ _ => run_next rfl rfl),
  (fun _ _ _ _ _ _ _ _ _ _ s0 _ _ => run_next rfl rfl),
  (fun _ _ _ _ _ _ _ _ _ _ _ s0 _ _ _ => run_calx rfl rfl (Nat.le_of_ble_eq_true rfl) (Nat.le_of_ble_eq_true rfl) rfl),
  (fun _ _ _ _ _ _ _ _ _ _ s0 _ _ => run_next rfl rfl),
  (fun _ _ _ _ _ _ _ _ _ _ s0 _ _ _ => run_next rfl rfl),
  (fun _ _ _ _ _ _ _ _ _ _ _ s0 _ _ _ _ => run_calx rfl rfl (Nat.le_of_ble_eq_true rfl) (Nat.le_of_ble_eq_true rfl) rfl),
  (fun _ _ _ _ _ _ _ _ _ _ _ s0 _ _ => run_if rfl rfl (run_next rfl) (run_next rfl)),
  (fun _ _ _ _ _ _ _ _ _ _ _ _ => run_next rfl rfl),
  (fun _ _ _ _ _ _ _ _ _ _ _ s0 _ => run_next rfl rfl),
  (fun _ _ _ _ _ _ _ _ _ _ _ _ => run_next rfl rfl),
  (fun _ _ _ _ _ _ _ _ _ _ s0 _ => run_next rfl rfl),
  (fun _ _ _ _ _ _ _ _ _ _ s0 _ _ => run_next rfl rfl),
  (fun _ _ _ _ _ _ _ _ _ _ s0 _ _ => run_next rfl rfl),
  (fun _ _ _ _ _ _ _ _ _ _ _ _ => run_next rfl rfl),
  (fun _ _ _ _ _ _ _ _ _ _ s0 _ => run_next rfl rfl),
  (fun _ _ _ _ _ _ _ _ _ _ s0 _ _ => run_next rfl rfl),
  (fun _ _ _ _ _ _ _ _ _ _ s0 _ _ => run_next rfl rfl),
  (fun _ _ _ _ _ _ _ _ _ _ _ s0 _ => run_next rfl rfl),
  (fun _ _ _ _ _ _ _ _ _ _ _ s0 _ _ => run_if rfl rfl (run_next rfl) (run_next rfl)),
  (fun _ _ _ _ _ _ _ _ _ _ _ _ => run_next rfl rfl),
  (fun _ _ _ _ _ _ _ _ _ _ _ s0 _ => run_if rfl rfl (run_next rfl) (run_next rfl)),
  (fun _ _ _ _ _ _ _ _ _ _ _ _ => run_next rfl rfl),
  (fun _ _ _ _ _ _ _ _ _ _ s0 _ _ => run_next rfl rfl),
  (fun _ _ _ _ _ _ _ _ _ _ _ s0 _ _ _ => run_calx rfl rfl (Nat.le_of_ble_eq_true rfl) (Nat.le_of_ble_eq_true rfl) rfl),
  (fun _ _ _ _ _ _ _ _ _ _ s0 _ => run_next rfl rfl),
  (fun _ _ _ _ _ _ _ _ _ _ s0 _ _ => run_next rfl rfl),
  (fun _ _ _ _ _ _ _ _ _ _ s0 _ _ => run_next rfl rfl),
  (fun _ _ _ _ _ _ _ _ _ _ _ _ => run_next rfl rfl),
  (fun _ _ _ _ _ _ _ _ _ _ s0 _ _ => run_next rfl rfl),
  (fun _ _ _ _ _ _ _ _ _ _ _ s0 _ _ _ => run_calx rfl rfl (Nat.le_of_ble_eq_true rfl) (Nat.le_of_ble_eq_true rfl) rfl),
  (fun _ _ _ _ _ _ _ _ _ _ s0 _ => run_next rfl rfl),
  (fun _ _ _ _ _ _ _ _ _ _ s0 _ _ => run_next rfl rfl),
  (fun _ _ _ _ _ _ _ _ _ _ s0 _ _ => run_next rfl rfl),
  (fun _ _ _ _ _ _ _ _ _ _ _ _ => run_next rfl rfl),
  (fun _ _ _ _ _ _ _ _ _ _ _ _ _ _ => run_calx rfl rfl (Nat.le_of_ble_eq_true rfl) (Nat.le_of_ble_eq_true rfl) rfl),
  (fun _ _ _ _ _ _ _ _ _ _ _ s0 _ => run_next rfl rfl),
  (fun _ _ _ _ _ _ _ _ _ _ _ _ => run_next rfl rfl),
  (fun _ _ _ _ _ _ _ _ _ _ s0 _ _ => run_next rfl rfl),
  (fun _ _ _ _ _ _ _ _ _ _ _ s0 _ _ _ => run_calx rfl rfl (Nat.le_of_ble_eq_true rfl) (Nat.le_of_ble_eq_true rfl) rfl),
  (fun _ _ _ _ _ _ _ _ _ _ s0 _ _ => run_next rfl rfl),
  (fun _ _ _ _ _ _ _ _ _ _ s0 _ _ _ => run_next rfl rfl),
  (fun _ _ _ _ _ _ _ _ _ _ _ s0 _ _ _ _ => run_calx rfl rfl (Nat.le_of_ble_eq_true rfl) (Nat.le_of_ble_eq_true rfl) rfl),
  (fun _ _ _ _ _ _ _ _ _ _ _ s0 _ _ => run_if rfl rfl (run_next rfl) (run_next rfl)),
  (fun _ _ _ _ _ _ _ _ _ _ _ _ => run_next rfl rfl),
  (fun _ _ _ _ _ _ _ _ _ _ _ s0 _ => run_next rfl rfl),
  (fun _ _ _ _ _ _ _ _ _ _ _ _ => run_next rfl rfl),
  (fun _ _ _ _ _ _ _ _ _ _ s0 _ => run_next rfl rfl),
  (fun _ _ _ _ _ _ _ _ _ _ s0 _ _ => run_next rfl rfl),
  (fun _ _ _ _ _ _ _ _ _ _ s0 _ _ => run_next rfl rfl),
  (fun _ _ _ _ _ _ _ _ _ _ _ _ => run_next rfl rfl),
  (fun _ _ _ _ _ _ _ _ _ _ s0 _ _ => run_next rfl rfl),
  (fun _ _ _ _ _ _ _ _ _ _ _ s0 _ _ => run_if rfl rfl (run_next rfl) (run_next rfl)),
  (fun _ _ _ _ _ _ _ _ _ _ _ _ => run_next rfl rfl),
  (fun _ _ _ _ _ _ _ _ _ _ s0 _ _ => run_next rfl rfl),
  (fun _ _ _ _ _ _ _ _ _ _ _ s0 _ _ _ => run_calx rfl rfl (Nat.le_of_ble_eq_true rfl) (Nat.le_of_ble_eq_true rfl) rfl),
  (fun _ _ _ _ _ _ _ _ _ _ s0 _ _ => run_next rfl rfl),
  (fun _ _ _ _ _ _ _ _ _ _ _ s0 _ _ => run_if rfl rfl (run_next rfl) (run_next rfl)),
  (fun _ _ _ _ _ _ _ _ _ _ _ _ => run_next rfl rfl),
  (fun _ _ _ _ _ _ _ _ _ _ s0 _ _ => run_next rfl rfl),
  (fun _ _ _ _ _ _ _ _ _ _ _ s0 _ _ _ => run_calx rfl rfl (Nat.le_of_ble_eq_true rfl) (Nat.le_of_ble_eq_true rfl) rfl),
  (fun _ _ _ _ _ _ _ _ _ _ s0 _ _ => run_next rfl rfl),
  (fun _ _ _ _ _ _ _ _ _ _ _ s0 _ _ => run_if rfl rfl (run_next rfl) (run_next rfl)),
  (fun _ _ _ _ _ _ _ _ _ _ _ _ => run_next rfl rfl),
  (fun _ _ _ _ _ _ _ _ _ _ _ s0 _ => run_next rfl rfl),
  (fun _ _ _ _ _ _ _ _ _ _ _ _ => run_next rfl rfl),
  (fun _ _ _ _ _ _ _ _ _ _ s0 _ => run_next rfl rfl),
  (fun _ _ _ _ _ _ _ _ _ _ s0 _ _ => run_next rfl rfl),
  (fun _ _ _ _ _ _ _ _ _ _ s0 _ _ => run_next rfl rfl),
  (fun _ _ _ _ _ _ _ _ _ _ _ _ => run_next rfl rfl),
  (fun _ _ _ _ _ _ _ _ _ _ _ s0 _ => run_if rfl rfl (run_next rfl) (run_next rfl)),
  (fun _ _ _ _ _ _ _ _ _ _ _ _ => run_next rfl rfl),
  (fun _ _ _ _ _ _ _ _ _ _ _ s0 _ => run_if rfl rfl (run_next rfl) (run_next rfl)),
  (fun _ _ _ _ _ _ _ _ _ _ _ _ => run_next rfl rfl),
  (fun _ _ _ _ _ _ _ _ _ _ _ s0 _ => run_next rfl rfl),
  (fun _ _ _ _ _ _ _ _ _ _ _ s0 _ _ => run_if rfl rfl (run_next rfl) (run_next rfl)),
  (fun _ _ _ _ _ _ _ _ _ _ _ _ => run_next rfl rfl),
  (fun _ _ _ _ _ _ _ _ _ _ _ s0 _ => run_if rfl rfl (run_next rfl) (run_next rfl)),
  (fun _ _ _ _ _ _ _ _ _ _ _ _ => run_next rfl rfl),
  (fun _ _ _ _ _ _ _ _ _ _ _ s0 _ => run_next rfl rfl),
  (fun _ _ _ _ _ _ _ _ _ _ _ _ => run_next rfl rfl),
  (fun _ _ _ _ _ _ _ _ _ _ s0 _ => run_next rfl rfl),
  (fun _ _ _ _ _ _ _ _ _ _ s0 _ _ => run_next rfl rfl),
  (fun _ _ _ _ _ _ _ _ _ _ s0 _ _ => run_next rfl rfl),
  (fun _ _ _ _ _ _ _ _ _ _ _ => run_next rfl rfl),
  (fun _ _ _ _ _ _ _ _ _ _ _ _ => run_next rfl rfl),
  (fun _ _ _ _ _ _ _ _ _ _ _ _ => run_next rfl rfl),
  (fun _ _ _ _ _ _ _ _ _ _ _ _ => run_next rfl rfl),
  (fun _ _ _ _ _ _ _ _ _ _ _ _ => run_next rfl rfl),
  (fun _ _ _ _ _ _ _ _ _ _ s0 _ _ => run_next rfl rfl),
  (fun _ _ _ _ _ _ _ _ _ _ _ s0 _ _ _ => run_next rfl rfl),
  (fun _ _ _ _ _ _ _ _ _ _ _ _ => run_next rfl rfl),
  (fun _ _ _ _ _ _ _ _ _ _ _ s0 _ => run_ret rfl rfl)⟩
set_option maxRecDepth 20000 in
theorem x_1241_78 : (∀ (l0 l1 l2 l3 l4 l5 l7 l8 l9 l10 : Option AV) (w : Int32) (h : Hp), run 6 1241 78 [l0, l1, l2, l3, l4, l5, some (vi w), l7, l8, l9, l10] [] h = run 6 1241 80 [l0, l1, l2, l3, l4, l5, some (vi w), l7, l8, l9, l10] [vi w] h) := (fun _ _ _ _ _ _ _ _ _ _ _ _ => run_next rfl rfl)
theorem e_1241 (v : Option Rf) (a0 : Int32) (a1 : Int32) (a2 : Int32) (h : Hp) : call 1241 [vo v, vi a0, vi a1, vi a2] h = run 6 1241 0 [some (vo v), some (vi a0), some (vi a1), some (vi a2), none, none, none, none, none, none, none] [] h := rfl
set_option maxRecDepth 20000 in
theorem x_1242 : (∀ (l0 : Option AV) (h : Hp), run 0 1242 0 [l0] [] h = run 0 1242 1 [l0] [vi (1 : Int32)] h) ∧
  (∀ (s0 : Int32) (w : Option Rf) (h : Hp), run 0 1242 1 [some (vo w)] [vi s0] h = run 0 1242 2 [some (vo w)] [vo w, vi s0] h) ∧
  (∀ (l0 : Option AV) (s1 : Int32) (o z : Nat) (h : Hp), run 0 1242 2 [l0] [vo (some (o, 12, z)), vi s1] h = run 0 1242 5 [l0] [vi (hI h o 0), vi s1] h) ∧
  (∀ (s0 : Int32) (s1 : Int32) (w : Option Rf) (h : Hp), run 0 1242 5 [some (vo w)] [vi s0, vi s1] h = run 0 1242 6 [some (vo w)] [vo w, vi s0, vi s1] h) ∧
  (∀ (l0 : Option AV) (s1 : Int32) (s2 : Int32) (o z : Nat) (h : Hp), run 0 1242 6 [l0] [vo (some (o, 12, z)), vi s1, vi s2] h = run 0 1242 9 [l0] [vi (hI h o 1), vi s1, vi s2] h) ∧
  (∀ (l0 : Option AV) (s0 : Int32) (s1 : Int32) (s2 : Int32) (h : Hp), run 0 1242 9 [l0] [vi s0, vi s1, vi s2] h = run 0 1242 10 [l0] [vi (s1 * s0), vi s2] h) ∧
  (∀ (l0 : Option AV) (s0 : Int32) (s1 : Int32) (h : Hp), run 0 1242 10 [l0] [vi s0, vi s1] h = run 0 1242 11 [l0] [vi (s1 <<< (s0 &&& 31))] h) ∧
  (∀ (l0 : Option AV) (s0 : Int32) (h : Hp), run 0 1242 11 [l0] [vi s0] h = run 0 1242 12 [l0] [vi (1 : Int32), vi s0] h) ∧
  (∀ (l0 : Option AV) (s0 : Int32) (s1 : Int32) (h : Hp), run 0 1242 12 [l0] [vi s0, vi s1] h = run 0 1242 13 [l0] [vi (s1 - s0)] h) ∧
  (∀ (s0 : Int32) (w : Option Rf) (h : Hp), run 0 1242 13 [some (vo w)] [vi s0] h = run 0 1242 14 [some (vo w)] [vo w, vi s0] h) ∧
  (∀ (l0 : Option AV) (s1 : Int32) (o z : Nat) (h : Hp), run 0 1242 14 [l0] [vo (some (o, 12, z)), vi s1] h = run 0 1242 17 [l0] [vi (hI h o 2), vi s1] h) ∧
  (∀ (l0 : Option AV) (s0 : Int32) (s1 : Int32) (h : Hp), run 0 1242 17 [l0] [vi s0, vi s1] h = run 0 1242 18 [l0] [vi (-1 : Int32), vi s0, vi s1] h) ∧
  (∀ (l0 : Option AV) (s0 : Int32) (s1 : Int32) (s2 : Int32) (h : Hp), run 0 1242 18 [l0] [vi s0, vi s1, vi s2] h = run 0 1242 19 [l0] [vi (s1 ^^^ s0), vi s2] h) ∧
  (∀ (l0 : Option AV) (s0 : Int32) (s1 : Int32) (h : Hp), run 0 1242 19 [l0] [vi s0, vi s1] h = run 0 1242 20 [l0] [vi (s1 &&& s0)] h) ∧
  (∀ (l0 : Option AV) (s0 : Int32) (h : Hp), run 0 1242 20 [l0] [vi s0] h = some (some (vi s0), h)) := ⟨(fun _ _ => run_next rfl rfl),
  (fun s0 _ _ => run_next rfl rfl),
  (fun _ _ _ _ _ => run_next rfl rfl),
  (fun s0 _ _ _ => run_next rfl rfl),
  (fun _ _ _ _ _ _ => run_next rfl rfl),
  (fun _ s0 _ _ _ => run_next rfl rfl),
  (fun _ s0 _ _ => run_next rfl rfl),
  (fun _ s0 _ => run_next rfl rfl),
  (fun _ s0 _ _ => run_next rfl rfl),
  (fun s0 _ _ => run_next rfl rfl),
  (fun _ _ _ _ _ => run_next rfl rfl),
  (fun _ s0 _ _ => run_next rfl rfl),
  (fun _ s0 _ _ _ => run_next rfl rfl),
  (fun _ s0 _ _ => run_next rfl rfl),
  (fun _ s0 _ => run_ret rfl rfl)⟩
theorem e_1242 (v : Option Rf) (h : Hp) : call 1242 [vo v] h = run 0 1242 0 [some (vo v)] [] h := rfl
set_option maxRecDepth 20000 in
theorem x_1243 : (∀ (l1 l2 l3 l4 l5 l6 : Option AV) (w : Option Rf) (h : Hp), run 6 1243 0 [some (vo w), l1, l2, l3, l4, l5, l6] [] h = run 6 1243 1 [some (vo w), l1, l2, l3, l4, l5, l6] [vo w] h) ∧
  (∀ (l0 l1 l2 l3 l4 l5 l6 : Option AV) (s0 : Option Rf) (h : Hp), run 6 1243 1 [l0, l1, l2, l3, l4, l5, l6] [vo s0] h = run 6 1243 2 [l0, l1, l2, l3, l4, l5, l6] [vi (0 : Int32), vo s0] h) ∧
  (∀ (l0 l1 l2 l3 l4 l5 l6 : Option AV) (s0 : Int32) (o z : Nat) (h : Hp), run 6 1243 2 [l0, l1, l2, l3, l4, l5, l6] [vi s0, vo (some (o, 12, z))] h = run 6 1243 5 [l0, l1, l2, l3, l4, l5, l6] [] (hsI h o 12 s0)) ∧
  (∀ (l1 l2 l3 l4 l5 l6 : Option AV) (w : Option Rf) (h : Hp), run 6 1243 5 [some (vo w), l1, l2, l3, l4, l5, l6] [] h = run 6 1243 6 [some (vo w), l1, l2, l3, l4, l5, l6] [vo w] h) ∧
  (∀ (l0 l2 l3 l4 l5 l6 : Option AV) (s0 : Option Rf) (w : Int32) (h : Hp), run 6 1243 6 [l0, some (vi w), l2, l3, l4, l5, l6] [vo s0] h = run 6 1243 7 [l0, some (vi w), l2, l3, l4, l5, l6] [vi w, vo s0] h) ∧
  (∀ (l0 l1 l2 l3 l4 l5 l6 : Option AV) (s0 : Int32) (o z : Nat) (h : Hp), run 6 1243 7 [l0, l1, l2, l3, l4, l5, l6] [vi s0, vo (some (o, 12, z))] h = (call 1204 [vo (some (o, 12, z)), vi s0] h).bind (fun z => run 6 1243 10 [l0, l1, l2, l3, l4, l5, l6] (z.1.toList ++ []) z.2)) ∧
  (∀ (l0 l1 l2 l3 l4 l5 l6 : Option AV) (s0 : Int32) (h : Hp), run 6 1243 10 [l0, l1, l2, l3, l4, l5, l6] [vi s0] h = if s0 = 0 then run 6 1243 23 [l0, l1, l2, l3, l4, l5, l6] [] h else run 6 1243 13 [l0, l1, l2, l3, l4, l5, l6] [] h) ∧
  (∀ (l0 l1 l3 l4 l5 l6 : Option AV) (w : Int32) (h : Hp), run 6 1243 13 [l0, l1, some (vi w), l3, l4, l5, l6] [] h = run 6 1243 14 [l0, l1, some (vi w), l3, l4, l5, l6] [vi w] h) ∧
  (∀ (l0 l1 l2 l3 l4 l5 l6 : Option AV) (s0 : Int32) (h : Hp), run 6 1243 14 [l0, l1, l2, l3, l4, l5, l6] [vi s0] h = run 6 1243 15 [l0, l1, l2, l3, l4, l5, l6] [vi (0 : Int32), vi s0] h) ∧
  (∀ (l0 l1 l2 l3 l4 l5 l6 : Option AV) (s0 : Int32) (s1 : Int32) (h : Hp), run 6 1243 15 [l0, l1, l2, l3, l4, l5, l6] [vi s0, vi s1] h = run 6 1243 17 [l0, l1, l2, l3, l4, l5, l6] [vi (60 : Int32), vi s0, vi s1] h) ∧
  (∀ (l0 l1 l2 l3 l4 l5 l6 : Option AV) (s0 : Int32) (s1 : Int32) (s2 : Int32) (h : Hp), run 6 1243 17 [l0, l1, l2, l3, l4, l5, l6] [vi s0, vi s1, vi s2] h = (call 1239 [vi s2, vi s1, vi s0] h).bind (fun z => run 6 1243 20 [l0, l1, l2, l3, l4, l5, l6] (z.1.toList ++ []) z.2)) ∧
  (∀ (l0 l1 l2 l3 l4 l5 l6 : Option AV) (s0 : Int32) (h : Hp), run 6 1243 20 [l0, l1, l2, l3, l4, l5, l6] [vi s0] h = run 6 1243 24 [l0, l1, l2, l3, l4, l5, l6] [vi s0] h) ∧
  (∀ (l0 l1 l2 l3 l4 l5 l6 : Option AV) (h : Hp), run 6 1243 23 [l0, l1, l2, l3, l4, l5, l6] [] h = run 6 1243 24 [l0, l1, l2, l3, l4, l5, l6] [vi (-1 : Int32)] h) ∧
  (∀ (l0 l1 l3 l4 l5 l6 : Option AV) (s0 : Int32) (h : Hp), run 6 1243 24 [l0, l1, none, l3, l4, l5, l6] [vi s0] h = run 6 1243 25 [l0, l1, none, some (vi s0), l4, l5, l6] [] h) ∧
  (∀ (l0 l1 l3 l4 l5 l6 : Option AV) (s0 : Int32) (w1 : Int32) (h : Hp), run 6 1243 24 [l0, l1, some (vi w1), l3, l4, l5, l6] [vi s0] h = run 6 1243 25 [l0, l1, some (vi w1), some (vi s0), l4, l5, l6] [] h) ∧
  (∀ (l0 l1 l3 l4 l5 l6 : Option AV) (s0 : Int32) (w1 : Option Rf) (h : Hp), run 6 1243 24 [l0, l1, some (vo w1), l3, l4, l5, l6] [vi s0] h = run 6 1243 25 [l0, l1, some (vo w1), some (vi s0), l4, l5, l6] [] h) ∧
  (∀ (l0 l1 l2 l4 l5 l6 : Option AV) (w : Int32) (h : Hp), run 6 1243 25 [l0, l1, l2, some (vi w), l4, l5, l6] [] h = run 6 1243 26 [l0, l1, l2, some (vi w), l4, l5, l6] [vi w] h) ∧
  (∀ (l0 l1 l2 l3 l4 l5 l6 : Option AV) (s0 : Int32) (h : Hp), run 6 1243 26 [l0, l1, l2, l3, l4, l5, l6] [vi s0] h = if 0 ≤ s0 then run 6 1243 35 [l0, l1, l2, l3, l4, l5, l6] [] h else run 6 1243 29 [l0, l1, l2, l3, l4, l5, l6] [] h) ∧
  (∀ (l1 l2 l3 l4 l5 l6 : Option AV) (w : Option Rf) (h : Hp), run 6 1243 29 [some (vo w), l1, l2, l3, l4, l5, l6] [] h = run 6 1243 30 [some (vo w), l1, l2, l3, l4, l5, l6] [vo w] h) ∧
  (∀ (l0 l1 l2 l4 l5 l6 : Option AV) (s0 : Option Rf) (w : Int32) (h : Hp), run 6 1243 30 [l0, l1, l2, some (vi w), l4, l5, l6] [vo s0] h = run 6 1243 31 [l0, l1, l2, some (vi w), l4, l5, l6] [vi w, vo s0] h) ∧
  (∀ (l0 l1 l2 l3 l4 l5 l6 : Option AV) (s0 : Int32) (o z : Nat) (h : Hp), run 6 1243 31 [l0, l1, l2, l3, l4, l5, l6] [vi s0, vo (some (o, 12, z))] h = (call 1202 [vo (some (o, 12, z)), vi s0] h).bind (fun z => run 6 1243 34 [l0, l1, l2, l3, l4, l5, l6] (z.1.toList ++ []) z.2)) ∧
  (∀ (l0 l1 l2 l3 l4 l5 l6 : Option AV) (s0 : Int32) (h : Hp), run 6 1243 34 [l0, l1, l2, l3, l4, l5, l6] [vi s0] h = some (some (vi s0), h)) ∧
  (∀ (l1 l2 l3 l4 l5 l6 : Option AV) (w : Option Rf) (h : Hp), run 6 1243 35 [some (vo w), l1, l2, l3, l4, l5, l6] [] h = run 6 1243 36 [some (vo w), l1, l2, l3, l4, l5, l6] [vo w] h) ∧
  (∀ (l0 l1 l2 l3 l4 l5 l6 : Option AV) (o z : Nat) (h : Hp), run 6 1243 36 [l0, l1, l2, l3, l4, l5, l6] [vo (some (o, 12, z))] h = run 6 1243 39 [l0, l1, l2, l3, l4, l5, l6] [vi (hI h o 5)] h) ∧
  (∀ (l0 l1 l2 l4 l5 l6 : Option AV) (s0 : Int32) (h : Hp), run 6 1243 39 [l0, l1, l2, none, l4, l5, l6] [vi s0] h = run 6 1243 41 [l0, l1, l2, none, some (vi s0), l5, l6] [] h) ∧
  (∀ (l0 l1 l2 l4 l5 l6 : Option AV) (s0 : Int32) (w1 : Int32) (h : Hp), run 6 1243 39 [l0, l1, l2, some (vi w1), l4, l5, l6] [vi s0] h = run 6 1243 41 [l0, l1, l2, some (vi w1), some (vi s0), l5, l6] [] h) ∧
  (∀ (l0 l1 l2 l4 l5 l6 : Option AV) (s0 : Int32) (w1 : Option Rf) (h : Hp), run 6 1243 39 [l0, l1, l2, some (vo w1), l4, l5, l6] [vi s0] h = run 6 1243 41 [l0, l1, l2, some (vo w1), some (vi s0), l5, l6] [] h) ∧
  (∀ (l1 l2 l3 l4 l5 l6 : Option AV) (w : Option Rf) (h : Hp), run 6 1243 41 [some (vo w), l1, l2, l3, l4, l5, l6] [] h = run 6 1243 42 [some (vo w), l1, l2, l3, l4, l5, l6] [vo w] h) ∧
  (∀ (l0 l1 l2 l3 l4 l5 l6 : Option AV) (o z : Nat) (h : Hp), run 6 1243 42 [l0, l1, l2, l3, l4, l5, l6] [vo (some (o, 12, z))] h = (call 1242 [vo (some (o, 12, z))] h).bind (fun z => run 6 1243 45 [l0, l1, l2, l3, l4, l5, l6] (z.1.toList ++ []) z.2)) ∧
  (∀ (l0 l1 l2 l3 l4 l5 l6 : Option AV) (s0 : Int32) (h : Hp), run 6 1243 45 [l0, l1, l2, l3, l4, l5, l6] [vi s0] h = run 6 1243 46 [l0, l1, l2, l3, l4, l5, l6] [vi (1 : Int32), vi s0] h) ∧
  (∀ (l1 l2 l3 l4 l5 l6 : Option AV) (s0 : Int32) (s1 : Int32) (w : Option Rf) (h : Hp), run 6 1243 46 [some (vo w), l1, l2, l3, l4, l5, l6] [vi s0, vi s1] h = run 6 1243 47 [some (vo w), l1, l2, l3, l4, l5, l6] [vo w, vi s0, vi s1] h) ∧
  (∀ (l0 l2 l3 l4 l5 l6 : Option AV) (s0 : Option Rf) (s1 : Int32) (s2 : Int32) (w : Int32) (h : Hp), run 6 1243 47 [l0, some (vi w), l2, l3, l4, l5, l6] [vo s0, vi s1, vi s2] h = run 6 1243 48 [l0, some (vi w), l2, l3, l4, l5, l6] [vi w, vo s0, vi s1, vi s2] h) ∧
  (∀ (l0 l1 l2 l3 l4 l5 l6 : Option AV) (s0 : Int32) (s2 : Int32) (s3 : Int32) (o z : Nat) (h : Hp), run 6 1243 48 [l0, l1, l2, l3, l4, l5, l6] [vi s0, vo (some (o, 12, z)), vi s2, vi s3] h = (call 1210 [vo (some (o, 12, z)), vi s0] h).bind (fun z => run 6 1243 51 [l0, l1, l2, l3, l4, l5, l6] (z.1.toList ++ [vi s2, vi s3]) z.2)) ∧
  (∀ (l0 l1 l2 l3 l4 l5 l6 : Option AV) (s0 : Int32) (s1 : Int32) (s2 : Int32) (h : Hp), run 6 1243 51 [l0, l1, l2, l3, l4, l5, l6] [vi s0, vi s1, vi s2] h = run 6 1243 52 [l0, l1, l2, l3, l4, l5, l6] [vi (s1 <<< (s0 &&& 31)), vi s2] h) ∧
  (∀ (l0 l1 l2 l3 l4 l5 l6 : Option AV) (s0 : Int32) (s1 : Int32) (h : Hp), run 6 1243 52 [l0, l1, l2, l3, l4, l5, l6] [vi s0, vi s1] h = run 6 1243 53 [l0, l1, l2, l3, l4, l5, l6] [vi (-1 : Int32), vi s0, vi s1] h) ∧
  (∀ (l0 l1 l2 l3 l4 l5 l6 : Option AV) (s0 : Int32) (s1 : Int32) (s2 : Int32) (h : Hp), run 6 1243 53 [l0, l1, l2, l3, l4, l5, l6] [vi s0, vi s1, vi s2] h = run 6 1243 54 [l0, l1, l2, l3, l4, l5, l6] [vi (s1 ^^^ s0), vi s2] h) ∧
  (∀ (l0 l1 l2 l3 l4 l5 l6 : Option AV) (s0 : Int32) (s1 : Int32) (h : Hp), run 6 1243 54 [l0, l1, l2, l3, l4, l5, l6] [vi s0, vi s1] h = run 6 1243 55 [l0, l1, l2, l3, l4, l5, l6] [vi (s1 &&& s0)] h) ∧
  (∀ (l0 l1 l2 l3 l5 l6 : Option AV) (s0 : Int32) (h : Hp), run 6 1243 55 [l0, l1, l2, l3, none, l5, l6] [vi s0] h = run 6 1243 57 [l0, l1, l2, l3, none, some (vi s0), l6] [] h) ∧
  (∀ (l0 l1 l2 l3 l5 l6 : Option AV) (s0 : Int32) (w1 : Int32) (h : Hp), run 6 1243 55 [l0, l1, l2, l3, some (vi w1), l5, l6] [vi s0] h = run 6 1243 57 [l0, l1, l2, l3, some (vi w1), some (vi s0), l6] [] h) ∧
  (∀ (l0 l1 l2 l3 l5 l6 : Option AV) (s0 : Int32) (w1 : Option Rf) (h : Hp), run 6 1243 55 [l0, l1, l2, l3, some (vo w1), l5, l6] [vi s0] h = run 6 1243 57 [l0, l1, l2, l3, some (vo w1), some (vi s0), l6] [] h) ∧
  (∀ (l0 l1 l2 l3 l4 l5 l6 : Option AV) (h : Hp), run 6 1243 57 [l0, l1, l2, l3, l4, l5, l6] [] h = run 6 1243 58 [l0, l1, l2, l3, l4, l5, l6] [vi (0 : Int32)] h) ∧
  (∀ (l0 l1 l2 l3 l4 l6 : Option AV) (s0 : Int32) (h : Hp), run 6 1243 58 [l0, l1, l2, l3, l4, none, l6] [vi s0] h = run 6 1243 60 [l0, l1, l2, l3, l4, none, some (vi s0)] [] h) ∧
  (∀ (l0 l1 l2 l3 l4 l6 : Option AV) (s0 : Int32) (w1 : Int32) (h : Hp), run 6 1243 58 [l0, l1, l2, l3, l4, some (vi w1), l6] [vi s0] h = run 6 1243 60 [l0, l1, l2, l3, l4, some (vi w1), some (vi s0)] [] h) ∧
  (∀ (l0 l1 l2 l3 l4 l6 : Option AV) (s0 : Int32) (w1 : Option Rf) (h : Hp), run 6 1243 58 [l0, l1, l2, l3, l4, some (vo w1), l6] [vi s0] h = run 6 1243 60 [l0, l1, l2, l3, l4, some (vo w1), some (vi s0)] [] h) ∧
  (∀ (l0 l1 l3 l4 l5 l6 : Option AV) (s0 : Int32) (w : Int32) (h : Hp), run 6 1243 62 [l0, l1, some (vi w), l3, l4, l5, l6] [vi s0] h = run 6 1243 63 [l0, l1, some (vi w), l3, l4, l5, l6] [vi w, vi s0] h) ∧
  (∀ (l0 l1 l2 l3 l4 l5 l6 : Option AV) (s0 : Int32) (s1 : Int32) (h : Hp), run 6 1243 63 [l0, l1, l2, l3, l4, l5, l6] [vi s0, vi s1] h = if s0 ≤ s1 then run 6 1243 91 [l0, l1, l2, l3, l4, l5, l6] [] h else run 6 1243 66 [l0, l1, l2, l3, l4, l5, l6] [] h) ∧
  (∀ (l1 l2 l3 l4 l5 l6 : Option AV) (w : Option Rf) (h : Hp), run 6 1243 66 [some (vo w), l1, l2, l3, l4, l5, l6] [] h = run 6 1243 67 [some (vo w), l1, l2, l3, l4, l5, l6] [vo w] h) ∧
  (∀ (l0 l1 l2 l3 l4 l5 l6 : Option AV) (o z : Nat) (h : Hp), run 6 1243 67 [l0, l1, l2, l3, l4, l5, l6] [vo (some (o, 12, z))] h = (call 1217 [vo (some (o, 12, z))] h).bind (fun z => run 6 1243 70 [l0, l1, l2, l3, l4, l5, l6] (z.1.toList ++ []) z.2)) ∧
  (∀ (l0 l1 l2 l3 l4 l5 l6 : Option AV) (s0 : Int32) (h : Hp), run 6 1243 70 [l0, l1, l2, l3, l4, l5, l6] [vi s0] h = run 6 1243 71 [l0, l1, l2, l3, l4, l5, l6] [] h) ∧
  (∀ (l0 l1 l2 l3 l4 l6 : Option AV) (w : Int32) (h : Hp), run 6 1243 71 [l0, l1, l2, l3, l4, some (vi w), l6] [] h = run 6 1243 73 [l0, l1, l2, l3, l4, some (vi w), l6] [vi w] h) ∧
  (∀ (l0 l1 l2 l3 l4 l5 l6 : Option AV) (s0 : Int32) (h : Hp), run 6 1243 73 [l0, l1, l2, l3, l4, l5, l6] [vi s0] h = run 6 1243 74 [l0, l1, l2, l3, l4, l5, l6] [vi (1 : Int32), vi s0] h) ∧
  (∀ (l1 l2 l3 l4 l5 l6 : Option AV) (s0 : Int32) (s1 : Int32) (w : Option Rf) (h : Hp), run 6 1243 74 [some (vo w), l1, l2, l3, l4, l5, l6] [vi s0, vi s1] h = run 6 1243 75 [some (vo w), l1, l2, l3, l4, l5, l6] [vo w, vi s0, vi s1] h) ∧
  (∀ (l0 l2 l3 l4 l5 l6 : Option AV) (s0 : Option Rf) (s1 : Int32) (s2 : Int32) (w : Int32) (h : Hp), run 6 1243 75 [l0, some (vi w), l2, l3, l4, l5, l6] [vo s0, vi s1, vi s2] h = run 6 1243 76 [l0, some (vi w), l2, l3, l4, l5, l6] [vi w, vo s0, vi s1, vi s2] h) ∧
  (∀ (l0 l1 l2 l3 l4 l5 l6 : Option AV) (s0 : Int32) (s2 : Int32) (s3 : Int32) (o z : Nat) (h : Hp), run 6 1243 76 [l0, l1, l2, l3, l4, l5, l6] [vi s0, vo (some (o, 12, z)), vi s2, vi s3] h = (call 1210 [vo (some (o, 12, z)), vi s0] h).bind (fun z => run 6 1243 79 [l0, l1, l2, l3, l4, l5, l6] (z.1.toList ++ [vi s2, vi s3]) z.2)) ∧
  (∀ (l0 l1 l2 l3 l4 l5 l6 : Option AV) (s0 : Int32) (s1 : Int32) (s2 : Int32) (h : Hp), run 6 1243 79 [l0, l1, l2, l3, l4, l5, l6] [vi s0, vi s1, vi s2] h = run 6 1243 80 [l0, l1, l2, l3, l4, l5, l6] [vi (s1 <<< (s0 &&& 31)), vi s2] h) ∧
  (∀ (l0 l1 l2 l3 l4 l5 l6 : Option AV) (s0 : Int32) (s1 : Int32) (h : Hp), run 6 1243 80 [l0, l1, l2, l3, l4, l5, l6] [vi s0, vi s1] h = run 6 1243 81 [l0, l1, l2, l3, l4, l5, l6] [vi (-1 : Int32), vi s0, vi s1] h) ∧
  (∀ (l0 l1 l2 l3 l4 l5 l6 : Option AV) (s0 : Int32) (s1 : Int32) (s2 : Int32) (h : Hp), run 6 1243 81 [l0, l1, l2, l3, l4, l5, l6] [vi s0, vi s1, vi s2] h = run 6 1243 82 [l0, l1, l2, l3, l4, l5, l6] [vi (s1 ^^^ s0), vi s2] h) ∧
  (∀ (l0 l1 l2 l3 l4 l5 l6 : Option AV) (s0 : Int32) (s1 : Int32) (h : Hp), run 6 1243 82 [l0, l1, l2, l3, l4, l5, l6] [vi s0, vi s1] h = run 6 1243 83 [l0, l1, l2, l3, l4, l5, l6] [vi (s1 &&& s0)] h) ∧
  (∀ (l0 l1 l2 l3 l5 l6 : Option AV) (s0 : Int32) (h : Hp), run 6 1243 83 [l0, l1, l2, l3, none, l5, l6] [vi s0] h = run 6 1243 85 [l0, l1, l2, l3, none, some (vi s0), l6] [] h) ∧
  (∀ (l0 l1 l2 l3 l5 l6 : Option AV) (s0 : Int32) (w1 : Int32) (h : Hp), run 6 1243 83 [l0, l1, l2, l3, some (vi w1), l5, l6] [vi s0] h = run 6 1243 85 [l0, l1, l2, l3, some (vi w1), some (vi s0), l6] [] h) ∧
  (∀ (l0 l1 l2 l3 l5 l6 : Option AV) (s0 : Int32) (w1 : Option Rf) (h : Hp), run 6 1243 83 [l0, l1, l2, l3, some (vo w1), l5, l6] [vi s0] h = run 6 1243 85 [l0, l1, l2, l3, some (vo w1), some (vi s0), l6] [] h) ∧
  (∀ (l0 l1 l2 l3 l4 : Option AV) (w : Int32) (h : Hp), run 6 1243 85 [l0, l1, l2, l3, l4, none, some (vi w)] [] h = run 6 1243 88 [l0, l1, l2, l3, l4, none, some (vi (w + (1 : Int32)))] [] h) ∧
  (∀ (l0 l1 l2 l3 l4 : Option AV) (w1 : Int32) (w : Int32) (h : Hp), run 6 1243 85 [l0, l1, l2, l3, l4, some (vi w1), some (vi w)] [] h = run 6 1243 88 [l0, l1, l2, l3, l4, some (vi w1), some (vi (w + (1 : Int32)))] [] h) ∧
  (∀ (l0 l1 l2 l3 l4 : Option AV) (w1 : Option Rf) (w : Int32) (h : Hp), run 6 1243 85 [l0, l1, l2, l3, l4, some (vo w1), some (vi w)] [] h = run 6 1243 88 [l0, l1, l2, l3, l4, some (vo w1), some (vi (w + (1 : Int32)))] [] h) ∧
  (∀ (l0 l1 l2 l3 l4 l5 l6 : Option AV) (h : Hp), run 6 1243 88 [l0, l1, l2, l3, l4, l5, l6] [] h = run 6 1243 60 [l0, l1, l2, l3, l4, l5, l6] [] h) ∧
  (∀ (l1 l2 l3 l4 l5 l6 : Option AV) (w : Option Rf) (h : Hp), run 6 1243 91 [some (vo w), l1, l2, l3, l4, l5, l6] [] h = run 6 1243 92 [some (vo w), l1, l2, l3, l4, l5, l6] [vo w] h) ∧
  (∀ (l0 l1 l2 l3 l5 l6 : Option AV) (s0 : Option Rf) (w : Int32) (h : Hp), run 6 1243 92 [l0, l1, l2, l3, some (vi w), l5, l6] [vo s0] h = run 6 1243 94 [l0, l1, l2, l3, some (vi w), l5, l6] [vi w, vo s0] h) ∧
  (∀ (l0 l1 l2 l3 l4 l5 l6 : Option AV) (s0 : Int32) (o z : Nat) (h : Hp), run 6 1243 94 [l0, l1, l2, l3, l4, l5, l6] [vi s0, vo (some (o, 12, z))] h = run 6 1243 97 [l0, l1, l2, l3, l4, l5, l6] [] (hsI h o 5 s0)) ∧
  (∀ (l0 l1 l2 l3 l4 l6 : Option AV) (w : Int32) (h : Hp), run 6 1243 97 [l0, l1, l2, l3, l4, some (vi w), l6] [] h = run 6 1243 99 [l0, l1, l2, l3, l4, some (vi w), l6] [vi w] h) ∧
  (∀ (l0 l1 l2 l3 l4 l5 l6 : Option AV) (s0 : Int32) (h : Hp), run 6 1243 99 [l0, l1, l2, l3, l4, l5, l6] [vi s0] h = some (some (vi s0), h)) := ⟨(fun _ _ _ _ _ _ _ _ => run_next rfl rfl),
  (fun _ _ _ _ _ _ _ s0 _ => run_next rfl rfl),
  (fun _ _ _ _ _ _ _ s0 _ _ _ => run_next rfl rfl),
  (fun _ _ _ _ _ _ _ _ => run_next rfl rfl),
  (fun _ _ _ _ _ _ s0 _ _ => run_next rfl rfl),
  (fun _ _ _ _ _ _ _ s0 _ _ _ => run_calx rfl rfl (Nat.le_of_ble_eq_true rfl) (Nat.le_of_ble_eq_true rfl) rfl),
  (fun _ _ _ _ _ _ _ s0 _ => run_if rfl rfl (run_next rfl) (run_next rfl)),
  (fun _ _ _ _ _ _ _ _ => run_next rfl rfl),
  (fun _ _ _ _ _ _ _ s0 _ => run_next rfl rfl),
  (fun _ _ _ _ _ _ _ s0 _ _ => run_next rfl rfl),
  (fun _ _ _ _ _ _ _ s0 _ _ _ => run_calx rfl rfl (Nat.le_of_ble_eq_true rfl) (Nat.le_of_ble_eq_true rfl) rfl),
  (fun _ _ _ _ _ _ _ s0 _ => run_next rfl rfl),
  (fun _ _ _ _ _ _ _ _ => run_next rfl rfl),
  (fun _ _ _ _ _ _ s0 _ => run_next rfl rfl),
  (fun _ _ _ _ _ _ s0 _ _ => run_next rfl rfl),
  (fun _ _ _ _ _ _ s0 _ _ => run_next rfl rfl),
  (fun _ _ _ _ _ _ _ _ => run_next rfl rfl),
  (fun _ _ _ _ _ _ _ s0 _ => run_if rfl rfl (run_next rfl) (run_next rfl)),
  (fun _ _ _ _ _ _ _ _ => run_next rfl rfl),
  (fun _ _ _ _ _ _ s0 _ _ => run_next rfl rfl),
  (fun _ _ _ _ _ _ _ s0 _ _ _ => run_calx rfl rfl (Nat.le_of_ble_eq_true rfl) (Nat.le_of_ble_eq_true rfl) rfl),
  (fun _ _ _ _ _ _ _ s0 _ => run_ret rfl rfl),
  (fun _ _ _ _ _ _ _ _ => run_next rfl rfl),
  (fun _ _ _ _ _ _ _ _ _ _ => run_next rfl rfl),
  (fun _ _ _ _ _ _ s0 _ => run_next rfl rfl),
  (fun _ _ _ _ _ _ s0 _ _ => run_next rfl rfl),
  (fun _ _ _ _ _ _ s0 _ _ => run_next rfl rfl),
  (fun _ _ _ _ _ _ _ _ => run_next rfl rfl),
  (fun _ _ _ _ _ _ _ _ _ _ => run_calx rfl rfl (Nat.le_of_ble_eq_true rfl) (Nat.le_of_ble_eq_true rfl) rfl),
  (fun _ _ _ _ _ _ _ s0 _ => run_next rfl rfl),
  (fun _ _ _ _ _ _ s0 _ _ _ => run_next rfl rfl),
  (fun _ _ _ _ _ _ s0 _ _ _ _ => run_next rfl rfl),
  (fun _ _ _ _ _ _ _ s0 _ _ _ _ _ => run_calx rfl rfl (Nat.le_of_ble_eq_true rfl) (Nat.le_of_ble_eq_true rfl) rfl),
  (fun _ _ _ _ _ _ _ s0 _ _ _ => run_next rfl rfl),
  (fun _ _ _ _ _ _ _ s0 _ _ => run_next rfl rfl),
  (fun _ _ _ _ _ _ _ s0 _ _ _ => run_next rfl rfl),
  (fun _ _ _ _ _ _ _ s0 _ _ => run_next rfl rfl),
  (fun _ _ _ _ _ _ s0 _ => run_next rfl rfl),
  (fun _ _ _ _ _ _ s0 _ _ => run_next rfl rfl),
  (fun _ _ _ _ _ _ s0 _ _ => run_next rfl rfl),
  (fun _ _ _ _ _ _ _ _ => run_next rfl rfl),
  (fun _ _ _ _ _ _ s0 _ => run_next rfl rfl),
  (fun _ _ _ _ _ _ s0 _ _ => run_next rfl rfl),
  (fun _ _ _ _ _ _ s0 _ _ => run_next rfl rfl),
  (fun _ _ _ _ _ _ s0 _ _ => run_next rfl rfl),
  (fun _ _ _ _ _ _ _ s0 _ _ => run_if rfl rfl (run_next rfl) (run_next rfl)),
  (fun _ _ _ _ _ _ _ _ => run_next rfl rfl),
  (fun _ _ _ _ _ _ _ _ _ _ => run_calx rfl rfl (Nat.le_of_ble_eq_true rfl) (Nat.le_of_ble_eq_true rfl) rfl),
  (fun _ _ _ _ _ _ _ s0 _ => run_next rfl rfl),
  (fun _ _ _ _ _ _ _ _ => run_next rfl rfl),
  (fun _ _ _ _ _ _ _ s0 _ => run_next rfl rfl),
  (fun _ _ _ _ _ _ s0 _ _ _ => run_next rfl rfl),
  (fun _ _ _ _ _ _ s0 _ _ _ _ => run_next rfl rfl),
  (fun _ _ _ _ _ _ _ s0 _ _ _ _ _ => run_calx rfl rfl (Nat.le_of_ble_eq_true rfl) (Nat.le_of_ble_eq_true rfl) rfl),
  (fun _ _ _ _ _ _ _ s0 _ _ _ => run_next rfl rfl),
  (fun _ _ _ _ _ _ _ s0 _ _ => run_next rfl rfl),
  (fun _ _ _ _ _ _ _ s0 _ _ _ => run_next rfl rfl),
  (fun _ _ _ _ _ _ _ s0 _ _ => run_next rfl rfl),
  (fun _ _ _ _ _ _ s0 _ => run_next rfl rfl),
  (fun _ _ _ _ _ _ s0 _ _ => run_next rfl rfl),
  (fun _ _ _ _ _ _ s0 _ _ => run_next rfl rfl),
  (fun _ _ _ _ _ _ _ => run_next rfl rfl),
  (fun _ _ _ _ _ _ _ _ => run_next rfl rfl),
  (fun _ _ _ _ _ _ _ _ => run_next rfl rfl),
  (fun _ _ _ _ _ _ _ _ => run_next rfl rfl),
  (fun _ _ _ _ _ _ _ _ => run_next rfl rfl),
  (fun _ _ _ _ _ _ s0 _ _ => run_next rfl rfl),
  (fun _ _ _ _ _ _ _ s0 _ _ _ => run_next rfl rfl),
  (fun _ _ _ _ _ _ _ _ => run_next rfl rfl),
  (fun _ _ _ _ _ _ _ s0 _ => run_ret rfl rfl)⟩
set_option maxRecDepth 20000 in
theorem x_1243_60 : (∀ (l0 l1 l2 l3 l4 l5 : Option AV) (w : Int32) (h : Hp), run 6 1243 60 [l0, l1, l2, l3, l4, l5, some (vi w)] [] h = run 6 1243 62 [l0, l1, l2, l3, l4, l5, some (vi w)] [vi w] h) := (fun _ _ _ _ _ _ _ _ => run_next rfl rfl)
theorem e_1243 (v : Option Rf) (a0 : Int32) (a1 : Int32) (h : Hp) : call 1243 [vo v, vi a0, vi a1] h = run 6 1243 0 [some (vo v), some (vi a0), some (vi a1), none, none, none, none] [] h := rfl
set_option maxRecDepth 20000 in
theorem x_1244 : (∀ (l1 l2 l3 l4 l5 l6 l7 l8 l9 : Option AV) (w : Option Rf) (h : Hp), run 7 1244 0 [some (vo w), l1, l2, l3, l4, l5, l6, l7, l8, l9] [] h = run 7 1244 1 [some (vo w), l1, l2, l3, l4, l5, l6, l7, l8, l9] [vo w] h) ∧
  (∀ (l0 l1 l2 l3 l4 l5 l6 l7 l8 l9 : Option AV) (s0 : Option Rf) (h : Hp), run 7 1244 1 [l0, l1, l2, l3, l4, l5, l6, l7, l8, l9] [vo s0] h = run 7 1244 2 [l0, l1, l2, l3, l4, l5, l6, l7, l8, l9] [vi (0 : Int32), vo s0] h) ∧
  (∀ (l0 l1 l2 l3 l4 l5 l6 l7 l8 l9 : Option AV) (s0 : Int32) (o z : Nat) (h : Hp), run 7 1244 2 [l0, l1, l2, l3, l4, l5, l6, l7, l8, l9] [vi s0, vo (some (o, 12, z))] h = run 7 1244 5 [l0, l1, l2, l3, l4, l5, l6, l7, l8, l9] [] (hsI h o 12 s0)) ∧
  (∀ (l0 l1 l3 l4 l5 l6 l7 l8 l9 : Option AV) (w : Int32) (h : Hp), run 7 1244 5 [l0, l1, some (vi w), l3, l4, l5, l6, l7, l8, l9] [] h = run 7 1244 6 [l0, l1, some (vi w), l3, l4, l5, l6, l7, l8, l9] [vi w] h) ∧
  (∀ (l0 l1 l2 l3 l4 l5 l6 l7 l8 l9 : Option AV) (s0 : Int32) (h : Hp), run 7 1244 6 [l0, l1, l2, l3, l4, l5, l6, l7, l8, l9] [vi s0] h = run 7 1244 7 [l0, l1, l2, l3, l4, l5, l6, l7, l8, l9] [vl s0.toInt64] h) ∧
  (∀ (l0 l1 l2 l3 l4 l5 l6 l7 l8 l9 : Option AV) (s0 : Int64) (h : Hp), run 7 1244 7 [l0, l1, l2, l3, l4, l5, l6, l7, l8, l9] [vl s0] h = run 7 1244 8 [l0, l1, l2, l3, l4, l5, l6, l7, l8, l9] [vl (0 : Int64), vl s0] h) ∧
  (∀ (l0 l1 l2 l3 l4 l5 l6 l7 l8 l9 : Option AV) (s0 : Int64) (s1 : Int64) (h : Hp), run 7 1244 8 [l0, l1, l2, l3, l4, l5, l6, l7, l8, l9] [vl s0, vl s1] h = run 7 1244 9 [l0, l1, l2, l3, l4, l5, l6, l7, l8, l9] [vl (1 : Int64), vl s0, vl s1] h) ∧
  (∀ (l0 l1 l2 l3 l4 l5 l6 l7 l8 l9 : Option AV) (s0 : Int64) (s1 : Int64) (s2 : Int64) (h : Hp), run 7 1244 9 [l0, l1, l2, l3, l4, l5, l6, l7, l8, l9] [vl s0, vl s1, vl s2] h = (call 1201 [vl s2, vl s1, vl s0] h).bind (fun z => run 7 1244 12 [l0, l1, l2, l3, l4, l5, l6, l7, l8, l9] (z.1.toList ++ []) z.2)) ∧
  (∀ (l0 l1 l2 l3 l4 l5 l6 l7 l8 l9 : Option AV) (s0 : Int32) (h : Hp), run 7 1244 12 [l0, l1, l2, l3, l4, l5, l6, l7, l8, l9] [vi s0] h = if s0 = 0 then run 7 1244 25 [l0, l1, l2, l3, l4, l5, l6, l7, l8, l9] [] h else run 7 1244 15 [l0, l1, l2, l3, l4, l5, l6, l7, l8, l9] [] h) ∧
  (∀ (l0 l2 l3 l4 l5 l6 l7 l8 l9 : Option AV) (w : Int32) (h : Hp), run 7 1244 15 [l0, some (vi w), l2, l3, l4, l5, l6, l7, l8, l9] [] h = run 7 1244 16 [l0, some (vi w), l2, l3, l4, l5, l6, l7, l8, l9] [vi w] h) ∧
  (∀ (l0 l1 l2 l3 l4 l5 l6 l7 l8 l9 : Option AV) (s0 : Int32) (h : Hp), run 7 1244 16 [l0, l1, l2, l3, l4, l5, l6, l7, l8, l9] [vi s0] h = run 7 1244 17 [l0, l1, l2, l3, l4, l5, l6, l7, l8, l9] [vi (0 : Int32), vi s0] h) ∧
  (∀ (l0 l1 l2 l3 l4 l5 l6 l7 l8 l9 : Option AV) (s0 : Int32) (s1 : Int32) (h : Hp), run 7 1244 17 [l0, l1, l2, l3, l4, l5, l6, l7, l8, l9] [vi s0, vi s1] h = run 7 1244 19 [l0, l1, l2, l3, l4, l5, l6, l7, l8, l9] [vi (60 : Int32), vi s0, vi s1] h) ∧
  (∀ (l0 l1 l2 l3 l4 l5 l6 l7 l8 l9 : Option AV) (s0 : Int32) (s1 : Int32) (s2 : Int32) (h : Hp), run 7 1244 19 [l0, l1, l2, l3, l4, l5, l6, l7, l8, l9] [vi s0, vi s1, vi s2] h = (call 1239 [vi s2, vi s1, vi s0] h).bind (fun z => run 7 1244 22 [l0, l1, l2, l3, l4, l5, l6, l7, l8, l9] (z.1.toList ++ []) z.2)) ∧
  (∀ (l0 l1 l2 l3 l4 l5 l6 l7 l8 l9 : Option AV) (s0 : Int32) (h : Hp), run 7 1244 22 [l0, l1, l2, l3, l4, l5, l6, l7, l8, l9] [vi s0] h = run 7 1244 27 [l0, l1, l2, l3, l4, l5, l6, l7, l8, l9] [vi s0] h) ∧
  (∀ (l0 l1 l2 l3 l4 l5 l6 l7 l8 l9 : Option AV) (h : Hp), run 7 1244 25 [l0, l1, l2, l3, l4, l5, l6, l7, l8, l9] [] h = run 7 1244 27 [l0, l1, l2, l3, l4, l5, l6, l7, l8, l9] [vi (-2 : Int32)] h) ∧
  (∀ (l0 l1 l3 l4 l5 l6 l7 l8 l9 : Option AV) (s0 : Int32) (h : Hp), run 7 1244 27 [l0, l1, none, l3, l4, l5, l6, l7, l8, l9] [vi s0] h = run 7 1244 28 [l0, l1, none, some (vi s0), l4, l5, l6, l7, l8, l9] [] h) ∧
  (∀ (l0 l1 l3 l4 l5 l6 l7 l8 l9 : Option AV) (s0 : Int32) (w1 : Int32) (h : Hp), run 7 1244 27 [l0, l1, some (vi w1), l3, l4, l5, l6, l7, l8, l9] [vi s0] h = run 7 1244 28 [l0, l1, some (vi w1), some (vi s0), l4, l5, l6, l7, l8, l9] [] h) ∧
  (∀ (l0 l1 l3 l4 l5 l6 l7 l8 l9 : Option AV) (s0 : Int32) (w1 : Option Rf) (h : Hp), run 7 1244 27 [l0, l1, some (vo w1), l3, l4, l5, l6, l7, l8, l9] [vi s0] h = run 7 1244 28 [l0, l1, some (vo w1), some (vi s0), l4, l5, l6, l7, l8, l9] [] h) ∧
  (∀ (l0 l1 l2 l4 l5 l6 l7 l8 l9 : Option AV) (w : Int32) (h : Hp), run 7 1244 28 [l0, l1, l2, some (vi w), l4, l5, l6, l7, l8, l9] [] h = run 7 1244 29 [l0, l1, l2, some (vi w), l4, l5, l6, l7, l8, l9] [vi w] h) ∧
  (∀ (l0 l1 l2 l3 l4 l5 l6 l7 l8 l9 : Option AV) (s0 : Int32) (h : Hp), run 7 1244 29 [l0, l1, l2, l3, l4, l5, l6, l7, l8, l9] [vi s0] h = if 0 ≤ s0 then run 7 1244 38 [l0, l1, l2, l3, l4, l5, l6, l7, l8, l9] [] h else run 7 1244 32 [l0, l1, l2, l3, l4, l5, l6, l7, l8, l9] [] h) ∧
  (∀ (l1 l2 l3 l4 l5 l6 l7 l8 l9 : Option AV) (w : Option Rf) (h : Hp), run 7 1244 32 [some (vo w), l1, l2, l3, l4, l5, l6, l7, l8, l9] [] h = run 7 1244 33 [some (vo w), l1, l2, l3, l4, l5, l6, l7, l8, l9] [vo w] h) ∧
  (∀ (l0 l1 l2 l4 l5 l6 l7 l8 l9 : Option AV) (s0 : Option Rf) (w : Int32) (h : Hp), run 7 1244 33 [l0, l1, l2, some (vi w), l4, l5, l6, l7, l8, l9] [vo s0] h = run 7 1244 34 [l0, l1, l2, some (vi w), l4, l5, l6, l7, l8, l9] [vi w, vo s0] h) ∧
  (∀ (l0 l1 l2 l3 l4 l5 l6 l7 l8 l9 : Option AV) (s0 : Int32) (o z : Nat) (h : Hp), run 7 1244 34 [l0, l1, l2, l3, l4, l5, l6, l7, l8, l9] [vi s0, vo (some (o, 12, z))] h = (call 1202 [vo (some (o, 12, z)), vi s0] h).bind (fun z => run 7 1244 37 [l0, l1, l2, l3, l4, l5, l6, l7, l8, l9] (z.1.toList ++ []) z.2)) ∧
  (∀ (l0 l1 l2 l3 l4 l5 l6 l7 l8 l9 : Option AV) (s0 : Int32) (h : Hp), run 7 1244 37 [l0, l1, l2, l3, l4, l5, l6, l7, l8, l9] [vi s0] h = some (some (vi s0), h)) ∧
  (∀ (l1 l2 l3 l4 l5 l6 l7 l8 l9 : Option AV) (w : Option Rf) (h : Hp), run 7 1244 38 [some (vo w), l1, l2, l3, l4, l5, l6, l7, l8, l9] [] h = run 7 1244 39 [some (vo w), l1, l2, l3, l4, l5, l6, l7, l8, l9] [vo w] h) ∧
  (∀ (l0 l1 l2 l3 l4 l5 l6 l7 l8 l9 : Option AV) (o z : Nat) (h : Hp), run 7 1244 39 [l0, l1, l2, l3, l4, l5, l6, l7, l8, l9] [vo (some (o, 12, z))] h = run 7 1244 42 [l0, l1, l2, l3, l4, l5, l6, l7, l8, l9] [vi (hI h o 5)] h) ∧
  (∀ (l0 l1 l2 l4 l5 l6 l7 l8 l9 : Option AV) (s0 : Int32) (h : Hp), run 7 1244 42 [l0, l1, l2, none, l4, l5, l6, l7, l8, l9] [vi s0] h = run 7 1244 44 [l0, l1, l2, none, some (vi s0), l5, l6, l7, l8, l9] [] h) ∧
  (∀ (l0 l1 l2 l4 l5 l6 l7 l8 l9 : Option AV) (s0 : Int32) (w1 : Int32) (h : Hp), run 7 1244 42 [l0, l1, l2, some (vi w1), l4, l5, l6, l7, l8, l9] [vi s0] h = run 7 1244 44 [l0, l1, l2, some (vi w1), some (vi s0), l5, l6, l7, l8, l9] [] h) ∧
  (∀ (l0 l1 l2 l4 l5 l6 l7 l8 l9 : Option AV) (s0 : Int32) (w1 : Option Rf) (h : Hp), run 7 1244 42 [l0, l1, l2, some (vo w1), l4, l5, l6, l7, l8, l9] [vi s0] h = run 7 1244 44 [l0, l1, l2, some (vo w1), some (vi s0), l5, l6, l7, l8, l9] [] h) ∧
  (∀ (l1 l2 l3 l4 l5 l6 l7 l8 l9 : Option AV) (w : Option Rf) (h : Hp), run 7 1244 44 [some (vo w), l1, l2, l3, l4, l5, l6, l7, l8, l9] [] h = run 7 1244 45 [some (vo w), l1, l2, l3, l4, l5, l6, l7, l8, l9] [vo w] h) ∧
  (∀ (l0 l2 l3 l4 l5 l6 l7 l8 l9 : Option AV) (s0 : Option Rf) (w : Int32) (h : Hp), run 7 1244 45 [l0, some (vi w), l2, l3, l4, l5, l6, l7, l8, l9] [vo s0] h = run 7 1244 46 [l0, some (vi w), l2, l3, l4, l5, l6, l7, l8, l9] [vi w, vo s0] h) ∧
  (∀ (l0 l1 l2 l3 l4 l5 l6 l7 l8 l9 : Option AV) (s0 : Int32) (o z : Nat) (h : Hp), run 7 1244 46 [l0, l1, l2, l3, l4, l5, l6, l7, l8, l9] [vi s0, vo (some (o, 12, z))] h = (call 1218 [vo (some (o, 12, z)), vi s0] h).bind (fun z => run 7 1244 49 [l0, l1, l2, l3, l4, l5, l6, l7, l8, l9] (z.1.toList ++ []) z.2)) ∧
  (∀ (l0 l1 l2 l3 l4 l5 l6 l7 l8 l9 : Option AV) (h : Hp), run 7 1244 49 [l0, l1, l2, l3, l4, l5, l6, l7, l8, l9] [] h = run 7 1244 50 [l0, l1, l2, l3, l4, l5, l6, l7, l8, l9] [vi (0 : Int32)] h) ∧
  (∀ (l0 l1 l2 l3 l5 l6 l7 l8 l9 : Option AV) (s0 : Int32) (h : Hp), run 7 1244 50 [l0, l1, l2, l3, none, l5, l6, l7, l8, l9] [vi s0] h = run 7 1244 52 [l0, l1, l2, l3, none, some (vi s0), l6, l7, l8, l9] [] h) ∧
  (∀ (l0 l1 l2 l3 l5 l6 l7 l8 l9 : Option AV) (s0 : Int32) (w1 : Int32) (h : Hp), run 7 1244 50 [l0, l1, l2, l3, some (vi w1), l5, l6, l7, l8, l9] [vi s0] h = run 7 1244 52 [l0, l1, l2, l3, some (vi w1), some (vi s0), l6, l7, l8, l9] [] h) ∧
  (∀ (l0 l1 l2 l3 l5 l6 l7 l8 l9 : Option AV) (s0 : Int32) (w1 : Option Rf) (h : Hp), run 7 1244 50 [l0, l1, l2, l3, some (vo w1), l5, l6, l7, l8, l9] [vi s0] h = run 7 1244 52 [l0, l1, l2, l3, some (vo w1), some (vi s0), l6, l7, l8, l9] [] h) ∧
  (∀ (l0 l1 l2 l3 l4 l5 l6 l7 l8 l9 : Option AV) (h : Hp), run 7 1244 52 [l0, l1, l2, l3, l4, l5, l6, l7, l8, l9] [] h = run 7 1244 54 [l0, l1, l2, l3, l4, l5, l6, l7, l8, l9] [vi (-9 : Int32)] h) ∧
  (∀ (l0 l1 l2 l3 l4 l6 l7 l8 l9 : Option AV) (s0 : Int32) (h : Hp), run 7 1244 54 [l0, l1, l2, l3, l4, none, l6, l7, l8, l9] [vi s0] h = run 7 1244 56 [l0, l1, l2, l3, l4, none, some (vi s0), l7, l8, l9] [] h) ∧
  (∀ (l0 l1 l2 l3 l4 l6 l7 l8 l9 : Option AV) (s0 : Int32) (w1 : Int32) (h : Hp), run 7 1244 54 [l0, l1, l2, l3, l4, some (vi w1), l6, l7, l8, l9] [vi s0] h = run 7 1244 56 [l0, l1, l2, l3, l4, some (vi w1), some (vi s0), l7, l8, l9] [] h) ∧
  (∀ (l0 l1 l2 l3 l4 l6 l7 l8 l9 : Option AV) (s0 : Int32) (w1 : Option Rf) (h : Hp), run 7 1244 54 [l0, l1, l2, l3, l4, some (vo w1), l6, l7, l8, l9] [vi s0] h = run 7 1244 56 [l0, l1, l2, l3, l4, some (vo w1), some (vi s0), l7, l8, l9] [] h) ∧
  (∀ (l0 l1 l2 l3 l4 l5 l6 l7 l8 l9 : Option AV) (h : Hp), run 7 1244 56 [l0, l1, l2, l3, l4, l5, l6, l7, l8, l9] [] h = run 7 1244 57 [l0, l1, l2, l3, l4, l5, l6, l7, l8, l9] [vi (0 : Int32)] h) ∧
  (∀ (l0 l1 l2 l3 l4 l5 l7 l8 l9 : Option AV) (s0 : Int32) (h : Hp), run 7 1244 57 [l0, l1, l2, l3, l4, l5, none, l7, l8, l9] [vi s0] h = run 7 1244 59 [l0, l1, l2, l3, l4, l5, none, some (vi s0), l8, l9] [] h) ∧
  (∀ (l0 l1 l2 l3 l4 l5 l7 l8 l9 : Option AV) (s0 : Int32) (w1 : Int32) (h : Hp), run 7 1244 57 [l0, l1, l2, l3, l4, l5, some (vi w1), l7, l8, l9] [vi s0] h = run 7 1244 59 [l0, l1, l2, l3, l4, l5, some (vi w1), some (vi s0), l8, l9] [] h) ∧
  (∀ (l0 l1 l2 l3 l4 l5 l7 l8 l9 : Option AV) (s0 : Int32) (w1 : Option Rf) (h : Hp), run 7 1244 57 [l0, l1, l2, l3, l4, l5, some (vo w1), l7, l8, l9] [vi s0] h = run 7 1244 59 [l0, l1, l2, l3, l4, l5, some (vo w1), some (vi s0), l8, l9] [] h) ∧
  (∀ (l1 l2 l3 l4 l5 l6 l7 l8 l9 : Option AV) (s0 : Int32) (w : Option Rf) (h : Hp), run 7 1244 61 [some (vo w), l1, l2, l3, l4, l5, l6, l7, l8, l9] [vi s0] h = run 7 1244 62 [some (vo w), l1, l2, l3, l4, l5, l6, l7, l8, l9] [vo w, vi s0] h) ∧
  (∀ (l0 l1 l2 l3 l4 l5 l6 l7 l8 l9 : Option AV) (s1 : Int32) (o z : Nat) (h : Hp), run 7 1244 62 [l0, l1, l2, l3, l4, l5, l6, l7, l8, l9] [vo (some (o, 12, z)), vi s1] h = run 7 1244 65 [l0, l1, l2, l3, l4, l5, l6, l7, l8, l9] [vi (hI h o 0), vi s1] h) ∧
  (∀ (l1 l2 l3 l4 l5 l6 l7 l8 l9 : Option AV) (s0 : Int32) (s1 : Int32) (w : Option Rf) (h : Hp), run 7 1244 65 [some (vo w), l1, l2, l3, l4, l5, l6, l7, l8, l9] [vi s0, vi s1] h = run 7 1244 66 [some (vo w), l1, l2, l3, l4, l5, l6, l7, l8, l9] [vo w, vi s0, vi s1] h) ∧
  (∀ (l0 l1 l2 l3 l4 l5 l6 l7 l8 l9 : Option AV) (s1 : Int32) (s2 : Int32) (o z : Nat) (h : Hp), run 7 1244 66 [l0, l1, l2, l3, l4, l5, l6, l7, l8, l9] [vo (some (o, 12, z)), vi s1, vi s2] h = run 7 1244 69 [l0, l1, l2, l3, l4, l5, l6, l7, l8, l9] [vi (hI h o 1), vi s1, vi s2] h) ∧
  (∀ (l0 l1 l2 l3 l4 l5 l6 l7 l8 l9 : Option AV) (s0 : Int32) (s1 : Int32) (s2 : Int32) (h : Hp), run 7 1244 69 [l0, l1, l2, l3, l4, l5, l6, l7, l8, l9] [vi s0, vi s1, vi s2] h = run 7 1244 70 [l0, l1, l2, l3, l4, l5, l6, l7, l8, l9] [vi (s1 * s0), vi s2] h) ∧
  (∀ (l0 l1 l2 l3 l4 l5 l6 l7 l8 l9 : Option AV) (s0 : Int32) (s1 : Int32) (h : Hp), run 7 1244 70 [l0, l1, l2, l3, l4, l5, l6, l7, l8, l9] [vi s0, vi s1] h = if s0 ≤ s1 then run 7 1244 153 [l0, l1, l2, l3, l4, l5, l6, l7, l8, l9] [] h else run 7 1244 73 [l0, l1, l2, l3, l4, l5, l6, l7, l8, l9] [] h) ∧
  (∀ (l0 l1 l2 l3 l4 l5 l6 l7 l8 l9 : Option AV) (h : Hp), run 7 1244 73 [l0, l1, l2, l3, l4, l5, l6, l7, l8, l9] [] h = run 7 1244 74 [l0, l1, l2, l3, l4, l5, l6, l7, l8, l9] [vi (0 : Int32)] h) ∧
  (∀ (l0 l1 l2 l3 l4 l5 l6 l8 l9 : Option AV) (s0 : Int32) (h : Hp), run 7 1244 74 [l0, l1, l2, l3, l4, l5, l6, none, l8, l9] [vi s0] h = run 7 1244 76 [l0, l1, l2, l3, l4, l5, l6, none, some (vi s0), l9] [] h) ∧
  (∀ (l0 l1 l2 l3 l4 l5 l6 l8 l9 : Option AV) (s0 : Int32) (w1 : Int32) (h : Hp), run 7 1244 74 [l0, l1, l2, l3, l4, l5, l6, some (vi w1), l8, l9] [vi s0] h = run 7 1244 76 [l0, l1, l2, l3, l4, l5, l6, some (vi w1), some (vi s0), l9] [] h) ∧
  (∀ (l0 l1 l2 l3 l4 l5 l6 l8 l9 : Option AV) (s0 : Int32) (w1 : Option Rf) (h : Hp), run 7 1244 74 [l0, l1, l2, l3, l4, l5, l6, some (vo w1), l8, l9] [vi s0] h = run 7 1244 76 [l0, l1, l2, l3, l4, l5, l6, some (vo w1), some (vi s0), l9] [] h) ∧
  (∀ (l0 l1 l2 l3 l4 l5 l6 l7 l8 l9 : Option AV) (h : Hp), run 7 1244 76 [l0, l1, l2, l3, l4, l5, l6, l7, l8, l9] [] h = run 7 1244 77 [l0, l1, l2, l3, l4, l5, l6, l7, l8, l9] [vi (0 : Int32)] h) ∧
  (∀ (l0 l1 l2 l3 l4 l5 l6 l7 l9 : Option AV) (s0 : Int32) (h : Hp), run 7 1244 77 [l0, l1, l2, l3, l4, l5, l6, l7, none, l9] [vi s0] h = run 7 1244 79 [l0, l1, l2, l3, l4, l5, l6, l7, none, some (vi s0)] [] h) ∧
  (∀ (l0 l1 l2 l3 l4 l5 l6 l7 l9 : Option AV) (s0 : Int32) (w1 : Int32) (h : Hp), run 7 1244 77 [l0, l1, l2, l3, l4, l5, l6, l7, some (vi w1), l9] [vi s0] h = run 7 1244 79 [l0, l1, l2, l3, l4, l5, l6, l7, some (vi w1), some (vi s0)] [] h) ∧
  (∀ (l0 l1 l2 l3 l4 l5 l6 l7 l9 : Option AV) (s0 : Int32) (w1 : Option Rf) (h : Hp), run 7 1244 77 [l0, l1, l2, l3, l4, l5, l6, l7, some (vo w1), l9] [vi s0] h = run 7 1244 79 [l0, l1, l2, l3, l4, l5, l6, l7, some (vo w1), some (vi s0)] [] h) ∧
  (∀ (l1 l2 l3 l4 l5 l6 l7 l8 l9 : Option AV) (s0 : Int32) (w : Option Rf) (h : Hp), run 7 1244 81 [some (vo w), l1, l2, l3, l4, l5, l6, l7, l8, l9] [vi s0] h = run 7 1244 82 [some (vo w), l1, l2, l3, l4, l5, l6, l7, l8, l9] [vo w, vi s0] h) ∧
  (∀ (l0 l1 l2 l3 l4 l5 l6 l7 l8 l9 : Option AV) (s1 : Int32) (o z : Nat) (h : Hp), run 7 1244 82 [l0, l1, l2, l3, l4, l5, l6, l7, l8, l9] [vo (some (o, 12, z)), vi s1] h = run 7 1244 85 [l0, l1, l2, l3, l4, l5, l6, l7, l8, l9] [vi (hI h o 3), vi s1] h) ∧
  (∀ (l0 l1 l2 l3 l4 l5 l6 l7 l8 l9 : Option AV) (s0 : Int32) (s1 : Int32) (h : Hp), run 7 1244 85 [l0, l1, l2, l3, l4, l5, l6, l7, l8, l9] [vi s0, vi s1] h = if s0 ≤ s1 then run 7 1244 115 [l0, l1, l2, l3, l4, l5, l6, l7, l8, l9] [] h else run 7 1244 88 [l0, l1, l2, l3, l4, l5, l6, l7, l8, l9] [] h) ∧
  (∀ (l0 l1 l2 l3 l4 l5 l6 l7 l9 : Option AV) (w : Int32) (h : Hp), run 7 1244 88 [l0, l1, l2, l3, l4, l5, l6, l7, some (vi w), l9] [] h = run 7 1244 90 [l0, l1, l2, l3, l4, l5, l6, l7, some (vi w), l9] [vi w] h) ∧
  (∀ (l1 l2 l3 l4 l5 l6 l7 l8 l9 : Option AV) (s0 : Int32) (w : Option Rf) (h : Hp), run 7 1244 90 [some (vo w), l1, l2, l3, l4, l5, l6, l7, l8, l9] [vi s0] h = run 7 1244 91 [some (vo w), l1, l2, l3, l4, l5, l6, l7, l8, l9] [vo w, vi s0] h) ∧
  (∀ (l0 l1 l2 l3 l4 l5 l6 l7 l8 : Option AV) (s0 : Option Rf) (s1 : Int32) (w : Int32) (h : Hp), run 7 1244 91 [l0, l1, l2, l3, l4, l5, l6, l7, l8, some (vi w)] [vo s0, vi s1] h = run 7 1244 93 [l0, l1, l2, l3, l4, l5, l6, l7, l8, some (vi w)] [vi w, vo s0, vi s1] h) ∧
  (∀ (l0 l1 l2 l3 l4 l5 l6 l7 l8 l9 : Option AV) (s0 : Int32) (s2 : Int32) (o z : Nat) (h : Hp), run 7 1244 93 [l0, l1, l2, l3, l4, l5, l6, l7, l8, l9] [vi s0, vo (some (o, 12, z)), vi s2] h = (call 1210 [vo (some (o, 12, z)), vi s0] h).bind (fun z => run 7 1244 96 [l0, l1, l2, l3, l4, l5, l6, l7, l8, l9] (z.1.toList ++ [vi s2]) z.2)) ∧
  (∀ (l0 l1 l2 l3 l4 l5 l6 l8 l9 : Option AV) (s0 : Int32) (s1 : Int32) (w : Int32) (h : Hp), run 7 1244 96 [l0, l1, l2, l3, l4, l5, l6, some (vi w), l8, l9] [vi s0, vi s1] h = run 7 1244 98 [l0, l1, l2, l3, l4, l5, l6, some (vi w), l8, l9] [vi w, vi s0, vi s1] h) ∧
  (∀ (l0 l1 l2 l3 l4 l5 l6 l7 l8 l9 : Option AV) (s0 : Int32) (s1 : Int32) (s2 : Int32) (h : Hp), run 7 1244 98 [l0, l1, l2, l3, l4, l5, l6, l7, l8, l9] [vi s0, vi s1, vi s2] h = if s1 = s0 then run 7 1244 101 [l0, l1, l2, l3, l4, l5, l6, l7, l8, l9] [vi s2] h else run 7 1244 105 [l0, l1, l2, l3, l4, l5, l6, l7, l8, l9] [vi s2] h) ∧
  (∀ (l0 l1 l2 l3 l4 l5 l6 l7 l8 l9 : Option AV) (s0 : Int32) (h : Hp), run 7 1244 101 [l0, l1, l2, l3, l4, l5, l6, l7, l8, l9] [vi s0] h = run 7 1244 102 [l0, l1, l2, l3, l4, l5, l6, l7, l8, l9] [vi (1 : Int32), vi s0] h) ∧
  (∀ (l0 l1 l2 l3 l4 l5 l6 l7 l8 l9 : Option AV) (s0 : Int32) (s1 : Int32) (h : Hp), run 7 1244 102 [l0, l1, l2, l3, l4, l5, l6, l7, l8, l9] [vi s0, vi s1] h = run 7 1244 106 [l0, l1, l2, l3, l4, l5, l6, l7, l8, l9] [vi s0, vi s1] h) ∧
  (∀ (l0 l1 l2 l3 l4 l5 l6 l7 l8 l9 : Option AV) (s0 : Int32) (h : Hp), run 7 1244 105 [l0, l1, l2, l3, l4, l5, l6, l7, l8, l9] [vi s0] h = run 7 1244 106 [l0, l1, l2, l3, l4, l5, l6, l7, l8, l9] [vi (0 : Int32), vi s0] h) ∧
  (∀ (l0 l1 l2 l3 l4 l5 l6 l7 l8 l9 : Option AV) (s0 : Int32) (s1 : Int32) (h : Hp), run 7 1244 106 [l0, l1, l2, l3, l4, l5, l6, l7, l8, l9] [vi s0, vi s1] h = run 7 1244 107 [l0, l1, l2, l3, l4, l5, l6, l7, l8, l9] [vi (s1 + s0)] h) ∧
  (∀ (l0 l1 l2 l3 l4 l5 l6 l8 l9 : Option AV) (s0 : Int32) (h : Hp), run 7 1244 107 [l0, l1, l2, l3, l4, l5, l6, none, l8, l9] [vi s0] h = run 7 1244 109 [l0, l1, l2, l3, l4, l5, l6, none, some (vi s0), l9] [] h) ∧
  (∀ (l0 l1 l2 l3 l4 l5 l6 l8 l9 : Option AV) (s0 : Int32) (w1 : Int32) (h : Hp), run 7 1244 107 [l0, l1, l2, l3, l4, l5, l6, some (vi w1), l8, l9] [vi s0] h = run 7 1244 109 [l0, l1, l2, l3, l4, l5, l6, some (vi w1), some (vi s0), l9] [] h) ∧
  (∀ (l0 l1 l2 l3 l4 l5 l6 l8 l9 : Option AV) (s0 : Int32) (w1 : Option Rf) (h : Hp), run 7 1244 107 [l0, l1, l2, l3, l4, l5, l6, some (vo w1), l8, l9] [vi s0] h = run 7 1244 109 [l0, l1, l2, l3, l4, l5, l6, some (vo w1), some (vi s0), l9] [] h) ∧
  (∀ (l0 l1 l2 l3 l4 l5 l6 l7 : Option AV) (w : Int32) (h : Hp), run 7 1244 109 [l0, l1, l2, l3, l4, l5, l6, l7, none, some (vi w)] [] h = run 7 1244 112 [l0, l1, l2, l3, l4, l5, l6, l7, none, some (vi (w + (1 : Int32)))] [] h) ∧
  (∀ (l0 l1 l2 l3 l4 l5 l6 l7 : Option AV) (w1 : Int32) (w : Int32) (h : Hp), run 7 1244 109 [l0, l1, l2, l3, l4, l5, l6, l7, some (vi w1), some (vi w)] [] h = run 7 1244 112 [l0, l1, l2, l3, l4, l5, l6, l7, some (vi w1), some (vi (w + (1 : Int32)))] [] h) ∧
  (∀ (l0 l1 l2 l3 l4 l5 l6 l7 : Option AV) (w1 : Option Rf) (w : Int32) (h : Hp), run 7 1244 109 [l0, l1, l2, l3, l4, l5, l6, l7, some (vo w1), some (vi w)] [] h = run 7 1244 112 [l0, l1, l2, l3, l4, l5, l6, l7, some (vo w1), some (vi (w + (1 : Int32)))] [] h) ∧
  (∀ (l0 l1 l2 l3 l4 l5 l6 l7 l8 l9 : Option AV) (h : Hp), run 7 1244 112 [l0, l1, l2, l3, l4, l5, l6, l7, l8, l9] [] h = run 7 1244 79 [l0, l1, l2, l3, l4, l5, l6, l7, l8, l9] [] h) ∧
  (∀ (l0 l1 l2 l3 l4 l5 l6 l7 l9 : Option AV) (w : Int32) (h : Hp), run 7 1244 115 [l0, l1, l2, l3, l4, l5, l6, l7, some (vi w), l9] [] h = run 7 1244 117 [l0, l1, l2, l3, l4, l5, l6, l7, some (vi w), l9] [vi w] h) ∧
  (∀ (l0 l1 l2 l3 l4 l6 l7 l8 l9 : Option AV) (s0 : Int32) (w : Int32) (h : Hp), run 7 1244 117 [l0, l1, l2, l3, l4, some (vi w), l6, l7, l8, l9] [vi s0] h = run 7 1244 119 [l0, l1, l2, l3, l4, some (vi w), l6, l7, l8, l9] [vi w, vi s0] h) ∧
  (∀ (l0 l1 l2 l3 l4 l5 l6 l7 l8 l9 : Option AV) (s0 : Int32) (s1 : Int32) (h : Hp), run 7 1244 119 [l0, l1, l2, l3, l4, l5, l6, l7, l8, l9] [vi s0, vi s1] h = if s1 ≤ s0 then run 7 1244 127 [l0, l1, l2, l3, l4, l5, l6, l7, l8, l9] [] h else run 7 1244 122 [l0, l1, l2, l3, l4, l5, l6, l7, l8, l9] [] h) ∧
  (∀ (l0 l1 l2 l3 l4 l5 l6 l8 l9 : Option AV) (w : Int32) (h : Hp), run 7 1244 122 [l0, l1, l2, l3, l4, l5, l6, some (vi w), l8, l9] [] h = run 7 1244 124 [l0, l1, l2, l3, l4, l5, l6, some (vi w), l8, l9] [vi w] h) ∧
  (∀ (l0 l1 l2 l3 l4 l5 l6 l7 l8 l9 : Option AV) (s0 : Int32) (h : Hp), run 7 1244 124 [l0, l1, l2, l3, l4, l5, l6, l7, l8, l9] [vi s0] h = run 7 1244 129 [l0, l1, l2, l3, l4, l5, l6, l7, l8, l9] [vi s0] h) ∧
  (∀ (l0 l1 l2 l3 l4 l5 l7 l8 l9 : Option AV) (w : Int32) (h : Hp), run 7 1244 127 [l0, l1, l2, l3, l4, l5, some (vi w), l7, l8, l9] [] h = run 7 1244 129 [l0, l1, l2, l3, l4, l5, some (vi w), l7, l8, l9] [vi w] h) ∧
  (∀ (l0 l1 l2 l3 l4 l6 l7 l8 l9 : Option AV) (s0 : Int32) (h : Hp), run 7 1244 129 [l0, l1, l2, l3, l4, none, l6, l7, l8, l9] [vi s0] h = run 7 1244 131 [l0, l1, l2, l3, l4, none, some (vi s0), l7, l8, l9] [] h) ∧
  (∀ (l0 l1 l2 l3 l4 l6 l7 l8 l9 : Option AV) (s0 : Int32) (w1 : Int32) (h : Hp), run 7 1244 129 [l0, l1, l2, l3, l4, some (vi w1), l6, l7, l8, l9] [vi s0] h = run 7 1244 131 [l0, l1, l2, l3, l4, some (vi w1), some (vi s0), l7, l8, l9] [] h) ∧
  (∀ (l0 l1 l2 l3 l4 l6 l7 l8 l9 : Option AV) (s0 : Int32) (w1 : Option Rf) (h : Hp), run 7 1244 129 [l0, l1, l2, l3, l4, some (vo w1), l6, l7, l8, l9] [vi s0] h = run 7 1244 131 [l0, l1, l2, l3, l4, some (vo w1), some (vi s0), l7, l8, l9] [] h) ∧
  (∀ (l0 l1 l2 l3 l4 l5 l6 l7 l9 : Option AV) (w : Int32) (h : Hp), run 7 1244 131 [l0, l1, l2, l3, l4, l5, l6, l7, some (vi w), l9] [] h = run 7 1244 133 [l0, l1, l2, l3, l4, l5, l6, l7, some (vi w), l9] [vi w] h) ∧
  (∀ (l0 l1 l2 l3 l4 l6 l7 l8 l9 : Option AV) (s0 : Int32) (w : Int32) (h : Hp), run 7 1244 133 [l0, l1, l2, l3, l4, some (vi w), l6, l7, l8, l9] [vi s0] h = run 7 1244 135 [l0, l1, l2, l3, l4, some (vi w), l6, l7, l8, l9] [vi w, vi s0] h) ∧
  (∀ (l0 l1 l2 l3 l4 l5 l6 l7 l8 l9 : Option AV) (s0 : Int32) (s1 : Int32) (h : Hp), run 7 1244 135 [l0, l1, l2, l3, l4, l5, l6, l7, l8, l9] [vi s0, vi s1] h = if s1 ≤ s0 then run 7 1244 143 [l0, l1, l2, l3, l4, l5, l6, l7, l8, l9] [] h else run 7 1244 138 [l0, l1, l2, l3, l4, l5, l6, l7, l8, l9] [] h) ∧
  (∀ (l0 l1 l2 l3 l4 l5 l6 l7 l9 : Option AV) (w : Int32) (h : Hp), run 7 1244 138 [l0, l1, l2, l3, l4, l5, l6, l7, some (vi w), l9] [] h = run 7 1244 140 [l0, l1, l2, l3, l4, l5, l6, l7, some (vi w), l9] [vi w] h) ∧
  (∀ (l0 l1 l2 l3 l4 l5 l6 l7 l8 l9 : Option AV) (s0 : Int32) (h : Hp), run 7 1244 140 [l0, l1, l2, l3, l4, l5, l6, l7, l8, l9] [vi s0] h = run 7 1244 145 [l0, l1, l2, l3, l4, l5, l6, l7, l8, l9] [vi s0] h) ∧
  (∀ (l0 l1 l2 l3 l4 l6 l7 l8 l9 : Option AV) (w : Int32) (h : Hp), run 7 1244 143 [l0, l1, l2, l3, l4, some (vi w), l6, l7, l8, l9] [] h = run 7 1244 145 [l0, l1, l2, l3, l4, some (vi w), l6, l7, l8, l9] [vi w] h) ∧
  (∀ (l0 l1 l2 l3 l5 l6 l7 l8 l9 : Option AV) (s0 : Int32) (h : Hp), run 7 1244 145 [l0, l1, l2, l3, none, l5, l6, l7, l8, l9] [vi s0] h = run 7 1244 147 [l0, l1, l2, l3, none, some (vi s0), l6, l7, l8, l9] [] h) ∧
  (∀ (l0 l1 l2 l3 l5 l6 l7 l8 l9 : Option AV) (s0 : Int32) (w1 : Int32) (h : Hp), run 7 1244 145 [l0, l1, l2, l3, some (vi w1), l5, l6, l7, l8, l9] [vi s0] h = run 7 1244 147 [l0, l1, l2, l3, some (vi w1), some (vi s0), l6, l7, l8, l9] [] h) ∧
  (∀ (l0 l1 l2 l3 l5 l6 l7 l8 l9 : Option AV) (s0 : Int32) (w1 : Option Rf) (h : Hp), run 7 1244 145 [l0, l1, l2, l3, some (vo w1), l5, l6, l7, l8, l9] [vi s0] h = run 7 1244 147 [l0, l1, l2, l3, some (vo w1), some (vi s0), l6, l7, l8, l9] [] h) ∧
  (∀ (l0 l1 l2 l3 l4 l5 l8 l9 : Option AV) (w : Int32) (h : Hp), run 7 1244 147 [l0, l1, l2, l3, l4, l5, none, some (vi w), l8, l9] [] h = run 7 1244 150 [l0, l1, l2, l3, l4, l5, none, some (vi (w + (1 : Int32))), l8, l9] [] h) ∧
  (∀ (l0 l1 l2 l3 l4 l5 l8 l9 : Option AV) (w1 : Int32) (w : Int32) (h : Hp), run 7 1244 147 [l0, l1, l2, l3, l4, l5, some (vi w1), some (vi w), l8, l9] [] h = run 7 1244 150 [l0, l1, l2, l3, l4, l5, some (vi w1), some (vi (w + (1 : Int32))), l8, l9] [] h) ∧
  (∀ (l0 l1 l2 l3 l4 l5 l8 l9 : Option AV) (w1 : Option Rf) (w : Int32) (h : Hp), run 7 1244 147 [l0, l1, l2, l3, l4, l5, some (vo w1), some (vi w), l8, l9] [] h = run 7 1244 150 [l0, l1, l2, l3, l4, l5, some (vo w1), some (vi (w + (1 : Int32))), l8, l9] [] h) ∧
  (∀ (l0 l1 l2 l3 l4 l5 l6 l7 l8 l9 : Option AV) (h : Hp), run 7 1244 150 [l0, l1, l2, l3, l4, l5, l6, l7, l8, l9] [] h = run 7 1244 59 [l0, l1, l2, l3, l4, l5, l6, l7, l8, l9] [] h) ∧
  (∀ (l1 l2 l3 l4 l5 l6 l7 l8 l9 : Option AV) (w : Option Rf) (h : Hp), run 7 1244 153 [some (vo w), l1, l2, l3, l4, l5, l6, l7, l8, l9] [] h = run 7 1244 154 [some (vo w), l1, l2, l3, l4, l5, l6, l7, l8, l9] [vo w] h) ∧
  (∀ (l0 l1 l2 l3 l5 l6 l7 l8 l9 : Option AV) (s0 : Option Rf) (w : Int32) (h : Hp), run 7 1244 154 [l0, l1, l2, l3, some (vi w), l5, l6, l7, l8, l9] [vo s0] h = run 7 1244 156 [l0, l1, l2, l3, some (vi w), l5, l6, l7, l8, l9] [vi w, vo s0] h) ∧
  (∀ (l0 l1 l2 l3 l4 l5 l6 l7 l8 l9 : Option AV) (s0 : Int32) (o z : Nat) (h : Hp), run 7 1244 156 [l0, l1, l2, l3, l4, l5, l6, l7, l8, l9] [vi s0, vo (some (o, 12, z))] h = run 7 1244 159 [l0, l1, l2, l3, l4, l5, l6, l7, l8, l9] [] (hsI h o 5 s0)) ∧
  (∀ (l0 l1 l3 l4 l5 l6 l7 l8 l9 : Option AV) (w : Int32) (h : Hp), run 7 1244 159 [l0, l1, some (vi w), l3, l4, l5, l6, l7, l8, l9] [] h = run 7 1244 160 [l0, l1, some (vi w), l3, l4, l5, l6, l7, l8, l9] [vi w] h) ∧
  (∀ (l0 l1 l2 l3 l4 l5 l6 l7 l8 l9 : Option AV) (s0 : Int32) (h : Hp), run 7 1244 160 [l0, l1, l2, l3, l4, l5, l6, l7, l8, l9] [vi s0] h = if s0 = 0 then run 7 1244 163 [l0, l1, l2, l3, l4, l5, l6, l7, l8, l9] [] h else run 7 1244 168 [l0, l1, l2, l3, l4, l5, l6, l7, l8, l9] [] h) ∧
  (∀ (l0 l1 l2 l3 l4 l6 l7 l8 l9 : Option AV) (w : Int32) (h : Hp), run 7 1244 163 [l0, l1, l2, l3, l4, some (vi w), l6, l7, l8, l9] [] h = run 7 1244 165 [l0, l1, l2, l3, l4, some (vi w), l6, l7, l8, l9] [vi w] h) ∧
  (∀ (l0 l1 l2 l3 l4 l5 l6 l7 l8 l9 : Option AV) (s0 : Int32) (h : Hp), run 7 1244 165 [l0, l1, l2, l3, l4, l5, l6, l7, l8, l9] [vi s0] h = run 7 1244 170 [l0, l1, l2, l3, l4, l5, l6, l7, l8, l9] [vi s0] h) ∧
  (∀ (l0 l1 l2 l3 l4 l5 l7 l8 l9 : Option AV) (w : Int32) (h : Hp), run 7 1244 168 [l0, l1, l2, l3, l4, l5, some (vi w), l7, l8, l9] [] h = run 7 1244 170 [l0, l1, l2, l3, l4, l5, some (vi w), l7, l8, l9] [vi w] h) ∧
  (∀ (l0 l1 l2 l3 l4 l5 l6 l7 l8 l9 : Option AV) (s0 : Int32) (h : Hp), run 7 1244 170 [l0, l1, l2, l3, l4, l5, l6, l7, l8, l9] [vi s0] h = some (some (vi s0), h)) := ⟨(fun _ _ _ _ _ _ _ _ _ _ _ => run_next rfl rfl),
  (fun _ _ _ _ _ _ _ _ _ _ s0 _ => run_next rfl rfl),
  (fun _ _ _ _ _ _ _ _ _ _ s0 _ _ _ => run_next rfl rfl),
  (fun _ _ _ _ _ _ _ _ _ _ _ => run_next rfl rfl),
  (fun _ _ _ _ _ _ _ _ _ _ s0 _ => run_next rfl rfl),
  (fun _ _ _ _ _ _ _ _ _ _ s0 _ => run_next rfl rfl),
  (fun _ _ _ _ _ _ _ _ _ _ s0 _ _ => run_next rfl rfl),
  (fun _ _ _ _ _ _ _ _ _ _ s0 _ _ _ => run_calx rfl rfl (Nat.le_of_ble_eq_true rfl) (Nat.le_of_ble_eq_true rfl) rfl),
  (fun _ _ _ _ _ _ _ _ _ _ s0 _ => run_if rfl rfl (run_next rfl) (run_next rfl)),
  (fun _ _ _ _ _ _ _ _ _ _ _ => run_next rfl rfl),
  (fun _ _ _ _ _ _ _ _ _ _ s0 _ => run_next rfl rfl),
  (fun _ _ _ _ _ _ _ _ _ _ s0 _ _ => run_next rfl rfl),
  (fun _ _ _ _ _ _ _ _ _ _ s0 _ _ _ => run_calx rfl rfl (Nat.le_of_ble_eq_true rfl) (Nat.le_of_ble_eq_true rfl) rfl),
  (fun _ _ _ _ _ _ _ _ _ _ s0 _ => run_next rfl rfl),
  (fun _ _ _ _ _ _ _ _ _ _ _ => run_next rfl rfl),
  (fun _ _ _ _ _ _ _ _ _ s0 _ => run_next rfl rfl),
  (fun _ _ _ _ _ _ _ _ _ s0 _ _ => run_next rfl rfl),
  (fun _ _ _ _ _ _ _ _ _ s0 _ _ => run_next rfl rfl),
  (fun _ _ _ _ _ _ _ _ _ _ _ => run_next rfl rfl),
  (fun _ _ _ _ _ _ _ _ _ _ s0 _ => run_if rfl rfl (run_next rfl) (run_next rfl)),
  (fun _ _ _ _ _ _ _ _ _ _ _ => run_next rfl rfl),
  (fun _ _ _ _ _ _ _ _ _ s0 _ _ => run_next rfl rfl),
  (fun _ _ _ _ _ _ _ _ _ _ s0 _ _ _ => run_calx rfl rfl (Nat.le_of_ble_eq_true rfl) (Nat.le_of_ble_eq_true rfl) rfl),
  (fun _ _ _ _ _ _ _ _ _ _ s0 _ => run_ret rfl rfl),
  (fun _ _ _ _ _ _ _ _ _ _ _ => run_next rfl rfl),
  (fun _ _ _ _ _ _ _ _ _ _ _ _ _ => run_next rfl rfl),
  (fun _ _ _ _ _ _ _ _ _ s0 _ => run_next rfl rfl),
  (fun _ _ _ _ _ _ _ _ _ s0 _ _ => run_next rfl rfl),
  (fun _ _ _ _ _ _ _ _ _ s0 _ _ => run_next rfl rfl),
  (fun _ _ _ _ _ _ _ _ _ _ _ => run_next rfl rfl),
  (fun _ _ _ _ _ _ _ _ _ s0 _ _ => run_next rfl rfl),
  (fun _ _ _ _ _ _ _ _ _ _ s0 _ _ _ => run_calx rfl rfl (Nat.le_of_ble_eq_true rfl) (Nat.le_of_ble_eq_true rfl) rfl),
  (fun _ _ _ _ _ _ _ _ _ _ _ => run_next rfl rfl),
  (fun _ _ _ _ _ _ _ _ _ s0 _ => run_next rfl rfl),
  (fun _ _ _ _ _ _ _ _ _ s0 _ _ => run_next rfl rfl),
  (fun _ _ _ _ _ _ _ _ _ s0 _ _ => run_next rfl rfl),
  (fun _ _ _ _ _ _ _ _ _ _ _ => run_next rfl rfl),
  (fun _ _ _ _ _ _ _ _ _ s0 _ => run_next rfl rfl),
  (fun _ _ _ _ _ _ _ _ _ s0 _ _ => run_next rfl rfl),
  (fun _ _ _ _ _ _ _ _ _ s0 _ _ => run_next rfl rfl),
  (fun _ _ _ _ _ _ _ _ _ _ _ => run_next rfl rfl),
  (fun _ _ _ _ _ _ _ _ _ s0 _ => run_next rfl rfl),
  (fun _ _ _ _ _ _ _ _ _ s0 _ _ => run_next rfl rfl),
  (fun _ _ _ _ _ _ _ _ _ s0 _ _ => run_next rfl rfl),
  (fun _ _ _ _ _ _ _ _ _ s0 _ _ => run_next rfl rfl),
  (fun _ _ _ _ _ _ _ _ _ _ _ _ _ _ => run_next rfl rfl),
  (fun _ _ _ _ _ _ _ _ _ s0 _ _ _ => run_next rfl rfl),
  (fun _ _ _ _ _ _ _ _ _ _ _ _ _ _ _ => run_next rfl rfl),
  (fun _ _ _ _ _ _ _ _ _ _ s0 _ _ _ => run_next rfl rfl),
  (fun _ _ _ _ _ _ _ _ _ _ s0 _ _ => run_if rfl rfl (run_next rfl) (run_next rfl)),
  (fun _ _ _ _ _ _ _ _ _ _ _ => run_next rfl rfl),
  (fun _ _ _ _ _ _ _ _ _ s0 _ => run_next rfl rfl),
  (fun _ _ _ _ _ _ _ _ _ s0 _ _ => run_next rfl rfl),
  (fun _ _ _ _ _ _ _ _ _ s0 _ _ => run_next rfl rfl),
  (fun _ _ _ _ _ _ _ _ _ _ _ => run_next rfl rfl),
  (fun _ _ _ _ _ _ _ _ _ s0 _ => run_next rfl rfl),
  (fun _ _ _ _ _ _ _ _ _ s0 _ _ => run_next rfl rfl),
  (fun _ _ _ _ _ _ _ _ _ s0 _ _ => run_next rfl rfl),
  (fun _ _ _ _ _ _ _ _ _ s0 _ _ => run_next rfl rfl),
  (fun _ _ _ _ _ _ _ _ _ _ _ _ _ _ => run_next rfl rfl),
  (fun _ _ _ _ _ _ _ _ _ _ s0 _ _ => run_if rfl rfl (run_next rfl) (run_next rfl)),
  (fun _ _ _ _ _ _ _ _ _ _ _ => run_next rfl rfl),
  (fun _ _ _ _ _ _ _ _ _ s0 _ _ => run_next rfl rfl),
  (fun _ _ _ _ _ _ _ _ _ s0 _ _ _ => run_next rfl rfl),
  (fun _ _ _ _ _ _ _ _ _ _ s0 _ _ _ _ => run_calx rfl rfl (Nat.le_of_ble_eq_true rfl) (Nat.le_of_ble_eq_true rfl) rfl),
  (fun _ _ _ _ _ _ _ _ _ s0 _ _ _ => run_next rfl rfl),
  (fun _ _ _ _ _ _ _ _ _ _ s0 _ _ _ => run_if rfl rfl (run_next rfl) (run_next rfl)),
  (fun _ _ _ _ _ _ _ _ _ _ s0 _ => run_next rfl rfl),
  (fun _ _ _ _ _ _ _ _ _ _ s0 _ _ => run_next rfl rfl),
  (fun _ _ _ _ _ _ _ _ _ _ s0 _ => run_next rfl rfl),
  (fun _ _ _ _ _ _ _ _ _ _ s0 _ _ => run_next rfl rfl),
  (fun _ _ _ _ _ _ _ _ _ s0 _ => run_next rfl rfl),
  (fun _ _ _ _ _ _ _ _ _ s0 _ _ => run_next rfl rfl),
  (fun _ _ _ _ _ _ _ _ _ s0 _ _ => run_next rfl rfl),
  (fun _ _ _ _ _ _ _ _ _ _ => run_next rfl rfl),
  (fun _ _ _ _ _ _ _ _ _ _ _ => run_next rfl rfl),
  (fun _ _ _ _ _ _ _ _ _ _ _ => run_next rfl rfl),
  (fun _ _ _ _ _ _ _ _ _ _ _ => run_next rfl rfl),
  (fun _ _ _ _ _ _ _ _ _ _ _ => run_next rfl rfl),
  (fun _ _ _ _ _ _ _ _ _ s0 _ _ => run_next rfl rfl),
  (fun _ _ _ _ _ _ _ _ _ _ s0 _ _ => run_if rfl rfl (run_next rfl) (run_next rfl)),
  (fun _ _ _ _ _ _ _ _ _ _ _ => run_next rfl rfl),
  (fun _ _ _ _ _ _ _ _ _ _ s0 _ => run_next rfl rfl),
  (fun _ _ _ _ _ _ _ _ _ _ _ => run_next rfl rfl),
  (fun _ _ _ _ _ _ _ _ _ s0 _ => run_next rfl rfl),
  (fun _ _ _ _ _ _ _ _ _ s0 _ _ => run_next rfl rfl),
  (fun _ _ _ _ _ _ _ _ _ s0 _ _ => run_next rfl rfl),
  (fun _ _ _ _ _ _ _ _ _ _ _ => run_next rfl rfl),
  (fun _ _ _ _ _ _ _ _ _ s0 _ _ => run_next rfl rfl),
  (fun _ _ _ _ _ _ _ _ _ _ s0 _ _ => run_if rfl rfl (run_next rfl) (run_next rfl)),
  (fun _ _ _ _ _ _ _ _ _ _ _ => run_next rfl rfl),
  (fun _ _ _ _ _ _ _ _ _ _ s0 _ => run_next rfl rfl),
  (fun _ _ _ _ _ _ _ _ _ _ _ => run_next rfl rfl),
  (fun _ _ _ _ _ _ _ _ _ s0 _ => run_next rfl rfl),
  (fun _ _ _ _ _ _ _ _ _ s0 _ _ => run_next rfl rfl),
  (fun _ _ _ _ _ _ _ _ _ s0 _ _ => run_next rfl rfl),
  (fun _ _ _ _ _ _ _ _ _ _ => run_next rfl rfl),
  (fun _ _ _ _ _ _ _ _ _ _ _ => run_next rfl rfl),
  (fun _ _ _ _ _ _ _ _ _ _ _ => run_next rfl rfl),
  (fun _ _ _ _ _ _ _ _ _ _ _ => run_next rfl rfl),
  (fun _ _ _ _ _ _ _ _ _ _ _ => run_next rfl rfl),
  (fun _ _ _ _ _ _ _ _ _ s0 _ _ => run_next rfl rfl),
  (fun _ _ _ _ _ _ _ _ _ _ s0 _ _ _ => run_next rfl rfl),
  (fun _ _ _ _ _ _ _ _ _ _ _ => run_next rfl rfl),
  (fun _ _ _ _ _ _ _ _ _ _ s0 _ => run_if rfl rfl (run_next rfl) (run_next rfl)),
  (fun _ _ _ _ _ _ _ _ _ _ _ => run_next rfl rfl),
  (fun _ _ _ _ _ _ _ _ _ _ s0 _ => run_next rfl rfl),
  (fun _ _ _ _ _ _ _ _ _ _ _ => run_next rfl rfl),
  (fun _ _ _ _ _ _ _ _ _ _ s0 _ => run_ret rfl rfl)⟩
set_option maxRecDepth 20000 in
theorem x_1244_59 : (∀ (l0 l1 l2 l3 l4 l5 l6 l8 l9 : Option AV) (w : Int32) (h : Hp), run 7 1244 59 [l0, l1, l2, l3, l4, l5, l6, some (vi w), l8, l9] [] h = run 7 1244 61 [l0, l1, l2, l3, l4, l5, l6, some (vi w), l8, l9] [vi w] h) := (fun _ _ _ _ _ _ _ _ _ _ _ => run_next rfl rfl)
set_option maxRecDepth 20000 in
theorem x_1244_79 : (∀ (l0 l1 l2 l3 l4 l5 l6 l7 l8 : Option AV) (w : Int32) (h : Hp), run 7 1244 79 [l0, l1, l2, l3, l4, l5, l6, l7, l8, some (vi w)] [] h = run 7 1244 81 [l0, l1, l2, l3, l4, l5, l6, l7, l8, some (vi w)] [vi w] h) := (fun _ _ _ _ _ _ _ _ _ _ _ => run_next rfl rfl)
theorem e_1244 (v : Option Rf) (a0 : Int32) (a1 : Int32) (h : Hp) : call 1244 [vo v, vi a0, vi a1] h = run 7 1244 0 [some (vo v), some (vi a0), some (vi a1), none, none, none, none, none, none, none] [] h := rfl
set_option maxRecDepth 20000 in
theorem x_1245 : (∀ (l0 l1 l2 l3 l4 l5 l6 l7 l8 : Option AV) (h : Hp), run 3 1245 0 [l0, l1, l2, l3, l4, l5, l6, l7, l8] [] h = run 3 1245 1 [l0, l1, l2, l3, l4, l5, l6, l7, l8] [vi (1 : Int32)] h) ∧
  (∀ (l0 l2 l3 l4 l5 l6 l7 l8 : Option AV) (s0 : Int32) (w : Int32) (h : Hp), run 3 1245 1 [l0, some (vi w), l2, l3, l4, l5, l6, l7, l8] [vi s0] h = run 3 1245 2 [l0, some (vi w), l2, l3, l4, l5, l6, l7, l8] [vi w, vi s0] h) ∧
  (∀ (l0 l1 l2 l3 l4 l5 l6 l7 l8 : Option AV) (s0 : Int32) (s1 : Int32) (h : Hp), run 3 1245 2 [l0, l1, l2, l3, l4, l5, l6, l7, l8] [vi s0, vi s1] h = run 3 1245 3 [l0, l1, l2, l3, l4, l5, l6, l7, l8] [vi (s1 <<< (s0 &&& 31))] h) ∧
  (∀ (l0 l1 l3 l4 l5 l6 l7 l8 : Option AV) (s0 : Int32) (h : Hp), run 3 1245 3 [l0, l1, none, l3, l4, l5, l6, l7, l8] [vi s0] h = run 3 1245 4 [l0, l1, none, some (vi s0), l4, l5, l6, l7, l8] [] h) ∧
  (∀ (l0 l1 l3 l4 l5 l6 l7 l8 : Option AV) (s0 : Int32) (w1 : Int32) (h : Hp), run 3 1245 3 [l0, l1, some (vi w1), l3, l4, l5, l6, l7, l8] [vi s0] h = run 3 1245 4 [l0, l1, some (vi w1), some (vi s0), l4, l5, l6, l7, l8] [] h) ∧
  (∀ (l0 l1 l3 l4 l5 l6 l7 l8 : Option AV) (s0 : Int32) (w1 : Option Rf) (h : Hp), run 3 1245 3 [l0, l1, some (vo w1), l3, l4, l5, l6, l7, l8] [vi s0] h = run 3 1245 4 [l0, l1, some (vo w1), some (vi s0), l4, l5, l6, l7, l8] [] h) ∧
  (∀ (l0 l1 l2 l3 l4 l5 l6 l7 l8 : Option AV) (h : Hp), run 3 1245 4 [l0, l1, l2, l3, l4, l5, l6, l7, l8] [] h = run 3 1245 5 [l0, l1, l2, l3, l4, l5, l6, l7, l8] [vi (0 : Int32)] h) ∧
  (∀ (l0 l1 l2 l4 l5 l6 l7 l8 : Option AV) (s0 : Int32) (h : Hp), run 3 1245 5 [l0, l1, l2, none, l4, l5, l6, l7, l8] [vi s0] h = run 3 1245 7 [l0, l1, l2, none, some (vi s0), l5, l6, l7, l8] [] h) ∧
  (∀ (l0 l1 l2 l4 l5 l6 l7 l8 : Option AV) (s0 : Int32) (w1 : Int32) (h : Hp), run 3 1245 5 [l0, l1, l2, some (vi w1), l4, l5, l6, l7, l8] [vi s0] h = run 3 1245 7 [l0, l1, l2, some (vi w1), some (vi s0), l5, l6, l7, l8] [] h) ∧
  (∀ (l0 l1 l2 l4 l5 l6 l7 l8 : Option AV) (s0 : Int32) (w1 : Option Rf) (h : Hp), run 3 1245 5 [l0, l1, l2, some (vo w1), l4, l5, l6, l7, l8] [vi s0] h = run 3 1245 7 [l0, l1, l2, some (vo w1), some (vi s0), l5, l6, l7, l8] [] h) ∧
  (∀ (l0 l1 l3 l4 l5 l6 l7 l8 : Option AV) (s0 : Int32) (w : Int32) (h : Hp), run 3 1245 9 [l0, l1, some (vi w), l3, l4, l5, l6, l7, l8] [vi s0] h = run 3 1245 10 [l0, l1, some (vi w), l3, l4, l5, l6, l7, l8] [vi w, vi s0] h) ∧
  (∀ (l0 l1 l2 l3 l4 l5 l6 l7 l8 : Option AV) (s0 : Int32) (s1 : Int32) (h : Hp), run 3 1245 10 [l0, l1, l2, l3, l4, l5, l6, l7, l8] [vi s0, vi s1] h = if s0 ≤ s1 then run 3 1245 105 [l0, l1, l2, l3, l4, l5, l6, l7, l8] [] h else run 3 1245 13 [l0, l1, l2, l3, l4, l5, l6, l7, l8] [] h) ∧
  (∀ (l0 l1 l2 l4 l5 l6 l7 l8 : Option AV) (w : Int32) (h : Hp), run 3 1245 13 [l0, l1, l2, some (vi w), l4, l5, l6, l7, l8] [] h = run 3 1245 14 [l0, l1, l2, some (vi w), l4, l5, l6, l7, l8] [vi w] h) ∧
  (∀ (l0 l1 l2 l3 l5 l6 l7 l8 : Option AV) (s0 : Int32) (h : Hp), run 3 1245 14 [l0, l1, l2, l3, none, l5, l6, l7, l8] [vi s0] h = run 3 1245 16 [l0, l1, l2, l3, none, some (vi s0), l6, l7, l8] [] h) ∧
  (∀ (l0 l1 l2 l3 l5 l6 l7 l8 : Option AV) (s0 : Int32) (w1 : Int32) (h : Hp), run 3 1245 14 [l0, l1, l2, l3, some (vi w1), l5, l6, l7, l8] [vi s0] h = run 3 1245 16 [l0, l1, l2, l3, some (vi w1), some (vi s0), l6, l7, l8] [] h) ∧
  (∀ (l0 l1 l2 l3 l5 l6 l7 l8 : Option AV) (s0 : Int32) (w1 : Option Rf) (h : Hp), run 3 1245 14 [l0, l1, l2, l3, some (vo w1), l5, l6, l7, l8] [vi s0] h = run 3 1245 16 [l0, l1, l2, l3, some (vo w1), some (vi s0), l6, l7, l8] [] h) ∧
  (∀ (l0 l1 l2 l3 l4 l5 l6 l7 l8 : Option AV) (h : Hp), run 3 1245 16 [l0, l1, l2, l3, l4, l5, l6, l7, l8] [] h = run 3 1245 17 [l0, l1, l2, l3, l4, l5, l6, l7, l8] [vi (0 : Int32)] h) ∧
  (∀ (l0 l1 l2 l3 l4 l6 l7 l8 : Option AV) (s0 : Int32) (h : Hp), run 3 1245 17 [l0, l1, l2, l3, l4, none, l6, l7, l8] [vi s0] h = run 3 1245 19 [l0, l1, l2, l3, l4, none, some (vi s0), l7, l8] [] h) ∧
  (∀ (l0 l1 l2 l3 l4 l6 l7 l8 : Option AV) (s0 : Int32) (w1 : Int32) (h : Hp), run 3 1245 17 [l0, l1, l2, l3, l4, some (vi w1), l6, l7, l8] [vi s0] h = run 3 1245 19 [l0, l1, l2, l3, l4, some (vi w1), some (vi s0), l7, l8] [] h) ∧
  (∀ (l0 l1 l2 l3 l4 l6 l7 l8 : Option AV) (s0 : Int32) (w1 : Option Rf) (h : Hp), run 3 1245 17 [l0, l1, l2, l3, l4, some (vo w1), l6, l7, l8] [vi s0] h = run 3 1245 19 [l0, l1, l2, l3, l4, some (vo w1), some (vi s0), l7, l8] [] h) ∧
  (∀ (l1 l2 l3 l4 l5 l6 l7 l8 : Option AV) (s0 : Int32) (w : Option Rf) (h : Hp), run 3 1245 21 [some (vo w), l1, l2, l3, l4, l5, l6, l7, l8] [vi s0] h = run 3 1245 22 [some (vo w), l1, l2, l3, l4, l5, l6, l7, l8] [vo w, vi s0] h) ∧
  (∀ (l0 l1 l2 l3 l4 l5 l6 l7 l8 : Option AV) (s1 : Int32) (o z : Nat) (h : Hp), run 3 1245 22 [l0, l1, l2, l3, l4, l5, l6, l7, l8] [vo (some (o, 12, z)), vi s1] h = run 3 1245 25 [l0, l1, l2, l3, l4, l5, l6, l7, l8] [vi (hI h o 0), vi s1] h) ∧
  (∀ (l1 l2 l3 l4 l5 l6 l7 l8 : Option AV) (s0 : Int32) (s1 : Int32) (w : Option Rf) (h : Hp), run 3 1245 25 [some (vo w), l1, l2, l3, l4, l5, l6, l7, l8] [vi s0, vi s1] h = run 3 1245 26 [some (vo w), l1, l2, l3, l4, l5, l6, l7, l8] [vo w, vi s0, vi s1] h) ∧
  (∀ (l0 l1 l2 l3 l4 l5 l6 l7 l8 : Option AV) (s1 : Int32) (s2 : Int32) (o z : Nat) (h : Hp), run 3 1245 26 [l0, l1, l2, l3, l4, l5, l6, l7, l8] [vo (some (o, 12, z)), vi s1, vi s2] h = run 3 1245 29 [l0, l1, l2, l3, l4, l5, l6, l7, l8] [vi (hI h o 1), vi s1, vi s2] h) ∧
  (∀ (l0 l1 l2 l3 l4 l5 l6 l7 l8 : Option AV) (s0 : Int32) (s1 : Int32) (s2 : Int32) (h : Hp), run 3 1245 29 [l0, l1, l2, l3, l4, l5, l6, l7, l8] [vi s0, vi s1, vi s2] h = run 3 1245 30 [l0, l1, l2, l3, l4, l5, l6, l7, l8] [vi (s1 * s0), vi s2] h) ∧
  (∀ (l0 l1 l2 l3 l4 l5 l6 l7 l8 : Option AV) (s0 : Int32) (s1 : Int32) (h : Hp), run 3 1245 30 [l0, l1, l2, l3, l4, l5, l6, l7, l8] [vi s0, vi s1] h = if s0 ≤ s1 then run 3 1245 96 [l0, l1, l2, l3, l4, l5, l6, l7, l8] [] h else run 3 1245 33 [l0, l1, l2, l3, l4, l5, l6, l7, l8] [] h) ∧
  (∀ (l0 l1 l2 l3 l4 l5 l6 l7 l8 : Option AV) (h : Hp), run 3 1245 33 [l0, l1, l2, l3, l4, l5, l6, l7, l8] [] h = run 3 1245 34 [l0, l1, l2, l3, l4, l5, l6, l7, l8] [vi (0 : Int32)] h) ∧
  (∀ (l0 l1 l2 l3 l4 l5 l7 l8 : Option AV) (s0 : Int32) (h : Hp), run 3 1245 34 [l0, l1, l2, l3, l4, l5, none, l7, l8] [vi s0] h = run 3 1245 36 [l0, l1, l2, l3, l4, l5, none, some (vi s0), l8] [] h) ∧
  (∀ (l0 l1 l2 l3 l4 l5 l7 l8 : Option AV) (s0 : Int32) (w1 : Int32) (h : Hp), run 3 1245 34 [l0, l1, l2, l3, l4, l5, some (vi w1), l7, l8] [vi s0] h = run 3 1245 36 [l0, l1, l2, l3, l4, l5, some (vi w1), some (vi s0), l8] [] h) ∧
  (∀ (l0 l1 l2 l3 l4 l5 l7 l8 : Option AV) (s0 : Int32) (w1 : Option Rf) (h : Hp), run 3 1245 34 [l0, l1, l2, l3, l4, l5, some (vo w1), l7, l8] [vi s0] h = run 3 1245 36 [l0, l1, l2, l3, l4, l5, some (vo w1), some (vi s0), l8] [] h) ∧
  (∀ (l0 l1 l2 l3 l4 l5 l6 l7 l8 : Option AV) (s0 : Int32) (h : Hp), run 3 1245 38 [l0, l1, l2, l3, l4, l5, l6, l7, l8] [vi s0] h = run 3 1245 39 [l0, l1, l2, l3, l4, l5, l6, l7, l8] [vi (4 : Int32), vi s0] h) ∧
  (∀ (l0 l1 l2 l3 l4 l5 l6 l7 l8 : Option AV) (s0 : Int32) (s1 : Int32) (h : Hp), run 3 1245 39 [l0, l1, l2, l3, l4, l5, l6, l7, l8] [vi s0, vi s1] h = if s0 ≤ s1 then run 3 1245 90 [l0, l1, l2, l3, l4, l5, l6, l7, l8] [] h else run 3 1245 42 [l0, l1, l2, l3, l4, l5, l6, l7, l8] [] h) ∧
  (∀ (l0 l1 l2 l4 l5 l6 l7 l8 : Option AV) (w : Int32) (h : Hp), run 3 1245 42 [l0, l1, l2, some (vi w), l4, l5, l6, l7, l8] [] h = run 3 1245 43 [l0, l1, l2, some (vi w), l4, l5, l6, l7, l8] [vi w] h) ∧
  (∀ (l0 l1 l2 l3 l4 l5 l7 l8 : Option AV) (s0 : Int32) (w : Int32) (h : Hp), run 3 1245 43 [l0, l1, l2, l3, l4, l5, some (vi w), l7, l8] [vi s0] h = run 3 1245 45 [l0, l1, l2, l3, l4, l5, some (vi w), l7, l8] [vi w, vi s0] h) ∧
  (∀ (l0 l1 l2 l3 l4 l5 l6 l7 l8 : Option AV) (s0 : Int32) (s1 : Int32) (h : Hp), run 3 1245 45 [l0, l1, l2, l3, l4, l5, l6, l7, l8] [vi s0, vi s1] h = run 3 1245 46 [l0, l1, l2, l3, l4, l5, l6, l7, l8] [vi (s1 >>> (s0 &&& 31))] h) ∧
  (∀ (l0 l1 l2 l3 l4 l5 l6 l7 l8 : Option AV) (s0 : Int32) (h : Hp), run 3 1245 46 [l0, l1, l2, l3, l4, l5, l6, l7, l8] [vi s0] h = run 3 1245 47 [l0, l1, l2, l3, l4, l5, l6, l7, l8] [vi (1 : Int32), vi s0] h) ∧
  (∀ (l0 l1 l2 l3 l4 l5 l6 l7 l8 : Option AV) (s0 : Int32) (s1 : Int32) (h : Hp), run 3 1245 47 [l0, l1, l2, l3, l4, l5, l6, l7, l8] [vi s0, vi s1] h = run 3 1245 48 [l0, l1, l2, l3, l4, l5, l6, l7, l8] [vi (s1 &&& s0)] h) ∧
  (∀ (l0 l1 l2 l3 l4 l5 l6 l7 l8 : Option AV) (s0 : Int32) (h : Hp), run 3 1245 48 [l0, l1, l2, l3, l4, l5, l6, l7, l8] [vi s0] h = run 3 1245 49 [l0, l1, l2, l3, l4, l5, l6, l7, l8] [vi (1 : Int32), vi s0] h) ∧
  (∀ (l0 l1 l2 l3 l4 l5 l6 l7 l8 : Option AV) (s0 : Int32) (s1 : Int32) (h : Hp), run 3 1245 49 [l0, l1, l2, l3, l4, l5, l6, l7, l8] [vi s0, vi s1] h = if s1 = s0 then run 3 1245 52 [l0, l1, l2, l3, l4, l5, l6, l7, l8] [] h else run 3 1245 63 [l0, l1, l2, l3, l4, l5, l6, l7, l8] [] h) ∧
  (∀ (l1 l2 l3 l4 l5 l6 l7 l8 : Option AV) (w : Option Rf) (h : Hp), run 3 1245 52 [some (vo w), l1, l2, l3, l4, l5, l6, l7, l8] [] h = run 3 1245 53 [some (vo w), l1, l2, l3, l4, l5, l6, l7, l8] [vo w] h) ∧
  (∀ (l0 l1 l2 l3 l4 l5 l7 l8 : Option AV) (s0 : Option Rf) (w : Int32) (h : Hp), run 3 1245 53 [l0, l1, l2, l3, l4, l5, some (vi w), l7, l8] [vo s0] h = run 3 1245 55 [l0, l1, l2, l3, l4, l5, some (vi w), l7, l8] [vi w, vo s0] h) ∧
  (∀ (l0 l1 l2 l3 l4 l5 l6 l8 : Option AV) (s0 : Int32) (s1 : Option Rf) (w : Int32) (h : Hp), run 3 1245 55 [l0, l1, l2, l3, l4, l5, l6, some (vi w), l8] [vi s0, vo s1] h = run 3 1245 57 [l0, l1, l2, l3, l4, l5, l6, some (vi w), l8] [vi w, vi s0, vo s1] h) ∧
  (∀ (l0 l1 l2 l3 l4 l5 l6 l7 l8 : Option AV) (s0 : Int32) (s1 : Int32) (o z : Nat) (h : Hp), run 3 1245 57 [l0, l1, l2, l3, l4, l5, l6, l7, l8] [vi s0, vi s1, vo (some (o, 12, z))] h = (call 1206 [vo (some (o, 12, z)), vi s1, vi s0] h).bind (fun z => run 3 1245 60 [l0, l1, l2, l3, l4, l5, l6, l7, l8] (z.1.toList ++ []) z.2)) ∧
  (∀ (l0 l1 l2 l3 l4 l5 l6 l7 l8 : Option AV) (s0 : Int32) (h : Hp), run 3 1245 60 [l0, l1, l2, l3, l4, l5, l6, l7, l8] [vi s0] h = run 3 1245 64 [l0, l1, l2, l3, l4, l5, l6, l7, l8] [vi s0] h) ∧
  (∀ (l0 l1 l2 l3 l4 l5 l6 l7 l8 : Option AV) (h : Hp), run 3 1245 63 [l0, l1, l2, l3, l4, l5, l6, l7, l8] [] h = run 3 1245 64 [l0, l1, l2, l3, l4, l5, l6, l7, l8] [vi (-1 : Int32)] h) ∧
  (∀ (l0 l1 l2 l3 l4 l5 l6 l8 : Option AV) (s0 : Int32) (h : Hp), run 3 1245 64 [l0, l1, l2, l3, l4, l5, l6, none, l8] [vi s0] h = run 3 1245 66 [l0, l1, l2, l3, l4, l5, l6, none, some (vi s0)] [] h) ∧
  (∀ (l0 l1 l2 l3 l4 l5 l6 l8 : Option AV) (s0 : Int32) (w1 : Int32) (h : Hp), run 3 1245 64 [l0, l1, l2, l3, l4, l5, l6, some (vi w1), l8] [vi s0] h = run 3 1245 66 [l0, l1, l2, l3, l4, l5, l6, some (vi w1), some (vi s0)] [] h) ∧
  (∀ (l0 l1 l2 l3 l4 l5 l6 l8 : Option AV) (s0 : Int32) (w1 : Option Rf) (h : Hp), run 3 1245 64 [l0, l1, l2, l3, l4, l5, l6, some (vo w1), l8] [vi s0] h = run 3 1245 66 [l0, l1, l2, l3, l4, l5, l6, some (vo w1), some (vi s0)] [] h) ∧
  (∀ (l0 l1 l2 l3 l4 l6 l7 l8 : Option AV) (w : Int32) (h : Hp), run 3 1245 66 [l0, l1, l2, l3, l4, some (vi w), l6, l7, l8] [] h = run 3 1245 68 [l0, l1, l2, l3, l4, some (vi w), l6, l7, l8] [vi w] h) ∧
  (∀ (l0 l1 l2 l3 l4 l5 l6 l7 : Option AV) (s0 : Int32) (w : Int32) (h : Hp), run 3 1245 68 [l0, l1, l2, l3, l4, l5, l6, l7, some (vi w)] [vi s0] h = run 3 1245 70 [l0, l1, l2, l3, l4, l5, l6, l7, some (vi w)] [vi w, vi s0] h) ∧
  (∀ (l0 l1 l2 l3 l4 l5 l6 l7 l8 : Option AV) (s0 : Int32) (s1 : Int32) (h : Hp), run 3 1245 70 [l0, l1, l2, l3, l4, l5, l6, l7, l8] [vi s0, vi s1] h = if 0 ≤ s0 then run 3 1245 77 [l0, l1, l2, l3, l4, l5, l6, l7, l8] [vi s1] h else run 3 1245 73 [l0, l1, l2, l3, l4, l5, l6, l7, l8] [vi s1] h) ∧
  (∀ (l0 l1 l2 l3 l4 l5 l6 l7 l8 : Option AV) (s0 : Int32) (h : Hp), run 3 1245 73 [l0, l1, l2, l3, l4, l5, l6, l7, l8] [vi s0] h = run 3 1245 74 [l0, l1, l2, l3, l4, l5, l6, l7, l8] [vi (0 : Int32), vi s0] h) ∧
  (∀ (l0 l1 l2 l3 l4 l5 l6 l7 l8 : Option AV) (s0 : Int32) (s1 : Int32) (h : Hp), run 3 1245 74 [l0, l1, l2, l3, l4, l5, l6, l7, l8] [vi s0, vi s1] h = run 3 1245 81 [l0, l1, l2, l3, l4, l5, l6, l7, l8] [vi s0, vi s1] h) ∧
  (∀ (l0 l1 l2 l3 l4 l5 l6 l7 l8 : Option AV) (s0 : Int32) (h : Hp), run 3 1245 77 [l0, l1, l2, l3, l4, l5, l6, l7, l8] [vi s0] h = run 3 1245 78 [l0, l1, l2, l3, l4, l5, l6, l7, l8] [vi (1 : Int32), vi s0] h) ∧
  (∀ (l0 l1 l2 l3 l4 l5 l6 l7 : Option AV) (s0 : Int32) (s1 : Int32) (w : Int32) (h : Hp), run 3 1245 78 [l0, l1, l2, l3, l4, l5, l6, l7, some (vi w)] [vi s0, vi s1] h = run 3 1245 80 [l0, l1, l2, l3, l4, l5, l6, l7, some (vi w)] [vi w, vi s0, vi s1] h) ∧
  (∀ (l0 l1 l2 l3 l4 l5 l6 l7 l8 : Option AV) (s0 : Int32) (s1 : Int32) (s2 : Int32) (h : Hp), run 3 1245 80 [l0, l1, l2, l3, l4, l5, l6, l7, l8] [vi s0, vi s1, vi s2] h = run 3 1245 81 [l0, l1, l2, l3, l4, l5, l6, l7, l8] [vi (s1 <<< (s0 &&& 31)), vi s2] h) ∧
  (∀ (l0 l1 l2 l3 l4 l5 l6 l7 l8 : Option AV) (s0 : Int32) (s1 : Int32) (h : Hp), run 3 1245 81 [l0, l1, l2, l3, l4, l5, l6, l7, l8] [vi s0, vi s1] h = run 3 1245 82 [l0, l1, l2, l3, l4, l5, l6, l7, l8] [vi (s1 ||| s0)] h) ∧
  (∀ (l0 l1 l2 l3 l5 l6 l7 l8 : Option AV) (s0 : Int32) (h : Hp), run 3 1245 82 [l0, l1, l2, l3, none, l5, l6, l7, l8] [vi s0] h = run 3 1245 84 [l0, l1, l2, l3, none, some (vi s0), l6, l7, l8] [] h) ∧
  (∀ (l0 l1 l2 l3 l5 l6 l7 l8 : Option AV) (s0 : Int32) (w1 : Int32) (h : Hp), run 3 1245 82 [l0, l1, l2, l3, some (vi w1), l5, l6, l7, l8] [vi s0] h = run 3 1245 84 [l0, l1, l2, l3, some (vi w1), some (vi s0), l6, l7, l8] [] h) ∧
  (∀ (l0 l1 l2 l3 l5 l6 l7 l8 : Option AV) (s0 : Int32) (w1 : Option Rf) (h : Hp), run 3 1245 82 [l0, l1, l2, l3, some (vo w1), l5, l6, l7, l8] [vi s0] h = run 3 1245 84 [l0, l1, l2, l3, some (vo w1), some (vi s0), l6, l7, l8] [] h) ∧
  (∀ (l0 l1 l2 l3 l4 l5 l8 : Option AV) (w : Int32) (h : Hp), run 3 1245 84 [l0, l1, l2, l3, l4, l5, none, some (vi w), l8] [] h = run 3 1245 87 [l0, l1, l2, l3, l4, l5, none, some (vi (w + (1 : Int32))), l8] [] h) ∧
  (∀ (l0 l1 l2 l3 l4 l5 l8 : Option AV) (w1 : Int32) (w : Int32) (h : Hp), run 3 1245 84 [l0, l1, l2, l3, l4, l5, some (vi w1), some (vi w), l8] [] h = run 3 1245 87 [l0, l1, l2, l3, l4, l5, some (vi w1), some (vi (w + (1 : Int32))), l8] [] h) ∧
  (∀ (l0 l1 l2 l3 l4 l5 l8 : Option AV) (w1 : Option Rf) (w : Int32) (h : Hp), run 3 1245 84 [l0, l1, l2, l3, l4, l5, some (vo w1), some (vi w), l8] [] h = run 3 1245 87 [l0, l1, l2, l3, l4, l5, some (vo w1), some (vi (w + (1 : Int32))), l8] [] h) ∧
  (∀ (l0 l1 l2 l3 l4 l5 l6 l7 l8 : Option AV) (h : Hp), run 3 1245 87 [l0, l1, l2, l3, l4, l5, l6, l7, l8] [] h = run 3 1245 36 [l0, l1, l2, l3, l4, l5, l6, l7, l8] [] h) ∧
  (∀ (l0 l1 l2 l3 l4 l7 l8 : Option AV) (w : Int32) (h : Hp), run 3 1245 90 [l0, l1, l2, l3, l4, none, some (vi w), l7, l8] [] h = run 3 1245 93 [l0, l1, l2, l3, l4, none, some (vi (w + (1 : Int32))), l7, l8] [] h) ∧
  (∀ (l0 l1 l2 l3 l4 l7 l8 : Option AV) (w1 : Int32) (w : Int32) (h : Hp), run 3 1245 90 [l0, l1, l2, l3, l4, some (vi w1), some (vi w), l7, l8] [] h = run 3 1245 93 [l0, l1, l2, l3, l4, some (vi w1), some (vi (w + (1 : Int32))), l7, l8] [] h) ∧
  (∀ (l0 l1 l2 l3 l4 l7 l8 : Option AV) (w1 : Option Rf) (w : Int32) (h : Hp), run 3 1245 90 [l0, l1, l2, l3, l4, some (vo w1), some (vi w), l7, l8] [] h = run 3 1245 93 [l0, l1, l2, l3, l4, some (vo w1), some (vi (w + (1 : Int32))), l7, l8] [] h) ∧
  (∀ (l0 l1 l2 l3 l4 l5 l6 l7 l8 : Option AV) (h : Hp), run 3 1245 93 [l0, l1, l2, l3, l4, l5, l6, l7, l8] [] h = run 3 1245 19 [l0, l1, l2, l3, l4, l5, l6, l7, l8] [] h) ∧
  (∀ (l0 l1 l2 l3 l4 l6 l7 l8 : Option AV) (w : Int32) (h : Hp), run 3 1245 96 [l0, l1, l2, l3, l4, some (vi w), l6, l7, l8] [] h = run 3 1245 98 [l0, l1, l2, l3, l4, some (vi w), l6, l7, l8] [vi w] h) ∧
  (∀ (l0 l1 l3 l4 l5 l6 l7 l8 : Option AV) (s0 : Int32) (h : Hp), run 3 1245 98 [l0, l1, none, l3, l4, l5, l6, l7, l8] [vi s0] h = run 3 1245 99 [l0, l1, none, some (vi s0), l4, l5, l6, l7, l8] [] h) ∧
  (∀ (l0 l1 l3 l4 l5 l6 l7 l8 : Option AV) (s0 : Int32) (w1 : Int32) (h : Hp), run 3 1245 98 [l0, l1, some (vi w1), l3, l4, l5, l6, l7, l8] [vi s0] h = run 3 1245 99 [l0, l1, some (vi w1), some (vi s0), l4, l5, l6, l7, l8] [] h) ∧
  (∀ (l0 l1 l3 l4 l5 l6 l7 l8 : Option AV) (s0 : Int32) (w1 : Option Rf) (h : Hp), run 3 1245 98 [l0, l1, some (vo w1), l3, l4, l5, l6, l7, l8] [vi s0] h = run 3 1245 99 [l0, l1, some (vo w1), some (vi s0), l4, l5, l6, l7, l8] [] h) ∧
  (∀ (l0 l1 l2 l5 l6 l7 l8 : Option AV) (w : Int32) (h : Hp), run 3 1245 99 [l0, l1, l2, none, some (vi w), l5, l6, l7, l8] [] h = run 3 1245 102 [l0, l1, l2, none, some (vi (w + (1 : Int32))), l5, l6, l7, l8] [] h) ∧
  (∀ (l0 l1 l2 l5 l6 l7 l8 : Option AV) (w1 : Int32) (w : Int32) (h : Hp), run 3 1245 99 [l0, l1, l2, some (vi w1), some (vi w), l5, l6, l7, l8] [] h = run 3 1245 102 [l0, l1, l2, some (vi w1), some (vi (w + (1 : Int32))), l5, l6, l7, l8] [] h) ∧
  (∀ (l0 l1 l2 l5 l6 l7 l8 : Option AV) (w1 : Option Rf) (w : Int32) (h : Hp), run 3 1245 99 [l0, l1, l2, some (vo w1), some (vi w), l5, l6, l7, l8] [] h = run 3 1245 102 [l0, l1, l2, some (vo w1), some (vi (w + (1 : Int32))), l5, l6, l7, l8] [] h) ∧
  (∀ (l0 l1 l2 l3 l4 l5 l6 l7 l8 : Option AV) (h : Hp), run 3 1245 102 [l0, l1, l2, l3, l4, l5, l6, l7, l8] [] h = run 3 1245 7 [l0, l1, l2, l3, l4, l5, l6, l7, l8] [] h) ∧
  (∀ (l0 l1 l2 l4 l5 l6 l7 l8 : Option AV) (w : Int32) (h : Hp), run 3 1245 105 [l0, l1, l2, some (vi w), l4, l5, l6, l7, l8] [] h = run 3 1245 106 [l0, l1, l2, some (vi w), l4, l5, l6, l7, l8] [vi w] h) ∧
  (∀ (l0 l1 l2 l3 l4 l5 l6 l7 l8 : Option AV) (s0 : Int32) (h : Hp), run 3 1245 106 [l0, l1, l2, l3, l4, l5, l6, l7, l8] [vi s0] h = some (some (vi s0), h)) := ⟨(fun _ _ _ _ _ _ _ _ _ _ => run_next rfl rfl),
  (fun _ _ _ _ _ _ _ _ s0 _ _ => run_next rfl rfl),
  (fun _ _ _ _ _ _ _ _ _ s0 _ _ => run_next rfl rfl),
  (fun _ _ _ _ _ _ _ _ s0 _ => run_next rfl rfl),
  (fun _ _ _ _ _ _ _ _ s0 _ _ => run_next rfl rfl),
  (fun _ _ _ _ _ _ _ _ s0 _ _ => run_next rfl rfl),
  (fun _ _ _ _ _ _ _ _ _ _ => run_next rfl rfl),
  (fun _ _ _ _ _ _ _ _ s0 _ => run_next rfl rfl),
  (fun _ _ _ _ _ _ _ _ s0 _ _ => run_next rfl rfl),
  (fun _ _ _ _ _ _ _ _ s0 _ _ => run_next rfl rfl),
  (fun _ _ _ _ _ _ _ _ s0 _ _ => run_next rfl rfl),
  (fun _ _ _ _ _ _ _ _ _ s0 _ _ => run_if rfl rfl (run_next rfl) (run_next rfl)),
  (fun _ _ _ _ _ _ _ _ _ _ => run_next rfl rfl),
  (fun _ _ _ _ _ _ _ _ s0 _ => run_next rfl rfl),
  (fun _ _ _ _ _ _ _ _ s0 _ _ => run_next rfl rfl),
  (fun _ _ _ _ _ _ _ _ s0 _ _ => run_next rfl rfl),
  (fun _ _ _ _ _ _ _ _ _ _ => run_next rfl rfl),
  (fun _ _ _ _ _ _ _ _ s0 _ => run_next rfl rfl),
  (fun _ _ _ _ _ _ _ _ s0 _ _ => run_next rfl rfl),
  (fun _ _ _ _ _ _ _ _ s0 _ _ => run_next rfl rfl),
  (fun _ _ _ _ _ _ _ _ s0 _ _ => run_next rfl rfl),
  (fun _ _ _ _ _ _ _ _ _ _ _ _ _ => run_next rfl rfl),
  (fun _ _ _ _ _ _ _ _ s0 _ _ _ => run_next rfl rfl),
  (fun _ _ _ _ _ _ _ _ _ _ _ _ _ _ => run_next rfl rfl),
  (fun _ _ _ _ _ _ _ _ _ s0 _ _ _ => run_next rfl rfl),
  (fun _ _ _ _ _ _ _ _ _ s0 _ _ => run_if rfl rfl (run_next rfl) (run_next rfl)),
  (fun _ _ _ _ _ _ _ _ _ _ => run_next rfl rfl),
  (fun _ _ _ _ _ _ _ _ s0 _ => run_next rfl rfl),
  (fun _ _ _ _ _ _ _ _ s0 _ _ => run_next rfl rfl),
  (fun _ _ _ _ _ _ _ _ s0 _ _ => run_next rfl rfl),
  (fun _ _ _ _ _ _ _ _ _ s0 _ => run_next rfl rfl),
  (fun _ _ _ _ _ _ _ _ _ s0 _ _ => run_if rfl rfl (run_next rfl) (run_next rfl)),
  (fun _ _ _ _ _ _ _ _ _ _ => run_next rfl rfl),
  (fun _ _ _ _ _ _ _ _ s0 _ _ => run_next rfl rfl),
  (fun _ _ _ _ _ _ _ _ _ s0 _ _ => run_next rfl rfl),
  (fun _ _ _ _ _ _ _ _ _ s0 _ => run_next rfl rfl),
  (fun _ _ _ _ _ _ _ _ _ s0 _ _ => run_next rfl rfl),
  (fun _ _ _ _ _ _ _ _ _ s0 _ => run_next rfl rfl),
  (fun _ _ _ _ _ _ _ _ _ s0 _ _ => run_if rfl rfl (run_next rfl) (run_next rfl)),
  (fun _ _ _ _ _ _ _ _ _ _ => run_next rfl rfl),
  (fun _ _ _ _ _ _ _ _ s0 _ _ => run_next rfl rfl),
  (fun _ _ _ _ _ _ _ _ s0 _ _ _ => run_next rfl rfl),
  (fun _ _ _ _ _ _ _ _ _ s0 _ _ _ _ => run_calx rfl rfl (Nat.le_of_ble_eq_true rfl) (Nat.le_of_ble_eq_true rfl) rfl),
  (fun _ _ _ _ _ _ _ _ _ s0 _ => run_next rfl rfl),
  (fun _ _ _ _ _ _ _ _ _ _ => run_next rfl rfl),
  (fun _ _ _ _ _ _ _ _ s0 _ => run_next rfl rfl),
  (fun _ _ _ _ _ _ _ _ s0 _ _ => run_next rfl rfl),
  (fun _ _ _ _ _ _ _ _ s0 _ _ => run_next rfl rfl),
  (fun _ _ _ _ _ _ _ _ _ _ => run_next rfl rfl),
  (fun _ _ _ _ _ _ _ _ s0 _ _ => run_next rfl rfl),
  (fun _ _ _ _ _ _ _ _ _ s0 _ _ => run_if rfl rfl (run_next rfl) (run_next rfl)),
  (fun _ _ _ _ _ _ _ _ _ s0 _ => run_next rfl rfl),
  (fun _ _ _ _ _ _ _ _ _ s0 _ _ => run_next rfl rfl),
  (fun _ _ _ _ _ _ _ _ _ s0 _ => run_next rfl rfl),
  (fun _ _ _ _ _ _ _ _ s0 _ _ _ => run_next rfl rfl),
  (fun _ _ _ _ _ _ _ _ _ s0 _ _ _ => run_next rfl rfl),
  (fun _ _ _ _ _ _ _ _ _ s0 _ _ => run_next rfl rfl),
  (fun _ _ _ _ _ _ _ _ s0 _ => run_next rfl rfl),
  (fun _ _ _ _ _ _ _ _ s0 _ _ => run_next rfl rfl),
  (fun _ _ _ _ _ _ _ _ s0 _ _ => run_next rfl rfl),
  (fun _ _ _ _ _ _ _ _ _ => run_next rfl rfl),
  (fun _ _ _ _ _ _ _ _ _ _ => run_next rfl rfl),
  (fun _ _ _ _ _ _ _ _ _ _ => run_next rfl rfl),
  (fun _ _ _ _ _ _ _ _ _ _ => run_next rfl rfl),
  (fun _ _ _ _ _ _ _ _ _ => run_next rfl rfl),
  (fun _ _ _ _ _ _ _ _ _ _ => run_next rfl rfl),
  (fun _ _ _ _ _ _ _ _ _ _ => run_next rfl rfl),
  (fun _ _ _ _ _ _ _ _ _ _ => run_next rfl rfl),
  (fun _ _ _ _ _ _ _ _ _ _ => run_next rfl rfl),
  (fun _ _ _ _ _ _ _ _ s0 _ => run_next rfl rfl),
  (fun _ _ _ _ _ _ _ _ s0 _ _ => run_next rfl rfl),
  (fun _ _ _ _ _ _ _ _ s0 _ _ => run_next rfl rfl),
  (fun _ _ _ _ _ _ _ _ _ => run_next rfl rfl),
  (fun _ _ _ _ _ _ _ _ _ _ => run_next rfl rfl),
  (fun _ _ _ _ _ _ _ _ _ _ => run_next rfl rfl),
  (fun _ _ _ _ _ _ _ _ _ _ => run_next rfl rfl),
  (fun _ _ _ _ _ _ _ _ _ _ => run_next rfl rfl),
  (fun _ _ _ _ _ _ _ _ _ s0 _ => run_ret rfl rfl)⟩
set_option maxRecDepth 20000 in
theorem x_1245_7 : (∀ (l0 l1 l2 l3 l5 l6 l7 l8 : Option AV) (w : Int32) (h : Hp), run 3 1245 7 [l0, l1, l2, l3, some (vi w), l5, l6, l7, l8] [] h = run 3 1245 9 [l0, l1, l2, l3, some (vi w), l5, l6, l7, l8] [vi w] h) := (fun _ _ _ _ _ _ _ _ _ _ => run_next rfl rfl)
set_option maxRecDepth 20000 in
theorem x_1245_19 : (∀ (l0 l1 l2 l3 l4 l5 l7 l8 : Option AV) (w : Int32) (h : Hp), run 3 1245 19 [l0, l1, l2, l3, l4, l5, some (vi w), l7, l8] [] h = run 3 1245 21 [l0, l1, l2, l3, l4, l5, some (vi w), l7, l8] [vi w] h) := (fun _ _ _ _ _ _ _ _ _ _ => run_next rfl rfl)
set_option maxRecDepth 20000 in
theorem x_1245_36 : (∀ (l0 l1 l2 l3 l4 l5 l6 l8 : Option AV) (w : Int32) (h : Hp), run 3 1245 36 [l0, l1, l2, l3, l4, l5, l6, some (vi w), l8] [] h = run 3 1245 38 [l0, l1, l2, l3, l4, l5, l6, some (vi w), l8] [vi w] h) := (fun _ _ _ _ _ _ _ _ _ _ => run_next rfl rfl)
theorem e_1245 (v : Option Rf) (a0 : Int32) (a1 : Int32) (h : Hp) : call 1245 [vo v, vi a0, vi a1] h = run 3 1245 0 [some (vo v), some (vi a0), some (vi a1), none, none, none, none, none, none] [] h := rfl
set_option maxRecDepth 20000 in
theorem x_1246 : (∀ (l1 l2 l3 : Option AV) (w : Option Rf) (h : Hp), run 4 1246 0 [some (vo w), l1, l2, l3] [] h = run 4 1246 1 [some (vo w), l1, l2, l3] [vo w] h) ∧
  (∀ (l0 l1 l2 l3 : Option AV) (s0 : Option Rf) (h : Hp), run 4 1246 1 [l0, l1, l2, l3] [vo s0] h = run 4 1246 2 [l0, l1, l2, l3] [vi (0 : Int32), vo s0] h) ∧
  (∀ (l0 l1 l2 l3 : Option AV) (s0 : Int32) (o z : Nat) (h : Hp), run 4 1246 2 [l0, l1, l2, l3] [vi s0, vo (some (o, 12, z))] h = run 4 1246 5 [l0, l1, l2, l3] [] (hsI h o 12 s0)) ∧
  (∀ (l1 l2 l3 : Option AV) (w : Option Rf) (h : Hp), run 4 1246 5 [some (vo w), l1, l2, l3] [] h = run 4 1246 6 [some (vo w), l1, l2, l3] [vo w] h) ∧
  (∀ (l0 l2 l3 : Option AV) (s0 : Option Rf) (w : Int32) (h : Hp), run 4 1246 6 [l0, some (vi w), l2, l3] [vo s0] h = run 4 1246 7 [l0, some (vi w), l2, l3] [vi w, vo s0] h) ∧
  (∀ (l0 l1 l2 l3 : Option AV) (s0 : Int32) (o z : Nat) (h : Hp), run 4 1246 7 [l0, l1, l2, l3] [vi s0, vo (some (o, 12, z))] h = (call 1203 [vo (some (o, 12, z)), vi s0] h).bind (fun z => run 4 1246 10 [l0, l1, l2, l3] (z.1.toList ++ []) z.2)) ∧
  (∀ (l0 l1 l2 l3 : Option AV) (s0 : Int32) (h : Hp), run 4 1246 10 [l0, l1, l2, l3] [vi s0] h = if s0 = 0 then run 4 1246 23 [l0, l1, l2, l3] [] h else run 4 1246 13 [l0, l1, l2, l3] [] h) ∧
  (∀ (l0 l1 l3 : Option AV) (w : Int32) (h : Hp), run 4 1246 13 [l0, l1, some (vi w), l3] [] h = run 4 1246 14 [l0, l1, some (vi w), l3] [vi w] h) ∧
  (∀ (l0 l1 l2 l3 : Option AV) (s0 : Int32) (h : Hp), run 4 1246 14 [l0, l1, l2, l3] [vi s0] h = run 4 1246 15 [l0, l1, l2, l3] [vi (0 : Int32), vi s0] h) ∧
  (∀ (l0 l1 l2 l3 : Option AV) (s0 : Int32) (s1 : Int32) (h : Hp), run 4 1246 15 [l0, l1, l2, l3] [vi s0, vi s1] h = run 4 1246 17 [l0, l1, l2, l3] [vi (30 : Int32), vi s0, vi s1] h) ∧
  (∀ (l0 l1 l2 l3 : Option AV) (s0 : Int32) (s1 : Int32) (s2 : Int32) (h : Hp), run 4 1246 17 [l0, l1, l2, l3] [vi s0, vi s1, vi s2] h = (call 1239 [vi s2, vi s1, vi s0] h).bind (fun z => run 4 1246 20 [l0, l1, l2, l3] (z.1.toList ++ []) z.2)) ∧
  (∀ (l0 l1 l2 l3 : Option AV) (s0 : Int32) (h : Hp), run 4 1246 20 [l0, l1, l2, l3] [vi s0] h = run 4 1246 24 [l0, l1, l2, l3] [vi s0] h) ∧
  (∀ (l0 l1 l2 l3 : Option AV) (h : Hp), run 4 1246 23 [l0, l1, l2, l3] [] h = run 4 1246 24 [l0, l1, l2, l3] [vi (-1 : Int32)] h) ∧
  (∀ (l0 l1 l3 : Option AV) (s0 : Int32) (h : Hp), run 4 1246 24 [l0, l1, none, l3] [vi s0] h = run 4 1246 25 [l0, l1, none, some (vi s0)] [] h) ∧
  (∀ (l0 l1 l3 : Option AV) (s0 : Int32) (w1 : Int32) (h : Hp), run 4 1246 24 [l0, l1, some (vi w1), l3] [vi s0] h = run 4 1246 25 [l0, l1, some (vi w1), some (vi s0)] [] h) ∧
  (∀ (l0 l1 l3 : Option AV) (s0 : Int32) (w1 : Option Rf) (h : Hp), run 4 1246 24 [l0, l1, some (vo w1), l3] [vi s0] h = run 4 1246 25 [l0, l1, some (vo w1), some (vi s0)] [] h) ∧
  (∀ (l0 l1 l2 : Option AV) (w : Int32) (h : Hp), run 4 1246 25 [l0, l1, l2, some (vi w)] [] h = run 4 1246 26 [l0, l1, l2, some (vi w)] [vi w] h) ∧
  (∀ (l0 l1 l2 l3 : Option AV) (s0 : Int32) (h : Hp), run 4 1246 26 [l0, l1, l2, l3] [vi s0] h = if 0 ≤ s0 then run 4 1246 37 [l0, l1, l2, l3] [] h else run 4 1246 29 [l0, l1, l2, l3] [] h) ∧
  (∀ (l1 l2 l3 : Option AV) (w : Option Rf) (h : Hp), run 4 1246 29 [some (vo w), l1, l2, l3] [] h = run 4 1246 30 [some (vo w), l1, l2, l3] [vo w] h) ∧
  (∀ (l0 l1 l2 : Option AV) (s0 : Option Rf) (w : Int32) (h : Hp), run 4 1246 30 [l0, l1, l2, some (vi w)] [vo s0] h = run 4 1246 31 [l0, l1, l2, some (vi w)] [vi w, vo s0] h) ∧
  (∀ (l0 l1 l2 l3 : Option AV) (s0 : Int32) (o z : Nat) (h : Hp), run 4 1246 31 [l0, l1, l2, l3] [vi s0, vo (some (o, 12, z))] h = (call 1202 [vo (some (o, 12, z)), vi s0] h).bind (fun z => run 4 1246 34 [l0, l1, l2, l3] (z.1.toList ++ []) z.2)) ∧
  (∀ (l0 l1 l2 l3 : Option AV) (s0 : Int32) (h : Hp), run 4 1246 34 [l0, l1, l2, l3] [vi s0] h = run 4 1246 43 [l0, l1, l2, l3] [vi s0] h) ∧
  (∀ (l1 l2 l3 : Option AV) (w : Option Rf) (h : Hp), run 4 1246 37 [some (vo w), l1, l2, l3] [] h = run 4 1246 38 [some (vo w), l1, l2, l3] [vo w] h) ∧
  (∀ (l0 l2 l3 : Option AV) (s0 : Option Rf) (w : Int32) (h : Hp), run 4 1246 38 [l0, some (vi w), l2, l3] [vo s0] h = run 4 1246 39 [l0, some (vi w), l2, l3] [vi w, vo s0] h) ∧
  (∀ (l0 l1 l3 : Option AV) (s0 : Int32) (s1 : Option Rf) (w : Int32) (h : Hp), run 4 1246 39 [l0, l1, some (vi w), l3] [vi s0, vo s1] h = run 4 1246 40 [l0, l1, some (vi w), l3] [vi w, vi s0, vo s1] h) ∧
  (∀ (l0 l1 l2 l3 : Option AV) (s0 : Int32) (s1 : Int32) (o z : Nat) (h : Hp), run 4 1246 40 [l0, l1, l2, l3] [vi s0, vi s1, vo (some (o, 12, z))] h = (call 1245 [vo (some (o, 12, z)), vi s1, vi s0] h).bind (fun z => run 4 1246 43 [l0, l1, l2, l3] (z.1.toList ++ []) z.2)) ∧
  (∀ (l0 l1 l2 l3 : Option AV) (s0 : Int32) (h : Hp), run 4 1246 43 [l0, l1, l2, l3] [vi s0] h = some (some (vi s0), h)) := ⟨(fun _ _ _ _ _ => run_next rfl rfl),
  (fun _ _ _ _ s0 _ => run_next rfl rfl),
  (fun _ _ _ _ s0 _ _ _ => run_next rfl rfl),
  (fun _ _ _ _ _ => run_next rfl rfl),
  (fun _ _ _ s0 _ _ => run_next rfl rfl),
  (fun _ _ _ _ s0 _ _ _ => run_calx rfl rfl (Nat.le_of_ble_eq_true rfl) (Nat.le_of_ble_eq_true rfl) rfl),
  (fun _ _ _ _ s0 _ => run_if rfl rfl (run_next rfl) (run_next rfl)),
  (fun _ _ _ _ _ => run_next rfl rfl),
  (fun _ _ _ _ s0 _ => run_next rfl rfl),
  (fun _ _ _ _ s0 _ _ => run_next rfl rfl),
  (fun _ _ _ _ s0 _ _ _ => run_calx rfl rfl (Nat.le_of_ble_eq_true rfl) (Nat.le_of_ble_eq_true rfl) rfl),
  (fun _ _ _ _ s0 _ => run_next rfl rfl),
  (fun _ _ _ _ _ => run_next rfl rfl),
  (fun _ _ _ s0 _ => run_next rfl rfl),
  (fun _ _ _ s0 _ _ => run_next rfl rfl),
  (fun _ _ _ s0 _ _ => run_next rfl rfl),
  (fun _ _ _ _ _ => run_next rfl rfl),
  (fun _ _ _ _ s0 _ => run_if rfl rfl (run_next rfl) (run_next rfl)),
  (fun _ _ _ _ _ => run_next rfl rfl),
  (fun _ _ _ s0 _ _ => run_next rfl rfl),
  (fun _ _ _ _ s0 _ _ _ => run_calx rfl rfl (Nat.le_of_ble_eq_true rfl) (Nat.le_of_ble_eq_true rfl) rfl),
  (fun _ _ _ _ s0 _ => run_next rfl rfl),
  (fun _ _ _ _ _ => run_next rfl rfl),
  (fun _ _ _ s0 _ _ => run_next rfl rfl),
  (fun _ _ _ s0 _ _ _ => run_next rfl rfl),
  (fun _ _ _ _ s0 _ _ _ _ => run_calx rfl rfl (Nat.le_of_ble_eq_true rfl) (Nat.le_of_ble_eq_true rfl) rfl),
  (fun _ _ _ _ s0 _ => run_ret rfl rfl)⟩
theorem e_1246 (v : Option Rf) (a0 : Int32) (a1 : Int32) (h : Hp) : call 1246 [vo v, vi a0, vi a1] h = run 4 1246 0 [some (vo v), some (vi a0), some (vi a1), none] [] h := rfl
set_option maxRecDepth 20000 in
theorem x_1247 : (∀ (l1 l2 : Option AV) (w : Option Rf) (h : Hp), run 4 1247 0 [some (vo w), l1, l2] [] h = run 4 1247 1 [some (vo w), l1, l2] [vo w] h) ∧
  (∀ (l0 l1 l2 : Option AV) (s0 : Option Rf) (h : Hp), run 4 1247 1 [l0, l1, l2] [vo s0] h = run 4 1247 2 [l0, l1, l2] [vi (0 : Int32), vo s0] h) ∧
  (∀ (l0 l1 l2 : Option AV) (s0 : Int32) (o z : Nat) (h : Hp), run 4 1247 2 [l0, l1, l2] [vi s0, vo (some (o, 12, z))] h = run 4 1247 5 [l0, l1, l2] [] (hsI h o 12 s0)) ∧
  (∀ (l1 l2 : Option AV) (w : Option Rf) (h : Hp), run 4 1247 5 [some (vo w), l1, l2] [] h = run 4 1247 6 [some (vo w), l1, l2] [vo w] h) ∧
  (∀ (l0 l2 : Option AV) (s0 : Option Rf) (w : Int32) (h : Hp), run 4 1247 6 [l0, some (vi w), l2] [vo s0] h = run 4 1247 7 [l0, some (vi w), l2] [vi w, vo s0] h) ∧
  (∀ (l0 l1 : Option AV) (s0 : Int32) (s1 : Option Rf) (w : Int32) (h : Hp), run 4 1247 7 [l0, l1, some (vi w)] [vi s0, vo s1] h = run 4 1247 8 [l0, l1, some (vi w)] [vi w, vi s0, vo s1] h) ∧
  (∀ (l0 l1 l2 : Option AV) (s0 : Int32) (s1 : Int32) (o z : Nat) (h : Hp), run 4 1247 8 [l0, l1, l2] [vi s0, vi s1, vo (some (o, 12, z))] h = (call 1205 [vo (some (o, 12, z)), vi s1, vi s0] h).bind (fun z => run 4 1247 11 [l0, l1, l2] (z.1.toList ++ []) z.2)) ∧
  (∀ (l0 l1 l2 : Option AV) (s0 : Int32) (h : Hp), run 4 1247 11 [l0, l1, l2] [vi s0] h = if s0 = 0 then run 4 1247 39 [l0, l1, l2] [] h else run 4 1247 14 [l0, l1, l2] [] h) ∧
  (∀ (l1 l2 : Option AV) (w : Option Rf) (h : Hp), run 4 1247 14 [some (vo w), l1, l2] [] h = run 4 1247 15 [some (vo w), l1, l2] [vo w] h) ∧
  (∀ (l1 l2 : Option AV) (s0 : Option Rf) (w : Option Rf) (h : Hp), run 4 1247 15 [some (vo w), l1, l2] [vo s0] h = run 4 1247 16 [some (vo w), l1, l2] [vo w, vo s0] h) ∧
  (∀ (l0 l1 : Option AV) (s0 : Option Rf) (s1 : Option Rf) (w : Int32) (h : Hp), run 4 1247 16 [l0, l1, some (vi w)] [vo s0, vo s1] h = run 4 1247 17 [l0, l1, some (vi w)] [vi w, vo s0, vo s1] h) ∧
  (∀ (l1 l2 : Option AV) (s0 : Int32) (s1 : Option Rf) (s2 : Option Rf) (w : Option Rf) (h : Hp), run 4 1247 17 [some (vo w), l1, l2] [vi s0, vo s1, vo s2] h = run 4 1247 18 [some (vo w), l1, l2] [vo w, vi s0, vo s1, vo s2] h) ∧
  (∀ (l0 l1 l2 : Option AV) (s1 : Int32) (s2 : Option Rf) (s3 : Option Rf) (o z : Nat) (h : Hp), run 4 1247 18 [l0, l1, l2] [vo (some (o, 12, z)), vi s1, vo s2, vo s3] h = run 4 1247 21 [l0, l1, l2] [vi (hI h o 5), vi s1, vo s2, vo s3] h) ∧
  (∀ (l1 l2 : Option AV) (s0 : Int32) (s1 : Int32) (s2 : Option Rf) (s3 : Option Rf) (w : Option Rf) (h : Hp), run 4 1247 21 [some (vo w), l1, l2] [vi s0, vi s1, vo s2, vo s3] h = run 4 1247 22 [some (vo w), l1, l2] [vo w, vi s0, vi s1, vo s2, vo s3] h) ∧
  (∀ (l0 l1 l2 : Option AV) (s1 : Int32) (s2 : Int32) (s3 : Option Rf) (s4 : Option Rf) (o z : Nat) (h : Hp), run 4 1247 22 [l0, l1, l2] [vo (some (o, 12, z)), vi s1, vi s2, vo s3, vo s4] h = run 4 1247 25 [l0, l1, l2] [vi (hI h o 4), vi s1, vi s2, vo s3, vo s4] h) ∧
  (∀ (l0 l1 l2 : Option AV) (s0 : Int32) (s1 : Int32) (s2 : Int32) (s3 : Option Rf) (s4 : Option Rf) (h : Hp), run 4 1247 25 [l0, l1, l2] [vi s0, vi s1, vi s2, vo s3, vo s4] h = run 4 1247 26 [l0, l1, l2] [vi (s1 - s0), vi s2, vo s3, vo s4] h) ∧
  (∀ (l0 l1 l2 : Option AV) (s0 : Int32) (s1 : Int32) (s3 : Option Rf) (o z : Nat) (h : Hp), run 4 1247 26 [l0, l1, l2] [vi s0, vi s1, vo (some (o, 12, z)), vo s3] h = (call 1209 [vo (some (o, 12, z)), vi s1, vi s0] h).bind (fun z => run 4 1247 29 [l0, l1, l2] (z.1.toList ++ [vo s3]) z.2)) ∧
  (∀ (l1 l2 : Option AV) (s0 : Int32) (s1 : Option Rf) (w : Option Rf) (h : Hp), run 4 1247 29 [some (vo w), l1, l2] [vi s0, vo s1] h = run 4 1247 30 [some (vo w), l1, l2] [vo w, vi s0, vo s1] h) ∧
  (∀ (l0 l1 l2 : Option AV) (s1 : Int32) (s2 : Option Rf) (o z : Nat) (h : Hp), run 4 1247 30 [l0, l1, l2] [vo (some (o, 12, z)), vi s1, vo s2] h = run 4 1247 33 [l0, l1, l2] [vi (hI h o 4), vi s1, vo s2] h) ∧
  (∀ (l0 l1 l2 : Option AV) (s0 : Int32) (s1 : Int32) (o z : Nat) (h : Hp), run 4 1247 33 [l0, l1, l2] [vi s0, vi s1, vo (some (o, 12, z))] h = (call 1245 [vo (some (o, 12, z)), vi s1, vi s0] h).bind (fun z => run 4 1247 36 [l0, l1, l2] (z.1.toList ++ []) z.2)) ∧
  (∀ (l0 l1 l2 : Option AV) (s0 : Int32) (h : Hp), run 4 1247 36 [l0, l1, l2] [vi s0] h = run 4 1247 44 [l0, l1, l2] [vi s0] h) ∧
  (∀ (l1 l2 : Option AV) (w : Option Rf) (h : Hp), run 4 1247 39 [some (vo w), l1, l2] [] h = run 4 1247 40 [some (vo w), l1, l2] [vo w] h) ∧
  (∀ (l0 l1 l2 : Option AV) (s0 : Option Rf) (h : Hp), run 4 1247 40 [l0, l1, l2] [vo s0] h = run 4 1247 41 [l0, l1, l2] [vi (-1 : Int32), vo s0] h) ∧
  (∀ (l0 l1 l2 : Option AV) (s0 : Int32) (o z : Nat) (h : Hp), run 4 1247 41 [l0, l1, l2] [vi s0, vo (some (o, 12, z))] h = (call 1202 [vo (some (o, 12, z)), vi s0] h).bind (fun z => run 4 1247 44 [l0, l1, l2] (z.1.toList ++ []) z.2)) ∧
  (∀ (l0 l1 l2 : Option AV) (s0 : Int32) (h : Hp), run 4 1247 44 [l0, l1, l2] [vi s0] h = some (some (vi s0), h)) := ⟨(fun _ _ _ _ => run_next rfl rfl),
  (fun _ _ _ s0 _ => run_next rfl rfl),
  (fun _ _ _ s0 _ _ _ => run_next rfl rfl),
  (fun _ _ _ _ => run_next rfl rfl),
  (fun _ _ s0 _ _ => run_next rfl rfl),
  (fun _ _ s0 _ _ _ => run_next rfl rfl),
  (fun _ _ _ s0 _ _ _ _ => run_calx rfl rfl (Nat.le_of_ble_eq_true rfl) (Nat.le_of_ble_eq_true rfl) rfl),
  (fun _ _ _ s0 _ => run_if rfl rfl (run_next rfl) (run_next rfl)),
  (fun _ _ _ _ => run_next rfl rfl),
  (fun _ _ s0 _ _ => run_next rfl rfl),
  (fun _ _ s0 _ _ _ => run_next rfl rfl),
  (fun _ _ s0 _ _ _ _ => run_next rfl rfl),
  (fun _ _ _ _ _ _ _ _ _ => run_next rfl rfl),
  (fun _ _ s0 _ _ _ _ _ => run_next rfl rfl),
  (fun _ _ _ _ _ _ _ _ _ _ => run_next rfl rfl),
  (fun _ _ _ s0 _ _ _ _ _ => run_next rfl rfl),
  (fun _ _ _ s0 _ _ _ _ _ => run_calx rfl rfl (Nat.le_of_ble_eq_true rfl) (Nat.le_of_ble_eq_true rfl) rfl),
  (fun _ _ s0 _ _ _ => run_next rfl rfl),
  (fun _ _ _ _ _ _ _ _ => run_next rfl rfl),
  (fun _ _ _ s0 _ _ _ _ => run_calx rfl rfl (Nat.le_of_ble_eq_true rfl) (Nat.le_of_ble_eq_true rfl) rfl),
  (fun _ _ _ s0 _ => run_next rfl rfl),
  (fun _ _ _ _ => run_next rfl rfl),
  (fun _ _ _ s0 _ => run_next rfl rfl),
  (fun _ _ _ s0 _ _ _ => run_calx rfl rfl (Nat.le_of_ble_eq_true rfl) (Nat.le_of_ble_eq_true rfl) rfl),
  (fun _ _ _ s0 _ => run_ret rfl rfl)⟩
theorem e_1247 (v : Option Rf) (a0 : Int32) (a1 : Int32) (h : Hp) : call 1247 [vo v, vi a0, vi a1] h = run 4 1247 0 [some (vo v), some (vi a0), some (vi a1)] [] h := rfl
set_option maxRecDepth 20000 in
theorem x_1248 : (∀ (l0 l1 l2 l3 l4 l5 : Option AV) (h : Hp), run 0 1248 0 [l0, l1, l2, l3, l4, l5] [] h = run 0 1248 1 [l0, l1, l2, l3, l4, l5] [vi (1 : Int32)] h) ∧
  (∀ (l0 l1 l2 l4 l5 : Option AV) (s0 : Int32) (h : Hp), run 0 1248 1 [l0, l1, l2, none, l4, l5] [vi s0] h = run 0 1248 3 [l0, l1, l2, none, some (vi s0), l5] [] h) ∧
  (∀ (l0 l1 l2 l4 l5 : Option AV) (s0 : Int32) (w1 : Int32) (h : Hp), run 0 1248 1 [l0, l1, l2, some (vi w1), l4, l5] [vi s0] h = run 0 1248 3 [l0, l1, l2, some (vi w1), some (vi s0), l5] [] h) ∧
  (∀ (l0 l1 l2 l4 l5 : Option AV) (s0 : Int32) (w1 : Option Rf) (h : Hp), run 0 1248 1 [l0, l1, l2, some (vo w1), l4, l5] [vi s0] h = run 0 1248 3 [l0, l1, l2, some (vo w1), some (vi s0), l5] [] h) ∧
  (∀ (l0 l1 l2 l3 l4 l5 : Option AV) (h : Hp), run 0 1248 3 [l0, l1, l2, l3, l4, l5] [] h = run 0 1248 4 [l0, l1, l2, l3, l4, l5] [vi (0 : Int32)] h) ∧
  (∀ (l0 l1 l2 l3 l5 : Option AV) (s0 : Int32) (h : Hp), run 0 1248 4 [l0, l1, l2, l3, none, l5] [vi s0] h = run 0 1248 6 [l0, l1, l2, l3, none, some (vi s0)] [] h) ∧
  (∀ (l0 l1 l2 l3 l5 : Option AV) (s0 : Int32) (w1 : Int32) (h : Hp), run 0 1248 4 [l0, l1, l2, l3, some (vi w1), l5] [vi s0] h = run 0 1248 6 [l0, l1, l2, l3, some (vi w1), some (vi s0)] [] h) ∧
  (∀ (l0 l1 l2 l3 l5 : Option AV) (s0 : Int32) (w1 : Option Rf) (h : Hp), run 0 1248 4 [l0, l1, l2, l3, some (vo w1), l5] [vi s0] h = run 0 1248 6 [l0, l1, l2, l3, some (vo w1), some (vi s0)] [] h) ∧
  (∀ (l1 l2 l3 l4 l5 : Option AV) (s0 : Int32) (w : Option Rf) (h : Hp), run 0 1248 8 [some (vo w), l1, l2, l3, l4, l5] [vi s0] h = run 0 1248 9 [some (vo w), l1, l2, l3, l4, l5] [vo w, vi s0] h) ∧
  (∀ (l0 l1 l2 l3 l4 l5 : Option AV) (s1 : Int32) (o z : Nat) (h : Hp), run 0 1248 9 [l0, l1, l2, l3, l4, l5] [vo (some (o, 12, z)), vi s1] h = run 0 1248 12 [l0, l1, l2, l3, l4, l5] [vi (hI h o 36), vi s1] h) ∧
  (∀ (l0 l1 l2 l3 l4 l5 : Option AV) (s0 : Int32) (s1 : Int32) (h : Hp), run 0 1248 12 [l0, l1, l2, l3, l4, l5] [vi s0, vi s1] h = if s0 ≤ s1 then run 0 1248 59 [l0, l1, l2, l3, l4, l5] [] h else run 0 1248 15 [l0, l1, l2, l3, l4, l5] [] h) ∧
  (∀ (l0 l1 l2 l4 l5 : Option AV) (w : Int32) (h : Hp), run 0 1248 15 [l0, l1, l2, some (vi w), l4, l5] [] h = run 0 1248 16 [l0, l1, l2, some (vi w), l4, l5] [vi w] h) ∧
  (∀ (l0 l1 l2 l3 l4 l5 : Option AV) (s0 : Int32) (h : Hp), run 0 1248 16 [l0, l1, l2, l3, l4, l5] [vi s0] h = if s0 = 0 then run 0 1248 59 [l0, l1, l2, l3, l4, l5] [] h else run 0 1248 19 [l0, l1, l2, l3, l4, l5] [] h) ∧
  (∀ (l0 l1 l2 l3 l5 : Option AV) (w : Int32) (h : Hp), run 0 1248 19 [l0, l1, l2, l3, some (vi w), l5] [] h = run 0 1248 21 [l0, l1, l2, l3, some (vi w), l5] [vi w] h) ∧
  (∀ (l0 l1 l2 l3 l4 l5 : Option AV) (s0 : Int32) (h : Hp), run 0 1248 21 [l0, l1, l2, l3, l4, l5] [vi s0] h = if s0 = 0 then run 0 1248 50 [l0, l1, l2, l3, l4, l5] [] h else run 0 1248 24 [l0, l1, l2, l3, l4, l5] [] h) ∧
  (∀ (l1 l2 l3 l4 l5 : Option AV) (w : Option Rf) (h : Hp), run 0 1248 24 [some (vo w), l1, l2, l3, l4, l5] [] h = run 0 1248 25 [some (vo w), l1, l2, l3, l4, l5] [vo w] h) ∧
  (∀ (l0 l1 l2 l3 l4 l5 : Option AV) (o z : Nat) (h : Hp), run 0 1248 25 [l0, l1, l2, l3, l4, l5] [vo (some (o, 12, z))] h = run 0 1248 28 [l0, l1, l2, l3, l4, l5] [vo (hR h o 34)] h) ∧
  (∀ (l0 l1 l2 l3 l4 : Option AV) (s0 : Option Rf) (w : Int32) (h : Hp), run 0 1248 28 [l0, l1, l2, l3, l4, some (vi w)] [vo s0] h = run 0 1248 30 [l0, l1, l2, l3, l4, some (vi w)] [vi w, vo s0] h) ∧
  (∀ (l0 l1 l2 l3 l4 l5 : Option AV) (s0 : Int32) (o z : Nat) (h : Hp), run 0 1248 30 [l0, l1, l2, l3, l4, l5] [vi s0, vo (some (o, 13, z))] h = if s0 < 0 ∨ z ≤ s0.toNatClampNeg then none else run 0 1248 31 [l0, l1, l2, l3, l4, l5] [vi (hI h o s0.toNatClampNeg)] h) ∧
  (∀ (l0 l2 l3 l4 l5 : Option AV) (s0 : Int32) (w : Int32) (h : Hp), run 0 1248 31 [l0, some (vi w), l2, l3, l4, l5] [vi s0] h = run 0 1248 32 [l0, some (vi w), l2, l3, l4, l5] [vi w, vi s0] h) ∧
  (∀ (l0 l1 l2 l3 l4 l5 : Option AV) (s0 : Int32) (s1 : Int32) (h : Hp), run 0 1248 32 [l0, l1, l2, l3, l4, l5] [vi s0, vi s1] h = if s1 = s0 then run 0 1248 35 [l0, l1, l2, l3, l4, l5] [] h else run 0 1248 46 [l0, l1, l2, l3, l4, l5] [] h) ∧
  (∀ (l1 l2 l3 l4 l5 : Option AV) (w : Option Rf) (h : Hp), run 0 1248 35 [some (vo w), l1, l2, l3, l4, l5] [] h = run 0 1248 36 [some (vo w), l1, l2, l3, l4, l5] [vo w] h) ∧
  (∀ (l0 l1 l2 l3 l4 l5 : Option AV) (o z : Nat) (h : Hp), run 0 1248 36 [l0, l1, l2, l3, l4, l5] [vo (some (o, 12, z))] h = run 0 1248 39 [l0, l1, l2, l3, l4, l5] [vo (hR h o 35)] h) ∧
  (∀ (l0 l1 l2 l3 l4 : Option AV) (s0 : Option Rf) (w : Int32) (h : Hp), run 0 1248 39 [l0, l1, l2, l3, l4, some (vi w)] [vo s0] h = run 0 1248 41 [l0, l1, l2, l3, l4, some (vi w)] [vi w, vo s0] h) ∧
  (∀ (l0 l1 l2 l3 l4 l5 : Option AV) (s0 : Int32) (o z : Nat) (h : Hp), run 0 1248 41 [l0, l1, l2, l3, l4, l5] [vi s0, vo (some (o, 13, z))] h = if s0 < 0 ∨ z ≤ s0.toNatClampNeg then none else run 0 1248 42 [l0, l1, l2, l3, l4, l5] [vi (hI h o s0.toNatClampNeg)] h) ∧
  (∀ (l0 l1 l3 l4 l5 : Option AV) (s0 : Int32) (w : Int32) (h : Hp), run 0 1248 42 [l0, l1, some (vi w), l3, l4, l5] [vi s0] h = run 0 1248 43 [l0, l1, some (vi w), l3, l4, l5] [vi w, vi s0] h) ∧
  (∀ (l0 l1 l2 l3 l4 l5 : Option AV) (s0 : Int32) (s1 : Int32) (h : Hp), run 0 1248 43 [l0, l1, l2, l3, l4, l5] [vi s0, vi s1] h = if s1 = s0 then run 0 1248 46 [l0, l1, l2, l3, l4, l5] [] h else run 0 1248 50 [l0, l1, l2, l3, l4, l5] [] h) ∧
  (∀ (l0 l1 l2 l3 l4 l5 : Option AV) (h : Hp), run 0 1248 46 [l0, l1, l2, l3, l4, l5] [] h = run 0 1248 47 [l0, l1, l2, l3, l4, l5] [vi (1 : Int32)] h) ∧
  (∀ (l0 l1 l2 l3 l4 l5 : Option AV) (s0 : Int32) (h : Hp), run 0 1248 47 [l0, l1, l2, l3, l4, l5] [vi s0] h = run 0 1248 51 [l0, l1, l2, l3, l4, l5] [vi s0] h) ∧
  (∀ (l0 l1 l2 l3 l4 l5 : Option AV) (h : Hp), run 0 1248 50 [l0, l1, l2, l3, l4, l5] [] h = run 0 1248 51 [l0, l1, l2, l3, l4, l5] [vi (0 : Int32)] h) ∧
  (∀ (l0 l1 l2 l4 l5 : Option AV) (s0 : Int32) (h : Hp), run 0 1248 51 [l0, l1, l2, none, l4, l5] [vi s0] h = run 0 1248 53 [l0, l1, l2, none, some (vi s0), l5] [] h) ∧
  (∀ (l0 l1 l2 l4 l5 : Option AV) (s0 : Int32) (w1 : Int32) (h : Hp), run 0 1248 51 [l0, l1, l2, some (vi w1), l4, l5] [vi s0] h = run 0 1248 53 [l0, l1, l2, some (vi w1), some (vi s0), l5] [] h) ∧
  (∀ (l0 l1 l2 l4 l5 : Option AV) (s0 : Int32) (w1 : Option Rf) (h : Hp), run 0 1248 51 [l0, l1, l2, some (vo w1), l4, l5] [vi s0] h = run 0 1248 53 [l0, l1, l2, some (vo w1), some (vi s0), l5] [] h) ∧
  (∀ (l0 l1 l2 l3 : Option AV) (w : Int32) (h : Hp), run 0 1248 53 [l0, l1, l2, l3, none, some (vi w)] [] h = run 0 1248 56 [l0, l1, l2, l3, none, some (vi (w + (1 : Int32)))] [] h) ∧
  (∀ (l0 l1 l2 l3 : Option AV) (w1 : Int32) (w : Int32) (h : Hp), run 0 1248 53 [l0, l1, l2, l3, some (vi w1), some (vi w)] [] h = run 0 1248 56 [l0, l1, l2, l3, some (vi w1), some (vi (w + (1 : Int32)))] [] h) ∧
  (∀ (l0 l1 l2 l3 : Option AV) (w1 : Option Rf) (w : Int32) (h : Hp), run 0 1248 53 [l0, l1, l2, l3, some (vo w1), some (vi w)] [] h = run 0 1248 56 [l0, l1, l2, l3, some (vo w1), some (vi (w + (1 : Int32)))] [] h) ∧
  (∀ (l0 l1 l2 l3 l4 l5 : Option AV) (h : Hp), run 0 1248 56 [l0, l1, l2, l3, l4, l5] [] h = run 0 1248 6 [l0, l1, l2, l3, l4, l5] [] h) ∧
  (∀ (l0 l1 l2 l3 l5 : Option AV) (w : Int32) (h : Hp), run 0 1248 59 [l0, l1, l2, l3, some (vi w), l5] [] h = run 0 1248 61 [l0, l1, l2, l3, some (vi w), l5] [vi w] h) ∧
  (∀ (l0 l1 l2 l3 l4 l5 : Option AV) (s0 : Int32) (h : Hp), run 0 1248 61 [l0, l1, l2, l3, l4, l5] [vi s0] h = if am_isd s0 = true then some (some (vi s0), h) else none) := ⟨(fun _ _ _ _ _ _ _ => run_next rfl rfl),
  (fun _ _ _ _ _ s0 _ => run_next rfl rfl),
  (fun _ _ _ _ _ s0 _ _ => run_next rfl rfl),
  (fun _ _ _ _ _ s0 _ _ => run_next rfl rfl),
  (fun _ _ _ _ _ _ _ => run_next rfl rfl),
  (fun _ _ _ _ _ s0 _ => run_next rfl rfl),
  (fun _ _ _ _ _ s0 _ _ => run_next rfl rfl),
  (fun _ _ _ _ _ s0 _ _ => run_next rfl rfl),
  (fun _ _ _ _ _ s0 _ _ => run_next rfl rfl),
  (fun _ _ _ _ _ _ _ _ _ _ => run_next rfl rfl),
  (fun _ _ _ _ _ _ s0 _ _ => run_if rfl rfl (run_next rfl) (run_next rfl)),
  (fun _ _ _ _ _ _ _ => run_next rfl rfl),
  (fun _ _ _ _ _ _ s0 _ => run_if rfl rfl (run_next rfl) (run_next rfl)),
  (fun _ _ _ _ _ _ _ => run_next rfl rfl),
  (fun _ _ _ _ _ _ s0 _ => run_if rfl rfl (run_next rfl) (run_next rfl)),
  (fun _ _ _ _ _ _ _ => run_next rfl rfl),
  (fun _ _ _ _ _ _ _ _ _ => run_next rfl rfl),
  (fun _ _ _ _ _ s0 _ _ => run_next rfl rfl),
  (fun _ _ _ _ _ _ s0 _ _ _ => run_if rfl rfl (run_fail rfl) (run_next rfl)),
  (fun _ _ _ _ _ s0 _ _ => run_next rfl rfl),
  (fun _ _ _ _ _ _ s0 _ _ => run_if rfl rfl (run_next rfl) (run_next rfl)),
  (fun _ _ _ _ _ _ _ => run_next rfl rfl),
  (fun _ _ _ _ _ _ _ _ _ => run_next rfl rfl),
  (fun _ _ _ _ _ s0 _ _ => run_next rfl rfl),
  (fun _ _ _ _ _ _ s0 _ _ _ => run_if rfl rfl (run_fail rfl) (run_next rfl)),
  (fun _ _ _ _ _ s0 _ _ => run_next rfl rfl),
  (fun _ _ _ _ _ _ s0 _ _ => run_if rfl rfl (run_next rfl) (run_next rfl)),
  (fun _ _ _ _ _ _ _ => run_next rfl rfl),
  (fun _ _ _ _ _ _ s0 _ => run_next rfl rfl),
  (fun _ _ _ _ _ _ _ => run_next rfl rfl),
  (fun _ _ _ _ _ s0 _ => run_next rfl rfl),
  (fun _ _ _ _ _ s0 _ _ => run_next rfl rfl),
  (fun _ _ _ _ _ s0 _ _ => run_next rfl rfl),
  (fun _ _ _ _ _ _ => run_next rfl rfl),
  (fun _ _ _ _ _ _ _ => run_next rfl rfl),
  (fun _ _ _ _ _ _ _ => run_next rfl rfl),
  (fun _ _ _ _ _ _ _ => run_next rfl rfl),
  (fun _ _ _ _ _ _ _ => run_next rfl rfl),
  (fun _ _ _ _ _ _ s0 _ => run_ifz rfl rfl (by simp) (run_ret rfl) (run_fail rfl))⟩
set_option maxRecDepth 20000 in
theorem x_1248_6 : (∀ (l0 l1 l2 l3 l4 : Option AV) (w : Int32) (h : Hp), run 0 1248 6 [l0, l1, l2, l3, l4, some (vi w)] [] h = run 0 1248 8 [l0, l1, l2, l3, l4, some (vi w)] [vi w] h) := (fun _ _ _ _ _ _ _ => run_next rfl rfl)
theorem e_1248 (v : Option Rf) (a0 : Int32) (a1 : Int32) (a2 : Int32) (h : Hp) : call 1248 [vo v, vi a0, vi a1, vi a2] h = run 0 1248 0 [some (vo v), some (vi a0), some (vi a1), some (vi a2), none, none] [] h := rfl
