set_option maxRecDepth 20000 in
theorem x_400 : (∀  (w : Option Rf) (h : Hp), run 1 400 0 [some (vo w)] [] h = run 1 400 1 [some (vo w)] [vo w] h) ∧
  (∀ (l0 : Option AV) (w : Rf) (h : Hp), run 1 400 1 [l0] [vo (some w)] h = run 1 400 4 [l0] [] h) ∧
  (∀  (w : Option Rf) (h : Hp), run 1 400 4 [some (vo w)] [] h = run 1 400 5 [some (vo w)] [vo w] h) ∧
  (∀ (l0 : Option AV) (s0 : Option Rf) (h : Hp), run 1 400 5 [l0] [vo s0] h = run 1 400 7 [l0] [vi (80 : Int32), vo s0] h) ∧
  (∀ (l0 : Option AV) (s0 : Int32) (s1 : Option Rf) (h : Hp), run 1 400 7 [l0] [vi s0, vo s1] h = if s0 < 0 ∨ 100000 ≤ s0.toNatClampNeg then none else run 1 400 9 [l0] [vo (some (h.1.1, 13, s0.toNatClampNeg)), vo s1] (hmk h s0.toNatClampNeg)) ∧
  (∀ (l0 : Option AV) (s0 : Option Rf) (o z : Nat) (h : Hp), run 1 400 9 [l0] [vo s0, vo (some (o, 4, z))] h = run 1 400 12 [l0] [] (hsR h o 1 s0)) ∧
  (∀  (w : Option Rf) (h : Hp), run 1 400 12 [some (vo w)] [] h = run 1 400 13 [some (vo w)] [vo w] h) ∧
  (∀ (l0 : Option AV) (o z : Nat) (h : Hp), run 1 400 13 [l0] [vo (some (o, 4, z))] h = (call 401 [vo (some (o, 4, z))] h).bind (fun z => run 1 400 16 [l0] (z.1.toList ++ []) z.2)) ∧
  (∀ (l0 : Option AV) (h : Hp), run 1 400 16 [l0] [] h = some (none, h)) := ⟨(fun _ _ => run_next rfl rfl),
  (fun _ _ _ => run_next rfl rfl),
  (fun _ _ => run_next rfl rfl),
  (fun _ s0 _ => run_next rfl rfl),
  (fun _ s0 _ _ => run_if rfl rfl (run_fail rfl) (run_next rfl)),
  (fun _ s0 _ _ _ => run_next rfl rfl),
  (fun _ _ => run_next rfl rfl),
  (fun _ _ _ _ => run_calx rfl rfl (Nat.le_of_ble_eq_true rfl) (Nat.le_of_ble_eq_true rfl) rfl),
  (fun _ _ => run_ret rfl rfl)⟩
theorem e_400 (v : Option Rf) (h : Hp) : call 400 [vo v] h = run 1 400 0 [some (vo v)] [] h := rfl
set_option maxRecDepth 20000 in
theorem x_401 : (∀  (w : Option Rf) (h : Hp), run 0 401 0 [some (vo w)] [] h = run 0 401 1 [some (vo w)] [vo w] h) ∧
  (∀ (l0 : Option AV) (s0 : Option Rf) (h : Hp), run 0 401 1 [l0] [vo s0] h = run 0 401 2 [l0] [vi (0 : Int32), vo s0] h) ∧
  (∀ (l0 : Option AV) (s0 : Int32) (o z : Nat) (h : Hp), run 0 401 2 [l0] [vi s0, vo (some (o, 4, z))] h = run 0 401 5 [l0] [] (hsI h o 0 s0)) ∧
  (∀  (w : Option Rf) (h : Hp), run 0 401 5 [some (vo w)] [] h = run 0 401 6 [some (vo w)] [vo w] h) ∧
  (∀ (l0 : Option AV) (s0 : Option Rf) (h : Hp), run 0 401 6 [l0] [vo s0] h = run 0 401 7 [l0] [vi (0 : Int32), vo s0] h) ∧
  (∀ (l0 : Option AV) (s0 : Int32) (o z : Nat) (h : Hp), run 0 401 7 [l0] [vi s0, vo (some (o, 4, z))] h = run 0 401 10 [l0] [] (hsI h o 2 s0)) ∧
  (∀ (l0 : Option AV) (h : Hp), run 0 401 10 [l0] [] h = some (none, h)) := ⟨(fun _ _ => run_next rfl rfl),
  (fun _ s0 _ => run_next rfl rfl),
  (fun _ s0 _ _ _ => run_next rfl rfl),
  (fun _ _ => run_next rfl rfl),
  (fun _ s0 _ => run_next rfl rfl),
  (fun _ s0 _ _ _ => run_next rfl rfl),
  (fun _ _ => run_ret rfl rfl)⟩
theorem e_401 (v : Option Rf) (h : Hp) : call 401 [vo v] h = run 0 401 0 [some (vo v)] [] h := rfl
set_option maxRecDepth 20000 in
theorem x_402 : (∀  (w : Option Rf) (h : Hp), run 0 402 0 [some (vo w)] [] h = run 0 402 1 [some (vo w)] [vo w] h) ∧
  (∀ (l0 : Option AV) (o z : Nat) (h : Hp), run 0 402 1 [l0] [vo (some (o, 4, z))] h = run 0 402 4 [l0] [vi (hI h o 0)] h) ∧
  (∀ (s0 : Int32) (w : Option Rf) (h : Hp), run 0 402 4 [some (vo w)] [vi s0] h = run 0 402 5 [some (vo w)] [vo w, vi s0] h) ∧
  (∀ (l0 : Option AV) (s1 : Int32) (o z : Nat) (h : Hp), run 0 402 5 [l0] [vo (some (o, 4, z)), vi s1] h = run 0 402 8 [l0] [vo (hR h o 1), vi s1] h) ∧
  (∀ (l0 : Option AV) (s1 : Int32) (o z : Nat) (h : Hp), run 0 402 8 [l0] [vo (some (o, 13, z)), vi s1] h = run 0 402 9 [l0] [vi (Int32.ofNat z), vi s1] h) ∧
  (∀ (l0 : Option AV) (s1 : Int32) (o z : Nat) (h : Hp), run 0 402 8 [l0] [vo (some (o, 14, z)), vi s1] h = run 0 402 9 [l0] [vi (Int32.ofNat z), vi s1] h) ∧
  (∀ (l0 : Option AV) (s1 : Int32) (o z : Nat) (h : Hp), run 0 402 8 [l0] [vo (some (o, 15, z)), vi s1] h = run 0 402 9 [l0] [vi (Int32.ofNat z), vi s1] h) ∧
  (∀ (l0 : Option AV) (s0 : Int32) (s1 : Int32) (h : Hp), run 0 402 9 [l0] [vi s0, vi s1] h = if s1 < s0 then run 0 402 16 [l0] [] h else run 0 402 12 [l0] [] h) ∧
  (∀ (l0 : Option AV) (h : Hp), run 0 402 12 [l0] [] h = run 0 402 13 [l0] [vi (1 : Int32)] h) ∧
  (∀ (l0 : Option AV) (s0 : Int32) (h : Hp), run 0 402 13 [l0] [vi s0] h = run 0 402 17 [l0] [vi s0] h) ∧
  (∀ (l0 : Option AV) (h : Hp), run 0 402 16 [l0] [] h = run 0 402 17 [l0] [vi (0 : Int32)] h) ∧
  (∀ (l0 : Option AV) (s0 : Int32) (h : Hp), run 0 402 17 [l0] [vi s0] h = if am_isd s0 = true then some (some (vi s0), h) else none) := ⟨(fun _ _ => run_next rfl rfl),
  (fun _ _ _ _ => run_next rfl rfl),
  (fun s0 _ _ => run_next rfl rfl),
  (fun _ _ _ _ _ => run_next rfl rfl),
  (fun _ _ _ _ _ => run_next rfl rfl),
  (fun _ _ _ _ _ => run_next rfl rfl),
  (fun _ _ _ _ _ => run_next rfl rfl),
  (fun _ s0 _ _ => run_if rfl rfl (run_next rfl) (run_next rfl)),
  (fun _ _ => run_next rfl rfl),
  (fun _ s0 _ => run_next rfl rfl),
  (fun _ _ => run_next rfl rfl),
  (fun _ s0 _ => run_ifz rfl rfl (by simp) (run_ret rfl) (run_fail rfl))⟩
theorem e_402 (v : Option Rf) (h : Hp) : call 402 [vo v] h = run 0 402 0 [some (vo v)] [] h := rfl
set_option maxRecDepth 20000 in
theorem x_403 : (∀ (l1 : Option AV) (w : Option Rf) (h : Hp), run 1 403 0 [some (vo w), l1] [] h = run 1 403 1 [some (vo w), l1] [vo w] h) ∧
  (∀ (l0 l1 : Option AV) (o z : Nat) (h : Hp), run 1 403 1 [l0, l1] [vo (some (o, 4, z))] h = (call 402 [vo (some (o, 4, z))] h).bind (fun z => run 1 403 4 [l0, l1] (z.1.toList ++ []) z.2)) ∧
  (∀ (l0 l1 : Option AV) (s0 : Int32) (h : Hp), run 1 403 4 [l0, l1] [vi s0] h = if s0 = 0 then run 1 403 7 [l0, l1] [] h else run 1 403 27 [l0, l1] [] h) ∧
  (∀ (l1 : Option AV) (w : Option Rf) (h : Hp), run 1 403 7 [some (vo w), l1] [] h = run 1 403 8 [some (vo w), l1] [vo w] h) ∧
  (∀ (l0 l1 : Option AV) (o z : Nat) (h : Hp), run 1 403 8 [l0, l1] [vo (some (o, 4, z))] h = run 1 403 11 [l0, l1] [vo (hR h o 1)] h) ∧
  (∀ (l1 : Option AV) (s0 : Option Rf) (w : Option Rf) (h : Hp), run 1 403 11 [some (vo w), l1] [vo s0] h = run 1 403 12 [some (vo w), l1] [vo w, vo s0] h) ∧
  (∀ (l0 l1 : Option AV) (s1 : Option Rf) (o z : Nat) (h : Hp), run 1 403 12 [l0, l1] [vo (some (o, 4, z)), vo s1] h = run 1 403 15 [l0, l1] [vi (hI h o 0), vo s1] h) ∧
  (∀ (l0 : Option AV) (s0 : Int32) (s1 : Option Rf) (w : Int32) (h : Hp), run 1 403 15 [l0, some (vi w)] [vi s0, vo s1] h = run 1 403 16 [l0, some (vi w)] [vi w, vi s0, vo s1] h) ∧
  (∀ (l0 l1 : Option AV) (s0 : Int32) (s1 : Int32) (o z : Nat) (h : Hp), run 1 403 16 [l0, l1] [vi s0, vi s1, vo (some (o, 13, z))] h = if s1 < 0 ∨ z ≤ s1.toNatClampNeg then none else run 1 403 17 [l0, l1] [] (hsI h o s1.toNatClampNeg s0)) ∧
  (∀ (l1 : Option AV) (w : Option Rf) (h : Hp), run 1 403 17 [some (vo w), l1] [] h = run 1 403 18 [some (vo w), l1] [vo w] h) ∧
  (∀ (l0 l1 : Option AV) (s0 : Option Rf) (h : Hp), run 1 403 18 [l0, l1] [vo s0] h = run 1 403 19 [l0, l1] [vo s0, vo s0] h) ∧
  (∀ (l0 l1 : Option AV) (s1 : Option Rf) (o z : Nat) (h : Hp), run 1 403 19 [l0, l1] [vo (some (o, 4, z)), vo s1] h = run 1 403 22 [l0, l1] [vi (hI h o 0), vo s1] h) ∧
  (∀ (l0 l1 : Option AV) (s0 : Int32) (s1 : Option Rf) (h : Hp), run 1 403 22 [l0, l1] [vi s0, vo s1] h = run 1 403 23 [l0, l1] [vi (1 : Int32), vi s0, vo s1] h) ∧
  (∀ (l0 l1 : Option AV) (s0 : Int32) (s1 : Int32) (s2 : Option Rf) (h : Hp), run 1 403 23 [l0, l1] [vi s0, vi s1, vo s2] h = run 1 403 24 [l0, l1] [vi (s1 + s0), vo s2] h) ∧
  (∀ (l0 l1 : Option AV) (s0 : Int32) (o z : Nat) (h : Hp), run 1 403 24 [l0, l1] [vi s0, vo (some (o, 4, z))] h = run 1 403 27 [l0, l1] [] (hsI h o 0 s0)) ∧
  (∀ (l1 : Option AV) (w : Option Rf) (h : Hp), run 1 403 27 [some (vo w), l1] [] h = run 1 403 28 [some (vo w), l1] [vo w] h) ∧
  (∀ (l0 l1 : Option AV) (o z : Nat) (h : Hp), run 1 403 28 [l0, l1] [vo (some (o, 4, z))] h = run 1 403 31 [l0, l1] [vi (hI h o 0)] h) ∧
  (∀ (l0 l1 : Option AV) (s0 : Int32) (h : Hp), run 1 403 31 [l0, l1] [vi s0] h = some (some (vi s0), h)) := ⟨(fun _ _ _ => run_next rfl rfl),
  (fun _ _ _ _ _ => run_calx rfl rfl (Nat.le_of_ble_eq_true rfl) (Nat.le_of_ble_eq_true rfl) rfl),
  (fun _ _ s0 _ => run_if rfl rfl (run_next rfl) (run_next rfl)),
  (fun _ _ _ => run_next rfl rfl),
  (fun _ _ _ _ _ => run_next rfl rfl),
  (fun _ s0 _ _ => run_next rfl rfl),
  (fun _ _ _ _ _ _ => run_next rfl rfl),
  (fun _ s0 _ _ _ => run_next rfl rfl),
  (fun _ _ s0 _ _ _ _ => run_if rfl rfl (run_fail rfl) (run_next rfl)),
  (fun _ _ _ => run_next rfl rfl),
  (fun _ _ s0 _ => run_next rfl rfl),
  (fun _ _ _ _ _ _ => run_next rfl rfl),
  (fun _ _ s0 _ _ => run_next rfl rfl),
  (fun _ _ s0 _ _ _ => run_next rfl rfl),
  (fun _ _ s0 _ _ _ => run_next rfl rfl),
  (fun _ _ _ => run_next rfl rfl),
  (fun _ _ _ _ _ => run_next rfl rfl),
  (fun _ _ s0 _ => run_ret rfl rfl)⟩
theorem e_403 (v : Option Rf) (a0 : Int32) (h : Hp) : call 403 [vo v, vi a0] h = run 1 403 0 [some (vo v), some (vi a0)] [] h := rfl
set_option maxRecDepth 20000 in
theorem x_404 : (∀ (l1 : Option AV) (w : Option Rf) (h : Hp), run 3 404 0 [some (vo w), l1] [] h = run 3 404 1 [some (vo w), l1] [vo w] h) ∧
  (∀ (l0 l1 : Option AV) (s0 : Option Rf) (h : Hp), run 3 404 1 [l0, l1] [vo s0] h = run 3 404 2 [l0, l1] [vi (0 : Int32), vo s0] h) ∧
  (∀ (l0 l1 : Option AV) (s0 : Int32) (o z : Nat) (h : Hp), run 3 404 2 [l0, l1] [vi s0, vo (some (o, 4, z))] h = run 3 404 5 [l0, l1] [] (hsI h o 2 s0)) ∧
  (∀ (l0 l1 : Option AV) (h : Hp), run 3 404 5 [l0, l1] [] h = run 3 404 6 [l0, l1] [vi (0 : Int32)] h) ∧
  (∀ (l1 : Option AV) (s0 : Int32) (h : Hp), run 3 404 6 [none, l1] [vi s0] h = run 3 404 7 [none, some (vi s0)] [] h) ∧
  (∀ (l1 : Option AV) (s0 : Int32) (w1 : Int32) (h : Hp), run 3 404 6 [some (vi w1), l1] [vi s0] h = run 3 404 7 [some (vi w1), some (vi s0)] [] h) ∧
  (∀ (l1 : Option AV) (s0 : Int32) (w1 : Option Rf) (h : Hp), run 3 404 6 [some (vo w1), l1] [vi s0] h = run 3 404 7 [some (vo w1), some (vi s0)] [] h) ∧
  (∀ (l1 : Option AV) (s0 : Int32) (w : Option Rf) (h : Hp), run 3 404 8 [some (vo w), l1] [vi s0] h = run 3 404 9 [some (vo w), l1] [vo w, vi s0] h) ∧
  (∀ (l0 l1 : Option AV) (s1 : Int32) (o z : Nat) (h : Hp), run 3 404 9 [l0, l1] [vo (some (o, 4, z)), vi s1] h = run 3 404 12 [l0, l1] [vi (hI h o 0), vi s1] h) ∧
  (∀ (l0 l1 : Option AV) (s0 : Int32) (s1 : Int32) (h : Hp), run 3 404 12 [l0, l1] [vi s0, vi s1] h = if s0 ≤ s1 then run 3 404 36 [l0, l1] [] h else run 3 404 15 [l0, l1] [] h) ∧
  (∀ (l1 : Option AV) (w : Option Rf) (h : Hp), run 3 404 15 [some (vo w), l1] [] h = run 3 404 16 [some (vo w), l1] [vo w] h) ∧
  (∀ (l1 : Option AV) (s0 : Option Rf) (w : Option Rf) (h : Hp), run 3 404 16 [some (vo w), l1] [vo s0] h = run 3 404 17 [some (vo w), l1] [vo w, vo s0] h) ∧
  (∀ (l0 l1 : Option AV) (s1 : Option Rf) (o z : Nat) (h : Hp), run 3 404 17 [l0, l1] [vo (some (o, 4, z)), vo s1] h = run 3 404 20 [l0, l1] [vo (hR h o 1), vo s1] h) ∧
  (∀ (l0 : Option AV) (s0 : Option Rf) (s1 : Option Rf) (w : Int32) (h : Hp), run 3 404 20 [l0, some (vi w)] [vo s0, vo s1] h = run 3 404 21 [l0, some (vi w)] [vi w, vo s0, vo s1] h) ∧
  (∀ (l0 l1 : Option AV) (s0 : Int32) (s2 : Option Rf) (o z : Nat) (h : Hp), run 3 404 21 [l0, l1] [vi s0, vo (some (o, 13, z)), vo s2] h = if s0 < 0 ∨ z ≤ s0.toNatClampNeg then none else run 3 404 22 [l0, l1] [vi (hI h o s0.toNatClampNeg), vo s2] h) ∧
  (∀ (l0 l1 : Option AV) (s0 : Int32) (o z : Nat) (h : Hp), run 3 404 22 [l0, l1] [vi s0, vo (some (o, 4, z))] h = (call 405 [vo (some (o, 4, z)), vi s0] h).bind (fun z => run 3 404 25 [l0, l1] (z.1.toList ++ []) z.2)) ∧
  (∀ (l0 l1 : Option AV) (s0 : Int32) (h : Hp), run 3 404 25 [l0, l1] [vi s0] h = if s0 = 0 then run 3 404 28 [l0, l1] [] h else run 3 404 30 [l0, l1] [] h) ∧
  (∀ (l0 : Option AV) (w : Int32) (h : Hp), run 3 404 28 [l0, some (vi w)] [] h = run 3 404 29 [l0, some (vi w)] [vi w] h) ∧
  (∀ (l0 l1 : Option AV) (s0 : Int32) (h : Hp), run 3 404 29 [l0, l1] [vi s0] h = some (some (vi s0), h)) ∧
  (∀  (w : Int32) (h : Hp), run 3 404 30 [none, some (vi w)] [] h = run 3 404 33 [none, some (vi (w + (1 : Int32)))] [] h) ∧
  (∀  (w1 : Int32) (w : Int32) (h : Hp), run 3 404 30 [some (vi w1), some (vi w)] [] h = run 3 404 33 [some (vi w1), some (vi (w + (1 : Int32)))] [] h) ∧
  (∀  (w1 : Option Rf) (w : Int32) (h : Hp), run 3 404 30 [some (vo w1), some (vi w)] [] h = run 3 404 33 [some (vo w1), some (vi (w + (1 : Int32)))] [] h) ∧
  (∀ (l0 l1 : Option AV) (h : Hp), run 3 404 33 [l0, l1] [] h = run 3 404 7 [l0, l1] [] h) ∧
  (∀ (l1 : Option AV) (w : Option Rf) (h : Hp), run 3 404 36 [some (vo w), l1] [] h = run 3 404 37 [some (vo w), l1] [vo w] h) ∧
  (∀ (l0 l1 : Option AV) (o z : Nat) (h : Hp), run 3 404 37 [l0, l1] [vo (some (o, 4, z))] h = run 3 404 40 [l0, l1] [vi (hI h o 0)] h) ∧
  (∀ (l0 l1 : Option AV) (s0 : Int32) (h : Hp), run 3 404 40 [l0, l1] [vi s0] h = if s0 ≤ 0 then run 3 404 54 [l0, l1] [] h else run 3 404 43 [l0, l1] [] h) ∧
  (∀ (l1 : Option AV) (w : Option Rf) (h : Hp), run 3 404 43 [some (vo w), l1] [] h = run 3 404 44 [some (vo w), l1] [vo w] h) ∧
  (∀ (l0 l1 : Option AV) (o z : Nat) (h : Hp), run 3 404 44 [l0, l1] [vo (some (o, 4, z))] h = run 3 404 47 [l0, l1] [vi (hI h o 2)] h) ∧
  (∀ (l0 l1 : Option AV) (s0 : Int32) (h : Hp), run 3 404 47 [l0, l1] [vi s0] h = if s0 = 0 then run 3 404 50 [l0, l1] [] h else run 3 404 54 [l0, l1] [] h) ∧
  (∀ (l0 l1 : Option AV) (h : Hp), run 3 404 50 [l0, l1] [] h = run 3 404 51 [l0, l1] [vi (-1 : Int32)] h) ∧
  (∀ (l0 l1 : Option AV) (s0 : Int32) (h : Hp), run 3 404 51 [l0, l1] [vi s0] h = run 3 404 58 [l0, l1] [vi s0] h) ∧
  (∀ (l1 : Option AV) (w : Option Rf) (h : Hp), run 3 404 54 [some (vo w), l1] [] h = run 3 404 55 [some (vo w), l1] [vo w] h) ∧
  (∀ (l0 l1 : Option AV) (o z : Nat) (h : Hp), run 3 404 55 [l0, l1] [vo (some (o, 4, z))] h = run 3 404 58 [l0, l1] [vi (hI h o 0)] h) ∧
  (∀ (l0 l1 : Option AV) (s0 : Int32) (h : Hp), run 3 404 58 [l0, l1] [vi s0] h = some (some (vi s0), h)) := ⟨(fun _ _ _ => run_next rfl rfl),
  (fun _ _ s0 _ => run_next rfl rfl),
  (fun _ _ s0 _ _ _ => run_next rfl rfl),
  (fun _ _ _ => run_next rfl rfl),
  (fun _ s0 _ => run_next rfl rfl),
  (fun _ s0 _ _ => run_next rfl rfl),
  (fun _ s0 _ _ => run_next rfl rfl),
  (fun _ s0 _ _ => run_next rfl rfl),
  (fun _ _ _ _ _ _ => run_next rfl rfl),
  (fun _ _ s0 _ _ => run_if rfl rfl (run_next rfl) (run_next rfl)),
  (fun _ _ _ => run_next rfl rfl),
  (fun _ s0 _ _ => run_next rfl rfl),
  (fun _ _ _ _ _ _ => run_next rfl rfl),
  (fun _ s0 _ _ _ => run_next rfl rfl),
  (fun _ _ s0 _ _ _ _ => run_if rfl rfl (run_fail rfl) (run_next rfl)),
  (fun _ _ s0 _ _ _ => run_calx rfl rfl (Nat.le_of_ble_eq_true rfl) (Nat.le_of_ble_eq_true rfl) rfl),
  (fun _ _ s0 _ => run_if rfl rfl (run_next rfl) (run_next rfl)),
  (fun _ _ _ => run_next rfl rfl),
  (fun _ _ s0 _ => run_ret rfl rfl),
  (fun _ _ => run_next rfl rfl),
  (fun _ _ _ => run_next rfl rfl),
  (fun _ _ _ => run_next rfl rfl),
  (fun _ _ _ => run_next rfl rfl),
  (fun _ _ _ => run_next rfl rfl),
  (fun _ _ _ _ _ => run_next rfl rfl),
  (fun _ _ s0 _ => run_if rfl rfl (run_next rfl) (run_next rfl)),
  (fun _ _ _ => run_next rfl rfl),
  (fun _ _ _ _ _ => run_next rfl rfl),
  (fun _ _ s0 _ => run_if rfl rfl (run_next rfl) (run_next rfl)),
  (fun _ _ _ => run_next rfl rfl),
  (fun _ _ s0 _ => run_next rfl rfl),
  (fun _ _ _ => run_next rfl rfl),
  (fun _ _ _ _ _ => run_next rfl rfl),
  (fun _ _ s0 _ => run_ret rfl rfl)⟩
set_option maxRecDepth 20000 in
theorem x_404_7 : (∀ (l0 : Option AV) (w : Int32) (h : Hp), run 3 404 7 [l0, some (vi w)] [] h = run 3 404 8 [l0, some (vi w)] [vi w] h) := (fun _ _ _ => run_next rfl rfl)
theorem e_404 (v : Option Rf) (h : Hp) : call 404 [vo v] h = run 3 404 0 [some (vo v), none] [] h := rfl
set_option maxRecDepth 20000 in
theorem x_405 : (∀ (l1 : Option AV) (w : Option Rf) (h : Hp), run 2 405 0 [some (vo w), l1] [] h = run 2 405 1 [some (vo w), l1] [vo w] h) ∧
  (∀ (l0 l1 : Option AV) (o z : Nat) (h : Hp), run 2 405 1 [l0, l1] [vo (some (o, 4, z))] h = run 2 405 4 [l0, l1] [vi (hI h o 2)] h) ∧
  (∀ (l0 l1 : Option AV) (s0 : Int32) (h : Hp), run 2 405 4 [l0, l1] [vi s0] h = if s0 = 0 then run 2 405 52 [l0, l1] [] h else if s0 = 1 then run 2 405 58 [l0, l1] [] h else if s0 = 2 then run 2 405 64 [l0, l1] [] h else if s0 = 3 then run 2 405 71 [l0, l1] [] h else if s0 = 4 then run 2 405 78 [l0, l1] [] h else if s0 = 5 then run 2 405 85 [l0, l1] [] h else if s0 = 6 then run 2 405 109 [l0, l1] [] h else if s0 = 7 then run 2 405 115 [l0, l1] [] h else run 2 405 123 [l0, l1] [] h) ∧
  (∀ (l1 : Option AV) (w : Option Rf) (h : Hp), run 2 405 52 [some (vo w), l1] [] h = run 2 405 53 [some (vo w), l1] [vo w] h) ∧
  (∀ (l0 : Option AV) (s0 : Option Rf) (w : Int32) (h : Hp), run 2 405 53 [l0, some (vi w)] [vo s0] h = run 2 405 54 [l0, some (vi w)] [vi w, vo s0] h) ∧
  (∀ (l0 l1 : Option AV) (s0 : Int32) (o z : Nat) (h : Hp), run 2 405 54 [l0, l1] [vi s0, vo (some (o, 4, z))] h = (call 406 [vo (some (o, 4, z)), vi s0] h).bind (fun z => run 2 405 57 [l0, l1] (z.1.toList ++ []) z.2)) ∧
  (∀ (l0 l1 : Option AV) (s0 : Int32) (h : Hp), run 2 405 57 [l0, l1] [vi s0] h = if am_isd s0 = true then some (some (vi s0), h) else none) ∧
  (∀ (l1 : Option AV) (w : Option Rf) (h : Hp), run 2 405 58 [some (vo w), l1] [] h = run 2 405 59 [some (vo w), l1] [vo w] h) ∧
  (∀ (l0 : Option AV) (s0 : Option Rf) (w : Int32) (h : Hp), run 2 405 59 [l0, some (vi w)] [vo s0] h = run 2 405 60 [l0, some (vi w)] [vi w, vo s0] h) ∧
  (∀ (l0 l1 : Option AV) (s0 : Int32) (o z : Nat) (h : Hp), run 2 405 60 [l0, l1] [vi s0, vo (some (o, 4, z))] h = (call 408 [vo (some (o, 4, z)), vi s0] h).bind (fun z => run 2 405 63 [l0, l1] (z.1.toList ++ []) z.2)) ∧
  (∀ (l0 l1 : Option AV) (s0 : Int32) (h : Hp), run 2 405 63 [l0, l1] [vi s0] h = if am_isd s0 = true then some (some (vi s0), h) else none) ∧
  (∀ (l1 : Option AV) (w : Option Rf) (h : Hp), run 2 405 64 [some (vo w), l1] [] h = run 2 405 65 [some (vo w), l1] [vo w] h) ∧
  (∀ (l0 : Option AV) (s0 : Option Rf) (w : Int32) (h : Hp), run 2 405 65 [l0, some (vi w)] [vo s0] h = run 2 405 66 [l0, some (vi w)] [vi w, vo s0] h) ∧
  (∀ (l0 l1 : Option AV) (s0 : Int32) (s1 : Option Rf) (h : Hp), run 2 405 66 [l0, l1] [vi s0, vo s1] h = run 2 405 67 [l0, l1] [vi (3 : Int32), vi s0, vo s1] h) ∧
  (∀ (l0 l1 : Option AV) (s0 : Int32) (s1 : Int32) (o z : Nat) (h : Hp), run 2 405 67 [l0, l1] [vi s0, vi s1, vo (some (o, 4, z))] h = (call 410 [vo (some (o, 4, z)), vi s1, vi s0] h).bind (fun z => run 2 405 70 [l0, l1] (z.1.toList ++ []) z.2)) ∧
  (∀ (l0 l1 : Option AV) (s0 : Int32) (h : Hp), run 2 405 70 [l0, l1] [vi s0] h = if am_isd s0 = true then some (some (vi s0), h) else none) ∧
  (∀ (l1 : Option AV) (w : Option Rf) (h : Hp), run 2 405 71 [some (vo w), l1] [] h = run 2 405 72 [some (vo w), l1] [vo w] h) ∧
  (∀ (l0 : Option AV) (s0 : Option Rf) (w : Int32) (h : Hp), run 2 405 72 [l0, some (vi w)] [vo s0] h = run 2 405 73 [l0, some (vi w)] [vi w, vo s0] h) ∧
  (∀ (l0 l1 : Option AV) (s0 : Int32) (s1 : Option Rf) (h : Hp), run 2 405 73 [l0, l1] [vi s0, vo s1] h = run 2 405 74 [l0, l1] [vi (4 : Int32), vi s0, vo s1] h) ∧
  (∀ (l0 l1 : Option AV) (s0 : Int32) (s1 : Int32) (o z : Nat) (h : Hp), run 2 405 74 [l0, l1] [vi s0, vi s1, vo (some (o, 4, z))] h = (call 410 [vo (some (o, 4, z)), vi s1, vi s0] h).bind (fun z => run 2 405 77 [l0, l1] (z.1.toList ++ []) z.2)) ∧
  (∀ (l0 l1 : Option AV) (s0 : Int32) (h : Hp), run 2 405 77 [l0, l1] [vi s0] h = if am_isd s0 = true then some (some (vi s0), h) else none) ∧
  (∀ (l1 : Option AV) (w : Option Rf) (h : Hp), run 2 405 78 [some (vo w), l1] [] h = run 2 405 79 [some (vo w), l1] [vo w] h) ∧
  (∀ (l0 : Option AV) (s0 : Option Rf) (w : Int32) (h : Hp), run 2 405 79 [l0, some (vi w)] [vo s0] h = run 2 405 80 [l0, some (vi w)] [vi w, vo s0] h) ∧
  (∀ (l0 l1 : Option AV) (s0 : Int32) (s1 : Option Rf) (h : Hp), run 2 405 80 [l0, l1] [vi s0, vo s1] h = run 2 405 81 [l0, l1] [vi (5 : Int32), vi s0, vo s1] h) ∧
  (∀ (l0 l1 : Option AV) (s0 : Int32) (s1 : Int32) (o z : Nat) (h : Hp), run 2 405 81 [l0, l1] [vi s0, vi s1, vo (some (o, 4, z))] h = (call 410 [vo (some (o, 4, z)), vi s1, vi s0] h).bind (fun z => run 2 405 84 [l0, l1] (z.1.toList ++ []) z.2)) ∧
  (∀ (l0 l1 : Option AV) (s0 : Int32) (h : Hp), run 2 405 84 [l0, l1] [vi s0] h = if am_isd s0 = true then some (some (vi s0), h) else none) ∧
  (∀ (l1 : Option AV) (w : Option Rf) (h : Hp), run 2 405 85 [some (vo w), l1] [] h = run 2 405 86 [some (vo w), l1] [vo w] h) ∧
  (∀ (l0 : Option AV) (s0 : Option Rf) (w : Int32) (h : Hp), run 2 405 86 [l0, some (vi w)] [vo s0] h = run 2 405 87 [l0, some (vi w)] [vi w, vo s0] h) ∧
  (∀ (l0 l1 : Option AV) (s0 : Int32) (s1 : Option Rf) (h : Hp), run 2 405 87 [l0, l1] [vi s0, vo s1] h = run 2 405 89 [l0, l1] [vi (6 : Int32), vi s0, vo s1] h) ∧
  (∀ (l0 l1 : Option AV) (s0 : Int32) (s1 : Int32) (o z : Nat) (h : Hp), run 2 405 89 [l0, l1] [vi s0, vi s1, vo (some (o, 4, z))] h = (call 410 [vo (some (o, 4, z)), vi s1, vi s0] h).bind (fun z => run 2 405 92 [l0, l1] (z.1.toList ++ []) z.2)) ∧
  (∀ (l0 l1 : Option AV) (s0 : Int32) (h : Hp), run 2 405 92 [l0, l1] [vi s0] h = if s0 = 0 then run 2 405 95 [l0, l1] [] h else run 2 405 103 [l0, l1] [] h) ∧
  (∀ (l1 : Option AV) (w : Option Rf) (h : Hp), run 2 405 95 [some (vo w), l1] [] h = run 2 405 96 [some (vo w), l1] [vo w] h) ∧
  (∀ (l0 : Option AV) (s0 : Option Rf) (w : Int32) (h : Hp), run 2 405 96 [l0, some (vi w)] [vo s0] h = run 2 405 97 [l0, some (vi w)] [vi w, vo s0] h) ∧
  (∀ (l0 l1 : Option AV) (s0 : Int32) (o z : Nat) (h : Hp), run 2 405 97 [l0, l1] [vi s0, vo (some (o, 4, z))] h = (call 409 [vo (some (o, 4, z)), vi s0] h).bind (fun z => run 2 405 100 [l0, l1] (z.1.toList ++ []) z.2)) ∧
  (∀ (l0 l1 : Option AV) (s0 : Int32) (h : Hp), run 2 405 100 [l0, l1] [vi s0] h = if s0 = 0 then run 2 405 107 [l0, l1] [] h else run 2 405 103 [l0, l1] [] h) ∧
  (∀ (l0 l1 : Option AV) (h : Hp), run 2 405 103 [l0, l1] [] h = run 2 405 104 [l0, l1] [vi (1 : Int32)] h) ∧
  (∀ (l0 l1 : Option AV) (s0 : Int32) (h : Hp), run 2 405 104 [l0, l1] [vi s0] h = run 2 405 108 [l0, l1] [vi s0] h) ∧
  (∀ (l0 l1 : Option AV) (h : Hp), run 2 405 107 [l0, l1] [] h = run 2 405 108 [l0, l1] [vi (0 : Int32)] h) ∧
  (∀ (l0 l1 : Option AV) (s0 : Int32) (h : Hp), run 2 405 108 [l0, l1] [vi s0] h = if am_isd s0 = true then some (some (vi s0), h) else none) ∧
  (∀ (l1 : Option AV) (w : Option Rf) (h : Hp), run 2 405 109 [some (vo w), l1] [] h = run 2 405 110 [some (vo w), l1] [vo w] h) ∧
  (∀ (l0 : Option AV) (s0 : Option Rf) (w : Int32) (h : Hp), run 2 405 110 [l0, some (vi w)] [vo s0] h = run 2 405 111 [l0, some (vi w)] [vi w, vo s0] h) ∧
  (∀ (l0 l1 : Option AV) (s0 : Int32) (o z : Nat) (h : Hp), run 2 405 111 [l0, l1] [vi s0, vo (some (o, 4, z))] h = (call 409 [vo (some (o, 4, z)), vi s0] h).bind (fun z => run 2 405 114 [l0, l1] (z.1.toList ++ []) z.2)) ∧
  (∀ (l0 l1 : Option AV) (s0 : Int32) (h : Hp), run 2 405 114 [l0, l1] [vi s0] h = if am_isd s0 = true then some (some (vi s0), h) else none) ∧
  (∀ (l1 : Option AV) (w : Option Rf) (h : Hp), run 2 405 115 [some (vo w), l1] [] h = run 2 405 116 [some (vo w), l1] [vo w] h) ∧
  (∀ (l0 : Option AV) (s0 : Option Rf) (w : Int32) (h : Hp), run 2 405 116 [l0, some (vi w)] [vo s0] h = run 2 405 117 [l0, some (vi w)] [vi w, vo s0] h) ∧
  (∀ (l0 l1 : Option AV) (s0 : Int32) (s1 : Option Rf) (h : Hp), run 2 405 117 [l0, l1] [vi s0, vo s1] h = run 2 405 119 [l0, l1] [vi (8 : Int32), vi s0, vo s1] h) ∧
  (∀ (l0 l1 : Option AV) (s0 : Int32) (s1 : Int32) (o z : Nat) (h : Hp), run 2 405 119 [l0, l1] [vi s0, vi s1, vo (some (o, 4, z))] h = (call 410 [vo (some (o, 4, z)), vi s1, vi s0] h).bind (fun z => run 2 405 122 [l0, l1] (z.1.toList ++ []) z.2)) ∧
  (∀ (l0 l1 : Option AV) (s0 : Int32) (h : Hp), run 2 405 122 [l0, l1] [vi s0] h = if am_isd s0 = true then some (some (vi s0), h) else none) ∧
  (∀ (l1 : Option AV) (w : Option Rf) (h : Hp), run 2 405 123 [some (vo w), l1] [] h = run 2 405 124 [some (vo w), l1] [vo w] h) ∧
  (∀ (l0 : Option AV) (s0 : Option Rf) (w : Int32) (h : Hp), run 2 405 124 [l0, some (vi w)] [vo s0] h = run 2 405 125 [l0, some (vi w)] [vi w, vo s0] h) ∧
  (∀ (l0 l1 : Option AV) (s0 : Int32) (o z : Nat) (h : Hp), run 2 405 125 [l0, l1] [vi s0, vo (some (o, 4, z))] h = (call 407 [vo (some (o, 4, z)), vi s0] h).bind (fun z => run 2 405 128 [l0, l1] (z.1.toList ++ []) z.2)) ∧
  (∀ (l0 l1 : Option AV) (s0 : Int32) (h : Hp), run 2 405 128 [l0, l1] [vi s0] h = if am_isd s0 = true then some (some (vi s0), h) else none) := ⟨(fun _ _ _ => run_next rfl rfl),
  (fun _ _ _ _ _ => run_next rfl rfl),
  (fun _ _ s0 _ => (run_sw (fun e => by subst e; exact run_next rfl rfl) fun n0 => (run_sw (fun e => by subst e; exact run_next rfl rfl) fun n1 => (run_sw (fun e => by subst e; exact run_next rfl rfl) fun n2 => (run_sw (fun e => by subst e; exact run_next rfl rfl) fun n3 => (run_sw (fun e => by subst e; exact run_next rfl rfl) fun n4 => (run_sw (fun e => by subst e; exact run_next rfl rfl) fun n5 => (run_sw (fun e => by subst e; exact run_next rfl rfl) fun n6 => (run_sw (fun e => by subst e; exact run_next rfl rfl) fun n7 => run_swd 8 rfl rfl (sw_out8 n0 n1 n2 n3 n4 n5 n6 n7)))))))))),
  (fun _ _ _ => run_next rfl rfl),
  (fun _ s0 _ _ => run_next rfl rfl),
  (fun _ _ s0 _ _ _ => run_calx rfl rfl (Nat.le_of_ble_eq_true rfl) (Nat.le_of_ble_eq_true rfl) rfl),
  (fun _ _ s0 _ => run_ifz rfl rfl (by simp) (run_ret rfl) (run_fail rfl)),
  (fun _ _ _ => run_next rfl rfl),
  (fun _ s0 _ _ => run_next rfl rfl),
  (fun _ _ s0 _ _ _ => run_calx rfl rfl (Nat.le_of_ble_eq_true rfl) (Nat.le_of_ble_eq_true rfl) rfl),
  (fun _ _ s0 _ => run_ifz rfl rfl (by simp) (run_ret rfl) (run_fail rfl)),
  (fun _ _ _ => run_next rfl rfl),
  (fun _ s0 _ _ => run_next rfl rfl),
  (fun _ _ s0 _ _ => run_next rfl rfl),
  (fun _ _ s0 _ _ _ _ => run_calx rfl rfl (Nat.le_of_ble_eq_true rfl) (Nat.le_of_ble_eq_true rfl) rfl),
  (fun _ _ s0 _ => run_ifz rfl rfl (by simp) (run_ret rfl) (run_fail rfl)),
  (fun _ _ _ => run_next rfl rfl),
  (fun _ s0 _ _ => run_next rfl rfl),
  (fun _ _ s0 _ _ => run_next rfl rfl),
  (fun _ _ s0 _ _ _ _ => run_calx rfl rfl (Nat.le_of_ble_eq_true rfl) (Nat.le_of_ble_eq_true rfl) rfl),
  (fun _ _ s0 _ => run_ifz rfl rfl (by simp) (run_ret rfl) (run_fail rfl)),
  (fun _ _ _ => run_next rfl rfl),
  (fun _ s0 _ _ => run_next rfl rfl),
  (fun _ _ s0 _ _ => run_next rfl rfl),
  (fun _ _ s0 _ _ _ _ => run_calx rfl rfl (Nat.le_of_ble_eq_true rfl) (Nat.le_of_ble_eq_true rfl) rfl),
  (fun _ _ s0 _ => run_ifz rfl rfl (by simp) (run_ret rfl) (run_fail rfl)),
  (fun _ _ _ => run_next rfl rfl),
  (fun _ s0 _ _ => run_next rfl rfl),
  (fun _ _ s0 _ _ => run_next rfl rfl),
  (fun _ _ s0 _ _ _ _ => run_calx rfl rfl (Nat.le_of_ble_eq_true rfl) (Nat.le_of_ble_eq_true rfl) rfl),
  (fun _ _ s0 _ => run_if rfl rfl (run_next rfl) (run_next rfl)),
  (fun _ _ _ => run_next rfl rfl),
  (fun _ s0 _ _ => run_next rfl rfl),
  (fun _ _ s0 _ _ _ => run_calx rfl rfl (Nat.le_of_ble_eq_true rfl) (Nat.le_of_ble_eq_true rfl) rfl),
  (fun _ _ s0 _ => run_if rfl rfl (run_next rfl) (run_next rfl)),
  (fun _ _ _ => run_next rfl rfl),
  (fun _ _ s0 _ => run_next rfl rfl),
  (fun _ _ _ => run_next rfl rfl),
  (fun _ _ s0 _ => run_ifz rfl rfl (by simp) (run_ret rfl) (run_fail rfl)),
  (fun _ _ _ => run_next rfl rfl),
  (fun _ s0 _ _ => run_next rfl rfl),
  (fun _ _ s0 _ _ _ => run_calx rfl rfl (Nat.le_of_ble_eq_true rfl) (Nat.le_of_ble_eq_true rfl) rfl),
  (fun _ _ s0 _ => run_ifz rfl rfl (by simp) (run_ret rfl) (run_fail rfl)),
  (fun _ _ _ => run_next rfl rfl),
  (fun _ s0 _ _ => run_next rfl rfl),
  (fun _ _ s0 _ _ => run_next rfl rfl),
  (fun _ _ s0 _ _ _ _ => run_calx rfl rfl (Nat.le_of_ble_eq_true rfl) (Nat.le_of_ble_eq_true rfl) rfl),
  (fun _ _ s0 _ => run_ifz rfl rfl (by simp) (run_ret rfl) (run_fail rfl)),
  (fun _ _ _ => run_next rfl rfl),
  (fun _ s0 _ _ => run_next rfl rfl),
  (fun _ _ s0 _ _ _ => run_calx rfl rfl (Nat.le_of_ble_eq_true rfl) (Nat.le_of_ble_eq_true rfl) rfl),
  (fun _ _ s0 _ => run_ifz rfl rfl (by simp) (run_ret rfl) (run_fail rfl))⟩
theorem e_405 (v : Option Rf) (a0 : Int32) (h : Hp) : call 405 [vo v, vi a0] h = run 2 405 0 [some (vo v), some (vi a0)] [] h := rfl
set_option maxRecDepth 20000 in
theorem x_406 : (∀ (l1 : Option AV) (w : Option Rf) (h : Hp), run 0 406 0 [some (vo w), l1] [] h = run 0 406 1 [some (vo w), l1] [vo w] h) ∧
  (∀ (l0 l1 : Option AV) (s0 : Option Rf) (h : Hp), run 0 406 1 [l0, l1] [vo s0] h = run 0 406 2 [l0, l1] [vi (0 : Int32), vo s0] h) ∧
  (∀ (l0 l1 : Option AV) (s0 : Int32) (o z : Nat) (h : Hp), run 0 406 2 [l0, l1] [vi s0, vo (some (o, 4, z))] h = run 0 406 5 [l0, l1] [] (hsI h o 3 s0)) ∧
  (∀ (l1 : Option AV) (w : Option Rf) (h : Hp), run 0 406 5 [some (vo w), l1] [] h = run 0 406 6 [some (vo w), l1] [vo w] h) ∧
  (∀ (l0 l1 : Option AV) (s0 : Option Rf) (h : Hp), run 0 406 6 [l0, l1] [vo s0] h = run 0 406 8 [l0, l1] [vi (6 : Int32), vo s0] h) ∧
  (∀ (l0 l1 : Option AV) (s0 : Int32) (o z : Nat) (h : Hp), run 0 406 8 [l0, l1] [vi s0, vo (some (o, 4, z))] h = run 0 406 11 [l0, l1] [] (hsI h o 4 s0)) ∧
  (∀ (l1 : Option AV) (w : Option Rf) (h : Hp), run 0 406 11 [some (vo w), l1] [] h = run 0 406 12 [some (vo w), l1] [vo w] h) ∧
  (∀ (l0 l1 : Option AV) (s0 : Option Rf) (h : Hp), run 0 406 12 [l0, l1] [vo s0] h = run 0 406 13 [l0, l1] [vi (0 : Int32), vo s0] h) ∧
  (∀ (l0 l1 : Option AV) (s0 : Int32) (o z : Nat) (h : Hp), run 0 406 13 [l0, l1] [vi s0, vo (some (o, 4, z))] h = run 0 406 16 [l0, l1] [] (hsI h o 5 s0)) ∧
  (∀ (l1 : Option AV) (w : Option Rf) (h : Hp), run 0 406 16 [some (vo w), l1] [] h = run 0 406 17 [some (vo w), l1] [vo w] h) ∧
  (∀ (l0 l1 : Option AV) (s0 : Option Rf) (h : Hp), run 0 406 17 [l0, l1] [vo s0] h = run 0 406 18 [l0, l1] [vi (0 : Int32), vo s0] h) ∧
  (∀ (l0 l1 : Option AV) (s0 : Int32) (o z : Nat) (h : Hp), run 0 406 18 [l0, l1] [vi s0, vo (some (o, 4, z))] h = run 0 406 21 [l0, l1] [] (hsI h o 6 s0)) ∧
  (∀ (l0 : Option AV) (w : Int32) (h : Hp), run 0 406 21 [l0, some (vi w)] [] h = run 0 406 22 [l0, some (vi w)] [vi w] h) ∧
  (∀ (l0 l1 : Option AV) (s0 : Int32) (h : Hp), run 0 406 22 [l0, l1] [vi s0] h = if s0 = 100 then run 0 406 70 [l0, l1] [] h else if s0 = 109 then run 0 406 56 [l0, l1] [] h else if s0 = 112 then run 0 406 63 [l0, l1] [] h else run 0 406 78 [l0, l1] [] h) ∧
  (∀ (l1 : Option AV) (w : Option Rf) (h : Hp), run 0 406 56 [some (vo w), l1] [] h = run 0 406 57 [some (vo w), l1] [vo w] h) ∧
  (∀ (l0 l1 : Option AV) (s0 : Option Rf) (h : Hp), run 0 406 57 [l0, l1] [vo s0] h = run 0 406 58 [l0, l1] [vi (1 : Int32), vo s0] h) ∧
  (∀ (l0 l1 : Option AV) (s0 : Int32) (o z : Nat) (h : Hp), run 0 406 58 [l0, l1] [vi s0, vo (some (o, 4, z))] h = run 0 406 61 [l0, l1] [] (hsI h o 2 s0)) ∧
  (∀ (l0 l1 : Option AV) (h : Hp), run 0 406 61 [l0, l1] [] h = run 0 406 62 [l0, l1] [vi (1 : Int32)] h) ∧
  (∀ (l0 l1 : Option AV) (s0 : Int32) (h : Hp), run 0 406 62 [l0, l1] [vi s0] h = if am_isd s0 = true then some (some (vi s0), h) else none) ∧
  (∀ (l1 : Option AV) (w : Option Rf) (h : Hp), run 0 406 63 [some (vo w), l1] [] h = run 0 406 64 [some (vo w), l1] [vo w] h) ∧
  (∀ (l0 l1 : Option AV) (s0 : Option Rf) (h : Hp), run 0 406 64 [l0, l1] [vo s0] h = run 0 406 65 [l0, l1] [vi (2 : Int32), vo s0] h) ∧
  (∀ (l0 l1 : Option AV) (s0 : Int32) (o z : Nat) (h : Hp), run 0 406 65 [l0, l1] [vi s0, vo (some (o, 4, z))] h = run 0 406 68 [l0, l1] [] (hsI h o 2 s0)) ∧
  (∀ (l0 l1 : Option AV) (h : Hp), run 0 406 68 [l0, l1] [] h = run 0 406 69 [l0, l1] [vi (1 : Int32)] h) ∧
  (∀ (l0 l1 : Option AV) (s0 : Int32) (h : Hp), run 0 406 69 [l0, l1] [vi s0] h = if am_isd s0 = true then some (some (vi s0), h) else none) ∧
  (∀ (l1 : Option AV) (w : Option Rf) (h : Hp), run 0 406 70 [some (vo w), l1] [] h = run 0 406 71 [some (vo w), l1] [vo w] h) ∧
  (∀ (l0 l1 : Option AV) (s0 : Option Rf) (h : Hp), run 0 406 71 [l0, l1] [vo s0] h = run 0 406 73 [l0, l1] [vi (7 : Int32), vo s0] h) ∧
  (∀ (l0 l1 : Option AV) (s0 : Int32) (o z : Nat) (h : Hp), run 0 406 73 [l0, l1] [vi s0, vo (some (o, 4, z))] h = run 0 406 76 [l0, l1] [] (hsI h o 2 s0)) ∧
  (∀ (l0 l1 : Option AV) (h : Hp), run 0 406 76 [l0, l1] [] h = run 0 406 77 [l0, l1] [vi (1 : Int32)] h) ∧
  (∀ (l0 l1 : Option AV) (s0 : Int32) (h : Hp), run 0 406 77 [l0, l1] [vi s0] h = if am_isd s0 = true then some (some (vi s0), h) else none) ∧
  (∀ (l0 l1 : Option AV) (h : Hp), run 0 406 78 [l0, l1] [] h = run 0 406 79 [l0, l1] [vi (0 : Int32)] h) ∧
  (∀ (l0 l1 : Option AV) (s0 : Int32) (h : Hp), run 0 406 79 [l0, l1] [vi s0] h = if am_isd s0 = true then some (some (vi s0), h) else none) := ⟨(fun _ _ _ => run_next rfl rfl),
  (fun _ _ s0 _ => run_next rfl rfl),
  (fun _ _ s0 _ _ _ => run_next rfl rfl),
  (fun _ _ _ => run_next rfl rfl),
  (fun _ _ s0 _ => run_next rfl rfl),
  (fun _ _ s0 _ _ _ => run_next rfl rfl),
  (fun _ _ _ => run_next rfl rfl),
  (fun _ _ s0 _ => run_next rfl rfl),
  (fun _ _ s0 _ _ _ => run_next rfl rfl),
  (fun _ _ _ => run_next rfl rfl),
  (fun _ _ s0 _ => run_next rfl rfl),
  (fun _ _ s0 _ _ _ => run_next rfl rfl),
  (fun _ _ _ => run_next rfl rfl),
  (fun _ _ s0 _ => (run_sw (fun e => by subst e; exact run_next rfl rfl) fun n0 => (run_sw (fun e => by subst e; exact run_next rfl rfl) fun n1 => (run_sw (fun e => by subst e; exact run_next rfl rfl) fun n2 => run_lk (off := 56) rfl rfl ((lv_osw n0 (by decide)).trans ((lv_osw n1 (by decide)).trans ((lv_osw n2 (by decide)).trans rfl))))))),
  (fun _ _ _ => run_next rfl rfl),
  (fun _ _ s0 _ => run_next rfl rfl),
  (fun _ _ s0 _ _ _ => run_next rfl rfl),
  (fun _ _ _ => run_next rfl rfl),
  (fun _ _ s0 _ => run_ifz rfl rfl (by simp) (run_ret rfl) (run_fail rfl)),
  (fun _ _ _ => run_next rfl rfl),
  (fun _ _ s0 _ => run_next rfl rfl),
  (fun _ _ s0 _ _ _ => run_next rfl rfl),
  (fun _ _ _ => run_next rfl rfl),
  (fun _ _ s0 _ => run_ifz rfl rfl (by simp) (run_ret rfl) (run_fail rfl)),
  (fun _ _ _ => run_next rfl rfl),
  (fun _ _ s0 _ => run_next rfl rfl),
  (fun _ _ s0 _ _ _ => run_next rfl rfl),
  (fun _ _ _ => run_next rfl rfl),
  (fun _ _ s0 _ => run_ifz rfl rfl (by simp) (run_ret rfl) (run_fail rfl)),
  (fun _ _ _ => run_next rfl rfl),
  (fun _ _ s0 _ => run_ifz rfl rfl (by simp) (run_ret rfl) (run_fail rfl))⟩
theorem e_406 (v : Option Rf) (a0 : Int32) (h : Hp) : call 406 [vo v, vi a0] h = run 0 406 0 [some (vo v), some (vi a0)] [] h := rfl
set_option maxRecDepth 20000 in
theorem x_407 : (∀ (l1 : Option AV) (w : Option Rf) (h : Hp), run 0 407 0 [some (vo w), l1] [] h = run 0 407 1 [some (vo w), l1] [vo w] h) ∧
  (∀ (l0 l1 : Option AV) (s0 : Option Rf) (h : Hp), run 0 407 1 [l0, l1] [vo s0] h = run 0 407 2 [l0, l1] [vi (0 : Int32), vo s0] h) ∧
  (∀ (l0 l1 : Option AV) (s0 : Int32) (o z : Nat) (h : Hp), run 0 407 2 [l0, l1] [vi s0, vo (some (o, 4, z))] h = run 0 407 5 [l0, l1] [] (hsI h o 2 s0)) ∧
  (∀ (l0 : Option AV) (w : Int32) (h : Hp), run 0 407 5 [l0, some (vi w)] [] h = run 0 407 6 [l0, some (vi w)] [vi w] h) ∧
  (∀ (l0 l1 : Option AV) (s0 : Int32) (h : Hp), run 0 407 6 [l0, l1] [vi s0] h = run 0 407 8 [l0, l1] [vi (59 : Int32), vi s0] h) ∧
  (∀ (l0 l1 : Option AV) (s0 : Int32) (s1 : Int32) (h : Hp), run 0 407 8 [l0, l1] [vi s0, vi s1] h = if s1 = s0 then run 0 407 11 [l0, l1] [] h else run 0 407 15 [l0, l1] [] h) ∧
  (∀ (l0 l1 : Option AV) (h : Hp), run 0 407 11 [l0, l1] [] h = run 0 407 12 [l0, l1] [vi (1 : Int32)] h) ∧
  (∀ (l0 l1 : Option AV) (s0 : Int32) (h : Hp), run 0 407 12 [l0, l1] [vi s0] h = run 0 407 16 [l0, l1] [vi s0] h) ∧
  (∀ (l0 l1 : Option AV) (h : Hp), run 0 407 15 [l0, l1] [] h = run 0 407 16 [l0, l1] [vi (0 : Int32)] h) ∧
  (∀ (l0 l1 : Option AV) (s0 : Int32) (h : Hp), run 0 407 16 [l0, l1] [vi s0] h = if am_isd s0 = true then some (some (vi s0), h) else none) := ⟨(fun _ _ _ => run_next rfl rfl),
  (fun _ _ s0 _ => run_next rfl rfl),
  (fun _ _ s0 _ _ _ => run_next rfl rfl),
  (fun _ _ _ => run_next rfl rfl),
  (fun _ _ s0 _ => run_next rfl rfl),
  (fun _ _ s0 _ _ => run_if rfl rfl (run_next rfl) (run_next rfl)),
  (fun _ _ _ => run_next rfl rfl),
  (fun _ _ s0 _ => run_next rfl rfl),
  (fun _ _ _ => run_next rfl rfl),
  (fun _ _ s0 _ => run_ifz rfl rfl (by simp) (run_ret rfl) (run_fail rfl))⟩
theorem e_407 (v : Option Rf) (a0 : Int32) (h : Hp) : call 407 [vo v, vi a0] h = run 0 407 0 [some (vo v), some (vi a0)] [] h := rfl
set_option maxRecDepth 20000 in
theorem x_408 : (∀ (l0 l2 : Option AV) (w : Int32) (h : Hp), run 1 408 0 [l0, some (vi w), l2] [] h = run 1 408 1 [l0, some (vi w), l2] [vi w] h) ∧
  (∀ (l0 l1 l2 : Option AV) (s0 : Int32) (h : Hp), run 1 408 1 [l0, l1, l2] [vi s0] h = run 1 408 3 [l0, l1, l2] [vi (46 : Int32), vi s0] h) ∧
  (∀ (l0 l1 l2 : Option AV) (s0 : Int32) (s1 : Int32) (h : Hp), run 1 408 3 [l0, l1, l2] [vi s0, vi s1] h = if s1 = s0 then run 1 408 12 [l0, l1, l2] [] h else run 1 408 6 [l0, l1, l2] [] h) ∧
  (∀ (l0 l2 : Option AV) (w : Int32) (h : Hp), run 1 408 6 [l0, some (vi w), l2] [] h = run 1 408 7 [l0, some (vi w), l2] [vi w] h) ∧
  (∀ (l0 l1 l2 : Option AV) (s0 : Int32) (h : Hp), run 1 408 7 [l0, l1, l2] [vi s0] h = run 1 408 9 [l0, l1, l2] [vi (35 : Int32), vi s0] h) ∧
  (∀ (l0 l1 l2 : Option AV) (s0 : Int32) (s1 : Int32) (h : Hp), run 1 408 9 [l0, l1, l2] [vi s0, vi s1] h = if s1 = s0 then run 1 408 12 [l0, l1, l2] [] h else run 1 408 39 [l0, l1, l2] [] h) ∧
  (∀ (l1 l2 : Option AV) (w : Option Rf) (h : Hp), run 1 408 12 [some (vo w), l1, l2] [] h = run 1 408 13 [some (vo w), l1, l2] [vo w] h) ∧
  (∀ (l0 l1 l2 : Option AV) (s0 : Option Rf) (h : Hp), run 1 408 13 [l0, l1, l2] [vo s0] h = run 1 408 14 [l0, l1, l2] [vo s0, vo s0] h) ∧
  (∀ (l0 l1 l2 : Option AV) (s1 : Option Rf) (o z : Nat) (h : Hp), run 1 408 14 [l0, l1, l2] [vo (some (o, 4, z)), vo s1] h = run 1 408 17 [l0, l1, l2] [vi (hI h o 5), vo s1] h) ∧
  (∀ (l0 l1 l2 : Option AV) (s0 : Int32) (s1 : Option Rf) (h : Hp), run 1 408 17 [l0, l1, l2] [vi s0, vo s1] h = run 1 408 18 [l0, l1, l2] [vi (1 : Int32), vi s0, vo s1] h) ∧
  (∀ (l0 l1 l2 : Option AV) (s0 : Int32) (s1 : Int32) (s2 : Option Rf) (h : Hp), run 1 408 18 [l0, l1, l2] [vi s0, vi s1, vo s2] h = run 1 408 19 [l0, l1, l2] [vi (s1 + s0), vo s2] h) ∧
  (∀ (l0 l1 l2 : Option AV) (s0 : Int32) (o z : Nat) (h : Hp), run 1 408 19 [l0, l1, l2] [vi s0, vo (some (o, 4, z))] h = run 1 408 22 [l0, l1, l2] [] (hsI h o 5 s0)) ∧
  (∀ (l1 l2 : Option AV) (w : Option Rf) (h : Hp), run 1 408 22 [some (vo w), l1, l2] [] h = run 1 408 23 [some (vo w), l1, l2] [vo w] h) ∧
  (∀ (l0 l1 l2 : Option AV) (o z : Nat) (h : Hp), run 1 408 23 [l0, l1, l2] [vo (some (o, 4, z))] h = run 1 408 26 [l0, l1, l2] [vi (hI h o 5)] h) ∧
  (∀ (l1 l2 : Option AV) (s0 : Int32) (w : Option Rf) (h : Hp), run 1 408 26 [some (vo w), l1, l2] [vi s0] h = run 1 408 27 [some (vo w), l1, l2] [vo w, vi s0] h) ∧
  (∀ (l0 l1 l2 : Option AV) (s1 : Int32) (o z : Nat) (h : Hp), run 1 408 27 [l0, l1, l2] [vo (some (o, 4, z)), vi s1] h = run 1 408 30 [l0, l1, l2] [vi (hI h o 4), vi s1] h) ∧
  (∀ (l0 l1 l2 : Option AV) (s0 : Int32) (s1 : Int32) (h : Hp), run 1 408 30 [l0, l1, l2] [vi s0, vi s1] h = if s0 < s1 then run 1 408 37 [l0, l1, l2] [] h else run 1 408 33 [l0, l1, l2] [] h) ∧
  (∀ (l0 l1 l2 : Option AV) (h : Hp), run 1 408 33 [l0, l1, l2] [] h = run 1 408 34 [l0, l1, l2] [vi (1 : Int32)] h) ∧
  (∀ (l0 l1 l2 : Option AV) (s0 : Int32) (h : Hp), run 1 408 34 [l0, l1, l2] [vi s0] h = run 1 408 38 [l0, l1, l2] [vi s0] h) ∧
  (∀ (l0 l1 l2 : Option AV) (h : Hp), run 1 408 37 [l0, l1, l2] [] h = run 1 408 38 [l0, l1, l2] [vi (0 : Int32)] h) ∧
  (∀ (l0 l1 l2 : Option AV) (s0 : Int32) (h : Hp), run 1 408 38 [l0, l1, l2] [vi s0] h = if am_isd s0 = true then some (some (vi s0), h) else none) ∧
  (∀ (l0 l2 : Option AV) (w : Int32) (h : Hp), run 1 408 39 [l0, some (vi w), l2] [] h = run 1 408 40 [l0, some (vi w), l2] [vi w] h) ∧
  (∀ (l0 l1 l2 : Option AV) (s0 : Int32) (h : Hp), run 1 408 40 [l0, l1, l2] [vi s0] h = run 1 408 42 [l0, l1, l2] [vi (47 : Int32), vi s0] h) ∧
  (∀ (l0 l1 l2 : Option AV) (s0 : Int32) (s1 : Int32) (h : Hp), run 1 408 42 [l0, l1, l2] [vi s0, vi s1] h = if s1 = s0 then run 1 408 45 [l0, l1, l2] [] h else run 1 408 126 [l0, l1, l2] [] h) ∧
  (∀ (l1 l2 : Option AV) (w : Option Rf) (h : Hp), run 1 408 45 [some (vo w), l1, l2] [] h = run 1 408 46 [some (vo w), l1, l2] [vo w] h) ∧
  (∀ (l0 l1 l2 : Option AV) (o z : Nat) (h : Hp), run 1 408 46 [l0, l1, l2] [vo (some (o, 4, z))] h = run 1 408 49 [l0, l1, l2] [vi (hI h o 3)] h) ∧
  (∀ (l0 l1 l2 : Option AV) (s0 : Int32) (h : Hp), run 1 408 49 [l0, l1, l2] [vi s0] h = if s0 = 0 then run 1 408 52 [l0, l1, l2] [] h else run 1 408 68 [l0, l1, l2] [] h) ∧
  (∀ (l1 l2 : Option AV) (w : Option Rf) (h : Hp), run 1 408 52 [some (vo w), l1, l2] [] h = run 1 408 53 [some (vo w), l1, l2] [vo w] h) ∧
  (∀ (l0 l1 l2 : Option AV) (o z : Nat) (h : Hp), run 1 408 53 [l0, l1, l2] [vo (some (o, 4, z))] h = run 1 408 56 [l0, l1, l2] [vi (hI h o 5)] h) ∧
  (∀ (l0 l1 l2 : Option AV) (s0 : Int32) (h : Hp), run 1 408 56 [l0, l1, l2] [vi s0] h = run 1 408 57 [l0, l1, l2] [vi (2 : Int32), vi s0] h) ∧
  (∀ (l0 l1 l2 : Option AV) (s0 : Int32) (s1 : Int32) (h : Hp), run 1 408 57 [l0, l1, l2] [vi s0, vi s1] h = if s1 < s0 then run 1 408 64 [l0, l1, l2] [] h else run 1 408 60 [l0, l1, l2] [] h) ∧
  (∀ (l0 l1 l2 : Option AV) (h : Hp), run 1 408 60 [l0, l1, l2] [] h = run 1 408 61 [l0, l1, l2] [vi (1 : Int32)] h) ∧
  (∀ (l0 l1 l2 : Option AV) (s0 : Int32) (h : Hp), run 1 408 61 [l0, l1, l2] [vi s0] h = run 1 408 84 [l0, l1, l2] [vi s0] h) ∧
  (∀ (l0 l1 l2 : Option AV) (h : Hp), run 1 408 64 [l0, l1, l2] [] h = run 1 408 65 [l0, l1, l2] [vi (0 : Int32)] h) ∧
  (∀ (l0 l1 l2 : Option AV) (s0 : Int32) (h : Hp), run 1 408 65 [l0, l1, l2] [vi s0] h = run 1 408 84 [l0, l1, l2] [vi s0] h) ∧
  (∀ (l1 l2 : Option AV) (w : Option Rf) (h : Hp), run 1 408 68 [some (vo w), l1, l2] [] h = run 1 408 69 [some (vo w), l1, l2] [vo w] h) ∧
  (∀ (l0 l1 l2 : Option AV) (o z : Nat) (h : Hp), run 1 408 69 [l0, l1, l2] [vo (some (o, 4, z))] h = run 1 408 72 [l0, l1, l2] [vi (hI h o 5)] h) ∧
  (∀ (l1 l2 : Option AV) (s0 : Int32) (w : Option Rf) (h : Hp), run 1 408 72 [some (vo w), l1, l2] [vi s0] h = run 1 408 73 [some (vo w), l1, l2] [vo w, vi s0] h) ∧
  (∀ (l0 l1 l2 : Option AV) (s1 : Int32) (o z : Nat) (h : Hp), run 1 408 73 [l0, l1, l2] [vo (some (o, 4, z)), vi s1] h = run 1 408 76 [l0, l1, l2] [vi (hI h o 4), vi s1] h) ∧
  (∀ (l0 l1 l2 : Option AV) (s0 : Int32) (s1 : Int32) (h : Hp), run 1 408 76 [l0, l1, l2] [vi s0, vi s1] h = if s1 = s0 then run 1 408 79 [l0, l1, l2] [] h else run 1 408 83 [l0, l1, l2] [] h) ∧
  (∀ (l0 l1 l2 : Option AV) (h : Hp), run 1 408 79 [l0, l1, l2] [] h = run 1 408 80 [l0, l1, l2] [vi (1 : Int32)] h) ∧
  (∀ (l0 l1 l2 : Option AV) (s0 : Int32) (h : Hp), run 1 408 80 [l0, l1, l2] [vi s0] h = run 1 408 84 [l0, l1, l2] [vi s0] h) ∧
  (∀ (l0 l1 l2 : Option AV) (h : Hp), run 1 408 83 [l0, l1, l2] [] h = run 1 408 84 [l0, l1, l2] [vi (0 : Int32)] h) ∧
  (∀ (l0 l2 : Option AV) (s0 : Int32) (h : Hp), run 1 408 84 [l0, none, l2] [vi s0] h = run 1 408 85 [l0, none, some (vi s0)] [] h) ∧
  (∀ (l0 l2 : Option AV) (s0 : Int32) (w1 : Int32) (h : Hp), run 1 408 84 [l0, some (vi w1), l2] [vi s0] h = run 1 408 85 [l0, some (vi w1), some (vi s0)] [] h) ∧
  (∀ (l0 l2 : Option AV) (s0 : Int32) (w1 : Option Rf) (h : Hp), run 1 408 84 [l0, some (vo w1), l2] [vi s0] h = run 1 408 85 [l0, some (vo w1), some (vi s0)] [] h) ∧
  (∀ (l1 l2 : Option AV) (w : Option Rf) (h : Hp), run 1 408 85 [some (vo w), l1, l2] [] h = run 1 408 86 [some (vo w), l1, l2] [vo w] h) ∧
  (∀ (l1 l2 : Option AV) (s0 : Option Rf) (w : Option Rf) (h : Hp), run 1 408 86 [some (vo w), l1, l2] [vo s0] h = run 1 408 87 [some (vo w), l1, l2] [vo w, vo s0] h) ∧
  (∀ (l0 l1 l2 : Option AV) (s1 : Option Rf) (o z : Nat) (h : Hp), run 1 408 87 [l0, l1, l2] [vo (some (o, 4, z)), vo s1] h = run 1 408 90 [l0, l1, l2] [vi (hI h o 5), vo s1] h) ∧
  (∀ (l0 l1 l2 : Option AV) (s0 : Int32) (o z : Nat) (h : Hp), run 1 408 90 [l0, l1, l2] [vi s0, vo (some (o, 4, z))] h = run 1 408 93 [l0, l1, l2] [] (hsI h o 4 s0)) ∧
  (∀ (l1 l2 : Option AV) (w : Option Rf) (h : Hp), run 1 408 93 [some (vo w), l1, l2] [] h = run 1 408 94 [some (vo w), l1, l2] [vo w] h) ∧
  (∀ (l0 l1 l2 : Option AV) (s0 : Option Rf) (h : Hp), run 1 408 94 [l0, l1, l2] [vo s0] h = run 1 408 95 [l0, l1, l2] [vi (0 : Int32), vo s0] h) ∧
  (∀ (l0 l1 l2 : Option AV) (s0 : Int32) (o z : Nat) (h : Hp), run 1 408 95 [l0, l1, l2] [vi s0, vo (some (o, 4, z))] h = run 1 408 98 [l0, l1, l2] [] (hsI h o 5 s0)) ∧
  (∀ (l1 l2 : Option AV) (w : Option Rf) (h : Hp), run 1 408 98 [some (vo w), l1, l2] [] h = run 1 408 99 [some (vo w), l1, l2] [vo w] h) ∧
  (∀ (l0 l1 l2 : Option AV) (s0 : Option Rf) (h : Hp), run 1 408 99 [l0, l1, l2] [vo s0] h = run 1 408 100 [l0, l1, l2] [vo s0, vo s0] h) ∧
  (∀ (l0 l1 l2 : Option AV) (s1 : Option Rf) (o z : Nat) (h : Hp), run 1 408 100 [l0, l1, l2] [vo (some (o, 4, z)), vo s1] h = run 1 408 103 [l0, l1, l2] [vi (hI h o 3), vo s1] h) ∧
  (∀ (l0 l1 l2 : Option AV) (s0 : Int32) (s1 : Option Rf) (h : Hp), run 1 408 103 [l0, l1, l2] [vi s0, vo s1] h = run 1 408 104 [l0, l1, l2] [vi (1 : Int32), vi s0, vo s1] h) ∧
  (∀ (l0 l1 l2 : Option AV) (s0 : Int32) (s1 : Int32) (s2 : Option Rf) (h : Hp), run 1 408 104 [l0, l1, l2] [vi s0, vi s1, vo s2] h = run 1 408 105 [l0, l1, l2] [vi (s1 + s0), vo s2] h) ∧
  (∀ (l0 l1 l2 : Option AV) (s0 : Int32) (o z : Nat) (h : Hp), run 1 408 105 [l0, l1, l2] [vi s0, vo (some (o, 4, z))] h = run 1 408 108 [l0, l1, l2] [] (hsI h o 3 s0)) ∧
  (∀ (l0 l1 : Option AV) (w : Int32) (h : Hp), run 1 408 108 [l0, l1, some (vi w)] [] h = run 1 408 109 [l0, l1, some (vi w)] [vi w] h) ∧
  (∀ (l0 l1 l2 : Option AV) (s0 : Int32) (h : Hp), run 1 408 109 [l0, l1, l2] [vi s0] h = if s0 = 0 then run 1 408 124 [l0, l1, l2] [] h else run 1 408 112 [l0, l1, l2] [] h) ∧
  (∀ (l1 l2 : Option AV) (w : Option Rf) (h : Hp), run 1 408 112 [some (vo w), l1, l2] [] h = run 1 408 113 [some (vo w), l1, l2] [vo w] h) ∧
  (∀ (l0 l1 l2 : Option AV) (o z : Nat) (h : Hp), run 1 408 113 [l0, l1, l2] [vo (some (o, 4, z))] h = run 1 408 116 [l0, l1, l2] [vi (hI h o 3)] h) ∧
  (∀ (l0 l1 l2 : Option AV) (s0 : Int32) (h : Hp), run 1 408 116 [l0, l1, l2] [vi s0] h = run 1 408 117 [l0, l1, l2] [vi (5 : Int32), vi s0] h) ∧
  (∀ (l0 l1 l2 : Option AV) (s0 : Int32) (s1 : Int32) (h : Hp), run 1 408 117 [l0, l1, l2] [vi s0, vi s1] h = if s0 ≤ s1 then run 1 408 124 [l0, l1, l2] [] h else run 1 408 120 [l0, l1, l2] [] h) ∧
  (∀ (l0 l1 l2 : Option AV) (h : Hp), run 1 408 120 [l0, l1, l2] [] h = run 1 408 121 [l0, l1, l2] [vi (1 : Int32)] h) ∧
  (∀ (l0 l1 l2 : Option AV) (s0 : Int32) (h : Hp), run 1 408 121 [l0, l1, l2] [vi s0] h = run 1 408 125 [l0, l1, l2] [vi s0] h) ∧
  (∀ (l0 l1 l2 : Option AV) (h : Hp), run 1 408 124 [l0, l1, l2] [] h = run 1 408 125 [l0, l1, l2] [vi (0 : Int32)] h) ∧
  (∀ (l0 l1 l2 : Option AV) (s0 : Int32) (h : Hp), run 1 408 125 [l0, l1, l2] [vi s0] h = if am_isd s0 = true then some (some (vi s0), h) else none) ∧
  (∀ (l1 l2 : Option AV) (w : Option Rf) (h : Hp), run 1 408 126 [some (vo w), l1, l2] [] h = run 1 408 127 [some (vo w), l1, l2] [vo w] h) ∧
  (∀ (l0 l1 l2 : Option AV) (o z : Nat) (h : Hp), run 1 408 127 [l0, l1, l2] [vo (some (o, 4, z))] h = run 1 408 130 [l0, l1, l2] [vi (hI h o 3)] h) ∧
  (∀ (l0 l1 l2 : Option AV) (s0 : Int32) (h : Hp), run 1 408 130 [l0, l1, l2] [vi s0] h = if s0 ≤ 0 then run 1 408 156 [l0, l1, l2] [] h else run 1 408 133 [l0, l1, l2] [] h) ∧
  (∀ (l1 l2 : Option AV) (w : Option Rf) (h : Hp), run 1 408 133 [some (vo w), l1, l2] [] h = run 1 408 134 [some (vo w), l1, l2] [vo w] h) ∧
  (∀ (l0 l1 l2 : Option AV) (o z : Nat) (h : Hp), run 1 408 134 [l0, l1, l2] [vo (some (o, 4, z))] h = run 1 408 137 [l0, l1, l2] [vi (hI h o 5)] h) ∧
  (∀ (l1 l2 : Option AV) (s0 : Int32) (w : Option Rf) (h : Hp), run 1 408 137 [some (vo w), l1, l2] [vi s0] h = run 1 408 138 [some (vo w), l1, l2] [vo w, vi s0] h) ∧
  (∀ (l0 l1 l2 : Option AV) (s1 : Int32) (o z : Nat) (h : Hp), run 1 408 138 [l0, l1, l2] [vo (some (o, 4, z)), vi s1] h = run 1 408 141 [l0, l1, l2] [vi (hI h o 4), vi s1] h) ∧
  (∀ (l0 l1 l2 : Option AV) (s0 : Int32) (s1 : Int32) (h : Hp), run 1 408 141 [l0, l1, l2] [vi s0, vi s1] h = if s1 = s0 then run 1 408 144 [l0, l1, l2] [] h else run 1 408 156 [l0, l1, l2] [] h) ∧
  (∀ (l1 l2 : Option AV) (w : Option Rf) (h : Hp), run 1 408 144 [some (vo w), l1, l2] [] h = run 1 408 145 [some (vo w), l1, l2] [vo w] h) ∧
  (∀ (l0 l2 : Option AV) (s0 : Option Rf) (w : Int32) (h : Hp), run 1 408 145 [l0, some (vi w), l2] [vo s0] h = run 1 408 146 [l0, some (vi w), l2] [vi w, vo s0] h) ∧
  (∀ (l0 l1 l2 : Option AV) (s0 : Int32) (o z : Nat) (h : Hp), run 1 408 146 [l0, l1, l2] [vi s0, vo (some (o, 4, z))] h = (call 407 [vo (some (o, 4, z)), vi s0] h).bind (fun z => run 1 408 149 [l0, l1, l2] (z.1.toList ++ []) z.2)) ∧
  (∀ (l0 l1 l2 : Option AV) (s0 : Int32) (h : Hp), run 1 408 149 [l0, l1, l2] [vi s0] h = if s0 = 0 then run 1 408 156 [l0, l1, l2] [] h else run 1 408 152 [l0, l1, l2] [] h) ∧
  (∀ (l0 l1 l2 : Option AV) (h : Hp), run 1 408 152 [l0, l1, l2] [] h = run 1 408 153 [l0, l1, l2] [vi (1 : Int32)] h) ∧
  (∀ (l0 l1 l2 : Option AV) (s0 : Int32) (h : Hp), run 1 408 153 [l0, l1, l2] [vi s0] h = run 1 408 157 [l0, l1, l2] [vi s0] h) ∧
  (∀ (l0 l1 l2 : Option AV) (h : Hp), run 1 408 156 [l0, l1, l2] [] h = run 1 408 157 [l0, l1, l2] [vi (0 : Int32)] h) ∧
  (∀ (l0 l1 l2 : Option AV) (s0 : Int32) (h : Hp), run 1 408 157 [l0, l1, l2] [vi s0] h = if am_isd s0 = true then some (some (vi s0), h) else none) := ⟨(fun _ _ _ _ => run_next rfl rfl),
  (fun _ _ _ s0 _ => run_next rfl rfl),
  (fun _ _ _ s0 _ _ => run_if rfl rfl (run_next rfl) (run_next rfl)),
  (fun _ _ _ _ => run_next rfl rfl),
  (fun _ _ _ s0 _ => run_next rfl rfl),
  (fun _ _ _ s0 _ _ => run_if rfl rfl (run_next rfl) (run_next rfl)),
  (fun _ _ _ _ => run_next rfl rfl),
  (fun _ _ _ s0 _ => run_next rfl rfl),
  (fun _ _ _ _ _ _ _ => run_next rfl rfl),
  (fun _ _ _ s0 _ _ => run_next rfl rfl),
  (fun _ _ _ s0 _ _ _ => run_next rfl rfl),
  (fun _ _ _ s0 _ _ _ => run_next rfl rfl),
  (fun _ _ _ _ => run_next rfl rfl),
  (fun _ _ _ _ _ _ => run_next rfl rfl),
  (fun _ _ s0 _ _ => run_next rfl rfl),
  (fun _ _ _ _ _ _ _ => run_next rfl rfl),
  (fun _ _ _ s0 _ _ => run_if rfl rfl (run_next rfl) (run_next rfl)),
  (fun _ _ _ _ => run_next rfl rfl),
  (fun _ _ _ s0 _ => run_next rfl rfl),
  (fun _ _ _ _ => run_next rfl rfl),
  (fun _ _ _ s0 _ => run_ifz rfl rfl (by simp) (run_ret rfl) (run_fail rfl)),
  (fun _ _ _ _ => run_next rfl rfl),
  (fun _ _ _ s0 _ => run_next rfl rfl),
  (fun _ _ _ s0 _ _ => run_if rfl rfl (run_next rfl) (run_next rfl)),
  (fun _ _ _ _ => run_next rfl rfl),
  (fun _ _ _ _ _ _ => run_next rfl rfl),
  (fun _ _ _ s0 _ => run_if rfl rfl (run_next rfl) (run_next rfl)),
  (fun _ _ _ _ => run_next rfl rfl),
  (fun _ _ _ _ _ _ => run_next rfl rfl),
  (fun _ _ _ s0 _ => run_next rfl rfl),
  (fun _ _ _ s0 _ _ => run_if rfl rfl (run_next rfl) (run_next rfl)),
  (fun _ _ _ _ => run_next rfl rfl),
  (fun _ _ _ s0 _ => run_next rfl rfl),
  (fun _ _ _ _ => run_next rfl rfl),
  (fun _ _ _ s0 _ => run_next rfl rfl),
  (fun _ _ _ _ => run_next rfl rfl),
  (fun _ _ _ _ _ _ => run_next rfl rfl),
  (fun _ _ s0 _ _ => run_next rfl rfl),
  (fun _ _ _ _ _ _ _ => run_next rfl rfl),
  (fun _ _ _ s0 _ _ => run_if rfl rfl (run_next rfl) (run_next rfl)),
  (fun _ _ _ _ => run_next rfl rfl),
  (fun _ _ _ s0 _ => run_next rfl rfl),
  (fun _ _ _ _ => run_next rfl rfl),
  (fun _ _ s0 _ => run_next rfl rfl),
  (fun _ _ s0 _ _ => run_next rfl rfl),
  (fun _ _ s0 _ _ => run_next rfl rfl),
  (fun _ _ _ _ => run_next rfl rfl),
  (fun _ _ s0 _ _ => run_next rfl rfl),
  (fun _ _ _ _ _ _ _ => run_next rfl rfl),
  (fun _ _ _ s0 _ _ _ => run_next rfl rfl),
  (fun _ _ _ _ => run_next rfl rfl),
  (fun _ _ _ s0 _ => run_next rfl rfl),
  (fun _ _ _ s0 _ _ _ => run_next rfl rfl),
  (fun _ _ _ _ => run_next rfl rfl),
  (fun _ _ _ s0 _ => run_next rfl rfl),
  (fun _ _ _ _ _ _ _ => run_next rfl rfl),
  (fun _ _ _ s0 _ _ => run_next rfl rfl),
  (fun _ _ _ s0 _ _ _ => run_next rfl rfl),
  (fun _ _ _ s0 _ _ _ => run_next rfl rfl),
  (fun _ _ _ _ => run_next rfl rfl),
  (fun _ _ _ s0 _ => run_if rfl rfl (run_next rfl) (run_next rfl)),
  (fun _ _ _ _ => run_next rfl rfl),
  (fun _ _ _ _ _ _ => run_next rfl rfl),
  (fun _ _ _ s0 _ => run_next rfl rfl),
  (fun _ _ _ s0 _ _ => run_if rfl rfl (run_next rfl) (run_next rfl)),
  (fun _ _ _ _ => run_next rfl rfl),
  (fun _ _ _ s0 _ => run_next rfl rfl),
  (fun _ _ _ _ => run_next rfl rfl),
  (fun _ _ _ s0 _ => run_ifz rfl rfl (by simp) (run_ret rfl) (run_fail rfl)),
  (fun _ _ _ _ => run_next rfl rfl),
  (fun _ _ _ _ _ _ => run_next rfl rfl),
  (fun _ _ _ s0 _ => run_if rfl rfl (run_next rfl) (run_next rfl)),
  (fun _ _ _ _ => run_next rfl rfl),
  (fun _ _ _ _ _ _ => run_next rfl rfl),
  (fun _ _ s0 _ _ => run_next rfl rfl),
  (fun _ _ _ _ _ _ _ => run_next rfl rfl),
  (fun _ _ _ s0 _ _ => run_if rfl rfl (run_next rfl) (run_next rfl)),
  (fun _ _ _ _ => run_next rfl rfl),
  (fun _ _ s0 _ _ => run_next rfl rfl),
  (fun _ _ _ s0 _ _ _ => run_calx rfl rfl (Nat.le_of_ble_eq_true rfl) (Nat.le_of_ble_eq_true rfl) rfl),
  (fun _ _ _ s0 _ => run_if rfl rfl (run_next rfl) (run_next rfl)),
  (fun _ _ _ _ => run_next rfl rfl),
  (fun _ _ _ s0 _ => run_next rfl rfl),
  (fun _ _ _ _ => run_next rfl rfl),
  (fun _ _ _ s0 _ => run_ifz rfl rfl (by simp) (run_ret rfl) (run_fail rfl))⟩
theorem e_408 (v : Option Rf) (a0 : Int32) (h : Hp) : call 408 [vo v, vi a0] h = run 1 408 0 [some (vo v), some (vi a0), none] [] h := rfl
set_option maxRecDepth 20000 in
theorem x_409 : (∀ (l0 : Option AV) (w : Int32) (h : Hp), run 1 409 0 [l0, some (vi w)] [] h = run 1 409 1 [l0, some (vi w)] [vi w] h) ∧
  (∀ (l0 l1 : Option AV) (s0 : Int32) (h : Hp), run 1 409 1 [l0, l1] [vi s0] h = run 1 409 4 [l0, l1] [vi (am_so s0)] h) ∧
  (∀ (l0 l1 : Option AV) (s0 : Int32) (h : Hp), run 1 409 4 [l0, l1] [vi s0] h = if 0 ≤ s0 then run 1 409 13 [l0, l1] [] h else run 1 409 7 [l0, l1] [] h) ∧
  (∀ (l1 : Option AV) (w : Option Rf) (h : Hp), run 1 409 7 [some (vo w), l1] [] h = run 1 409 8 [some (vo w), l1] [vo w] h) ∧
  (∀ (l0 : Option AV) (s0 : Option Rf) (w : Int32) (h : Hp), run 1 409 8 [l0, some (vi w)] [vo s0] h = run 1 409 9 [l0, some (vi w)] [vi w, vo s0] h) ∧
  (∀ (l0 l1 : Option AV) (s0 : Int32) (o z : Nat) (h : Hp), run 1 409 9 [l0, l1] [vi s0, vo (some (o, 4, z))] h = (call 407 [vo (some (o, 4, z)), vi s0] h).bind (fun z => run 1 409 12 [l0, l1] (z.1.toList ++ []) z.2)) ∧
  (∀ (l0 l1 : Option AV) (s0 : Int32) (h : Hp), run 1 409 12 [l0, l1] [vi s0] h = if am_isd s0 = true then some (some (vi s0), h) else none) ∧
  (∀ (l1 : Option AV) (w : Option Rf) (h : Hp), run 1 409 13 [some (vo w), l1] [] h = run 1 409 14 [some (vo w), l1] [vo w] h) ∧
  (∀ (l0 l1 : Option AV) (s0 : Option Rf) (h : Hp), run 1 409 14 [l0, l1] [vo s0] h = run 1 409 16 [l0, l1] [vi (6 : Int32), vo s0] h) ∧
  (∀ (l0 l1 : Option AV) (s0 : Int32) (o z : Nat) (h : Hp), run 1 409 16 [l0, l1] [vi s0, vo (some (o, 4, z))] h = run 1 409 19 [l0, l1] [] (hsI h o 2 s0)) ∧
  (∀ (l1 : Option AV) (w : Option Rf) (h : Hp), run 1 409 19 [some (vo w), l1] [] h = run 1 409 20 [some (vo w), l1] [vo w] h) ∧
  (∀ (l0 l1 : Option AV) (s0 : Option Rf) (h : Hp), run 1 409 20 [l0, l1] [vo s0] h = run 1 409 21 [l0, l1] [vo s0, vo s0] h) ∧
  (∀ (l0 l1 : Option AV) (s1 : Option Rf) (o z : Nat) (h : Hp), run 1 409 21 [l0, l1] [vo (some (o, 4, z)), vo s1] h = run 1 409 24 [l0, l1] [vi (hI h o 6), vo s1] h) ∧
  (∀ (l0 l1 : Option AV) (s0 : Int32) (s1 : Option Rf) (h : Hp), run 1 409 24 [l0, l1] [vi s0, vo s1] h = run 1 409 25 [l0, l1] [vi (1 : Int32), vi s0, vo s1] h) ∧
  (∀ (l0 l1 : Option AV) (s0 : Int32) (s1 : Int32) (s2 : Option Rf) (h : Hp), run 1 409 25 [l0, l1] [vi s0, vi s1, vo s2] h = run 1 409 26 [l0, l1] [vi (s1 + s0), vo s2] h) ∧
  (∀ (l0 l1 : Option AV) (s0 : Int32) (o z : Nat) (h : Hp), run 1 409 26 [l0, l1] [vi s0, vo (some (o, 4, z))] h = run 1 409 29 [l0, l1] [] (hsI h o 6 s0)) ∧
  (∀ (l1 : Option AV) (w : Option Rf) (h : Hp), run 1 409 29 [some (vo w), l1] [] h = run 1 409 30 [some (vo w), l1] [vo w] h) ∧
  (∀ (l0 l1 : Option AV) (o z : Nat) (h : Hp), run 1 409 30 [l0, l1] [vo (some (o, 4, z))] h = run 1 409 33 [l0, l1] [vi (hI h o 6)] h) ∧
  (∀ (l0 l1 : Option AV) (s0 : Int32) (h : Hp), run 1 409 33 [l0, l1] [vi s0] h = run 1 409 35 [l0, l1] [vi (6 : Int32), vi s0] h) ∧
  (∀ (l0 l1 : Option AV) (s0 : Int32) (s1 : Int32) (h : Hp), run 1 409 35 [l0, l1] [vi s0, vi s1] h = if s0 < s1 then run 1 409 42 [l0, l1] [] h else run 1 409 38 [l0, l1] [] h) ∧
  (∀ (l0 l1 : Option AV) (h : Hp), run 1 409 38 [l0, l1] [] h = run 1 409 39 [l0, l1] [vi (1 : Int32)] h) ∧
  (∀ (l0 l1 : Option AV) (s0 : Int32) (h : Hp), run 1 409 39 [l0, l1] [vi s0] h = run 1 409 43 [l0, l1] [vi s0] h) ∧
  (∀ (l0 l1 : Option AV) (h : Hp), run 1 409 42 [l0, l1] [] h = run 1 409 43 [l0, l1] [vi (0 : Int32)] h) ∧
  (∀ (l0 l1 : Option AV) (s0 : Int32) (h : Hp), run 1 409 43 [l0, l1] [vi s0] h = if am_isd s0 = true then some (some (vi s0), h) else none) := ⟨(fun _ _ _ => run_next rfl rfl),
  (fun _ _ s0 _ => run_next rfl rfl),
  (fun _ _ s0 _ => run_if rfl rfl (run_next rfl) (run_next rfl)),
  (fun _ _ _ => run_next rfl rfl),
  (fun _ s0 _ _ => run_next rfl rfl),
  (fun _ _ s0 _ _ _ => run_calx rfl rfl (Nat.le_of_ble_eq_true rfl) (Nat.le_of_ble_eq_true rfl) rfl),
  (fun _ _ s0 _ => run_ifz rfl rfl (by simp) (run_ret rfl) (run_fail rfl)),
  (fun _ _ _ => run_next rfl rfl),
  (fun _ _ s0 _ => run_next rfl rfl),
  (fun _ _ s0 _ _ _ => run_next rfl rfl),
  (fun _ _ _ => run_next rfl rfl),
  (fun _ _ s0 _ => run_next rfl rfl),
  (fun _ _ _ _ _ _ => run_next rfl rfl),
  (fun _ _ s0 _ _ => run_next rfl rfl),
  (fun _ _ s0 _ _ _ => run_next rfl rfl),
  (fun _ _ s0 _ _ _ => run_next rfl rfl),
  (fun _ _ _ => run_next rfl rfl),
  (fun _ _ _ _ _ => run_next rfl rfl),
  (fun _ _ s0 _ => run_next rfl rfl),
  (fun _ _ s0 _ _ => run_if rfl rfl (run_next rfl) (run_next rfl)),
  (fun _ _ _ => run_next rfl rfl),
  (fun _ _ s0 _ => run_next rfl rfl),
  (fun _ _ _ => run_next rfl rfl),
  (fun _ _ s0 _ => run_ifz rfl rfl (by simp) (run_ret rfl) (run_fail rfl))⟩
theorem e_409 (v : Option Rf) (a0 : Int32) (h : Hp) : call 409 [vo v, vi a0] h = run 1 409 0 [some (vo v), some (vi a0)] [] h := rfl
set_option maxRecDepth 20000 in
theorem x_410 : (∀ (l0 l2 : Option AV) (w : Int32) (h : Hp), run 1 410 0 [l0, some (vi w), l2] [] h = run 1 410 1 [l0, some (vi w), l2] [vi w] h) ∧
  (∀ (l0 l1 l2 : Option AV) (s0 : Int32) (h : Hp), run 1 410 1 [l0, l1, l2] [vi s0] h = (call 411 [vi s0] h).bind (fun z => run 1 410 4 [l0, l1, l2] (z.1.toList ++ []) z.2)) ∧
  (∀ (l0 l1 l2 : Option AV) (s0 : Int32) (h : Hp), run 1 410 4 [l0, l1, l2] [vi s0] h = if s0 = 0 then run 1 410 7 [l0, l1, l2] [] h else run 1 410 9 [l0, l1, l2] [] h) ∧
  (∀ (l0 l1 l2 : Option AV) (h : Hp), run 1 410 7 [l0, l1, l2] [] h = run 1 410 8 [l0, l1, l2] [vi (0 : Int32)] h) ∧
  (∀ (l0 l1 l2 : Option AV) (s0 : Int32) (h : Hp), run 1 410 8 [l0, l1, l2] [vi s0] h = if am_isd s0 = true then some (some (vi s0), h) else none) ∧
  (∀ (l1 l2 : Option AV) (w : Option Rf) (h : Hp), run 1 410 9 [some (vo w), l1, l2] [] h = run 1 410 10 [some (vo w), l1, l2] [vo w] h) ∧
  (∀ (l0 l1 : Option AV) (s0 : Option Rf) (w : Int32) (h : Hp), run 1 410 10 [l0, l1, some (vi w)] [vo s0] h = run 1 410 11 [l0, l1, some (vi w)] [vi w, vo s0] h) ∧
  (∀ (l0 l1 l2 : Option AV) (s0 : Int32) (o z : Nat) (h : Hp), run 1 410 11 [l0, l1, l2] [vi s0, vo (some (o, 4, z))] h = run 1 410 14 [l0, l1, l2] [] (hsI h o 2 s0)) ∧
  (∀ (l0 l1 l2 : Option AV) (h : Hp), run 1 410 14 [l0, l1, l2] [] h = run 1 410 15 [l0, l1, l2] [vi (1 : Int32)] h) ∧
  (∀ (l0 l1 l2 : Option AV) (s0 : Int32) (h : Hp), run 1 410 15 [l0, l1, l2] [vi s0] h = if am_isd s0 = true then some (some (vi s0), h) else none) := ⟨(fun _ _ _ _ => run_next rfl rfl),
  (fun _ _ _ s0 _ => run_calx rfl rfl (Nat.le_of_ble_eq_true rfl) (Nat.le_of_ble_eq_true rfl) rfl),
  (fun _ _ _ s0 _ => run_if rfl rfl (run_next rfl) (run_next rfl)),
  (fun _ _ _ _ => run_next rfl rfl),
  (fun _ _ _ s0 _ => run_ifz rfl rfl (by simp) (run_ret rfl) (run_fail rfl)),
  (fun _ _ _ _ => run_next rfl rfl),
  (fun _ _ s0 _ _ => run_next rfl rfl),
  (fun _ _ _ s0 _ _ _ => run_next rfl rfl),
  (fun _ _ _ _ => run_next rfl rfl),
  (fun _ _ _ s0 _ => run_ifz rfl rfl (by simp) (run_ret rfl) (run_fail rfl))⟩
theorem e_410 (v : Option Rf) (a0 : Int32) (a1 : Int32) (h : Hp) : call 410 [vo v, vi a0, vi a1] h = run 1 410 0 [some (vo v), some (vi a0), some (vi a1)] [] h := rfl
set_option maxRecDepth 20000 in
theorem x_411 : (∀  (w : Int32) (h : Hp), run 0 411 0 [some (vi w)] [] h = run 0 411 1 [some (vi w)] [vi w] h) ∧
  (∀ (l0 : Option AV) (s0 : Int32) (h : Hp), run 0 411 1 [l0] [vi s0] h = run 0 411 3 [l0] [vi (48 : Int32), vi s0] h) ∧
  (∀ (l0 : Option AV) (s0 : Int32) (s1 : Int32) (h : Hp), run 0 411 3 [l0] [vi s0, vi s1] h = if s1 < s0 then run 0 411 16 [l0] [] h else run 0 411 6 [l0] [] h) ∧
  (∀  (w : Int32) (h : Hp), run 0 411 6 [some (vi w)] [] h = run 0 411 7 [some (vi w)] [vi w] h) ∧
  (∀ (l0 : Option AV) (s0 : Int32) (h : Hp), run 0 411 7 [l0] [vi s0] h = run 0 411 9 [l0] [vi (57 : Int32), vi s0] h) ∧
  (∀ (l0 : Option AV) (s0 : Int32) (s1 : Int32) (h : Hp), run 0 411 9 [l0] [vi s0, vi s1] h = if s0 < s1 then run 0 411 16 [l0] [] h else run 0 411 12 [l0] [] h) ∧
  (∀ (l0 : Option AV) (h : Hp), run 0 411 12 [l0] [] h = run 0 411 13 [l0] [vi (1 : Int32)] h) ∧
  (∀ (l0 : Option AV) (s0 : Int32) (h : Hp), run 0 411 13 [l0] [vi s0] h = run 0 411 17 [l0] [vi s0] h) ∧
  (∀ (l0 : Option AV) (h : Hp), run 0 411 16 [l0] [] h = run 0 411 17 [l0] [vi (0 : Int32)] h) ∧
  (∀ (l0 : Option AV) (s0 : Int32) (h : Hp), run 0 411 17 [l0] [vi s0] h = if am_isd s0 = true then some (some (vi s0), h) else none) := ⟨(fun _ _ => run_next rfl rfl),
  (fun _ s0 _ => run_next rfl rfl),
  (fun _ s0 _ _ => run_if rfl rfl (run_next rfl) (run_next rfl)),
  (fun _ _ => run_next rfl rfl),
  (fun _ s0 _ => run_next rfl rfl),
  (fun _ s0 _ _ => run_if rfl rfl (run_next rfl) (run_next rfl)),
  (fun _ _ => run_next rfl rfl),
  (fun _ s0 _ => run_next rfl rfl),
  (fun _ _ => run_next rfl rfl),
  (fun _ s0 _ => run_ifz rfl rfl (by simp) (run_ret rfl) (run_fail rfl))⟩
theorem e_411 (a0 : Int32) (h : Hp) : call 411 [vi a0] h = run 0 411 0 [some (vi a0)] [] h := rfl
set_option maxRecDepth 20000 in
theorem x_413 : (∀ (l0 : Option AV) (w : Int32) (h : Hp), run 0 413 0 [l0, some (vi w)] [] h = run 0 413 1 [l0, some (vi w)] [vi w] h) ∧
  (∀ (l0 l1 : Option AV) (s0 : Int32) (h : Hp), run 0 413 1 [l0, l1] [vi s0] h = if s0 < 0 then run 0 413 21 [l0, l1] [] h else run 0 413 4 [l0, l1] [] h) ∧
  (∀ (l0 : Option AV) (w : Int32) (h : Hp), run 0 413 4 [l0, some (vi w)] [] h = run 0 413 5 [l0, some (vi w)] [vi w] h) ∧
  (∀ (l1 : Option AV) (s0 : Int32) (w : Option Rf) (h : Hp), run 0 413 5 [some (vo w), l1] [vi s0] h = run 0 413 6 [some (vo w), l1] [vo w, vi s0] h) ∧
  (∀ (l0 l1 : Option AV) (s1 : Int32) (o z : Nat) (h : Hp), run 0 413 6 [l0, l1] [vo (some (o, 4, z)), vi s1] h = run 0 413 9 [l0, l1] [vi (hI h o 0), vi s1] h) ∧
  (∀ (l0 l1 : Option AV) (s0 : Int32) (s1 : Int32) (h : Hp), run 0 413 9 [l0, l1] [vi s0, vi s1] h = if s0 ≤ s1 then run 0 413 21 [l0, l1] [] h else run 0 413 12 [l0, l1] [] h) ∧
  (∀ (l1 : Option AV) (w : Option Rf) (h : Hp), run 0 413 12 [some (vo w), l1] [] h = run 0 413 13 [some (vo w), l1] [vo w] h) ∧
  (∀ (l0 l1 : Option AV) (o z : Nat) (h : Hp), run 0 413 13 [l0, l1] [vo (some (o, 4, z))] h = run 0 413 16 [l0, l1] [vo (hR h o 1)] h) ∧
  (∀ (l0 : Option AV) (s0 : Option Rf) (w : Int32) (h : Hp), run 0 413 16 [l0, some (vi w)] [vo s0] h = run 0 413 17 [l0, some (vi w)] [vi w, vo s0] h) ∧
  (∀ (l0 l1 : Option AV) (s0 : Int32) (o z : Nat) (h : Hp), run 0 413 17 [l0, l1] [vi s0, vo (some (o, 13, z))] h = if s0 < 0 ∨ z ≤ s0.toNatClampNeg then none else run 0 413 18 [l0, l1] [vi (hI h o s0.toNatClampNeg)] h) ∧
  (∀ (l0 l1 : Option AV) (s0 : Int32) (h : Hp), run 0 413 18 [l0, l1] [vi s0] h = run 0 413 22 [l0, l1] [vi s0] h) ∧
  (∀ (l0 l1 : Option AV) (h : Hp), run 0 413 21 [l0, l1] [] h = run 0 413 22 [l0, l1] [vi (0 : Int32)] h) ∧
  (∀ (l0 l1 : Option AV) (s0 : Int32) (h : Hp), run 0 413 22 [l0, l1] [vi s0] h = some (some (vi s0), h)) := ⟨(fun _ _ _ => run_next rfl rfl),
  (fun _ _ s0 _ => run_if rfl rfl (run_next rfl) (run_next rfl)),
  (fun _ _ _ => run_next rfl rfl),
  (fun _ s0 _ _ => run_next rfl rfl),
  (fun _ _ _ _ _ _ => run_next rfl rfl),
  (fun _ _ s0 _ _ => run_if rfl rfl (run_next rfl) (run_next rfl)),
  (fun _ _ _ => run_next rfl rfl),
  (fun _ _ _ _ _ => run_next rfl rfl),
  (fun _ s0 _ _ => run_next rfl rfl),
  (fun _ _ s0 _ _ _ => run_if rfl rfl (run_fail rfl) (run_next rfl)),
  (fun _ _ s0 _ => run_next rfl rfl),
  (fun _ _ _ => run_next rfl rfl),
  (fun _ _ s0 _ => run_ret rfl rfl)⟩
theorem e_413 (v : Option Rf) (a0 : Int32) (h : Hp) : call 413 [vo v, vi a0] h = run 0 413 0 [some (vo v), some (vi a0)] [] h := rfl
set_option maxRecDepth 20000 in
theorem x_414 : (∀ (l1 : Option AV) (w : Option Rf) (h : Hp), run 1 414 0 [some (vo w), l1] [] h = run 1 414 1 [some (vo w), l1] [vo w] h) ∧
  (∀ (l0 : Option AV) (s0 : Option Rf) (w : Int32) (h : Hp), run 1 414 1 [l0, some (vi w)] [vo s0] h = run 1 414 2 [l0, some (vi w)] [vi w, vo s0] h) ∧
  (∀ (l0 l1 : Option AV) (s0 : Int32) (o z : Nat) (h : Hp), run 1 414 2 [l0, l1] [vi s0, vo (some (o, 4, z))] h = (call 413 [vo (some (o, 4, z)), vi s0] h).bind (fun z => run 1 414 5 [l0, l1] (z.1.toList ++ []) z.2)) ∧
  (∀ (l0 l1 : Option AV) (s0 : Int32) (h : Hp), run 1 414 5 [l0, l1] [vi s0] h = run 1 414 7 [l0, l1] [vi (48 : Int32), vi s0] h) ∧
  (∀ (l0 l1 : Option AV) (s0 : Int32) (s1 : Int32) (h : Hp), run 1 414 7 [l0, l1] [vi s0, vi s1] h = run 1 414 8 [l0, l1] [vi (s1 - s0)] h) ∧
  (∀ (l0 l1 : Option AV) (s0 : Int32) (h : Hp), run 1 414 8 [l0, l1] [vi s0] h = some (some (vi s0), h)) := ⟨(fun _ _ _ => run_next rfl rfl),
  (fun _ s0 _ _ => run_next rfl rfl),
  (fun _ _ s0 _ _ _ => run_calx rfl rfl (Nat.le_of_ble_eq_true rfl) (Nat.le_of_ble_eq_true rfl) rfl),
  (fun _ _ s0 _ => run_next rfl rfl),
  (fun _ _ s0 _ _ => run_next rfl rfl),
  (fun _ _ s0 _ => run_ret rfl rfl)⟩
theorem e_414 (v : Option Rf) (a0 : Int32) (h : Hp) : call 414 [vo v, vi a0] h = run 1 414 0 [some (vo v), some (vi a0)] [] h := rfl
set_option maxRecDepth 20000 in
theorem x_415 : (∀ (l0 l1 l2 l3 l4 l5 : Option AV) (h : Hp), run 5 415 0 [l0, l1, l2, l3, l4, l5] [] h = run 5 415 1 [l0, l1, l2, l3, l4, l5] [vi (0 : Int32)] h) ∧
  (∀ (l0 l2 l3 l4 l5 : Option AV) (s0 : Int32) (h : Hp), run 5 415 1 [l0, none, l2, l3, l4, l5] [vi s0] h = run 5 415 2 [l0, none, some (vi s0), l3, l4, l5] [] h) ∧
  (∀ (l0 l2 l3 l4 l5 : Option AV) (s0 : Int32) (w1 : Int32) (h : Hp), run 5 415 1 [l0, some (vi w1), l2, l3, l4, l5] [vi s0] h = run 5 415 2 [l0, some (vi w1), some (vi s0), l3, l4, l5] [] h) ∧
  (∀ (l0 l2 l3 l4 l5 : Option AV) (s0 : Int32) (w1 : Option Rf) (h : Hp), run 5 415 1 [l0, some (vo w1), l2, l3, l4, l5] [vi s0] h = run 5 415 2 [l0, some (vo w1), some (vi s0), l3, l4, l5] [] h) ∧
  (∀ (l0 l1 l2 l3 l4 l5 : Option AV) (h : Hp), run 5 415 2 [l0, l1, l2, l3, l4, l5] [] h = run 5 415 3 [l0, l1, l2, l3, l4, l5] [vi (0 : Int32)] h) ∧
  (∀ (l0 l1 l3 l4 l5 : Option AV) (s0 : Int32) (h : Hp), run 5 415 3 [l0, l1, none, l3, l4, l5] [vi s0] h = run 5 415 4 [l0, l1, none, some (vi s0), l4, l5] [] h) ∧
  (∀ (l0 l1 l3 l4 l5 : Option AV) (s0 : Int32) (w1 : Int32) (h : Hp), run 5 415 3 [l0, l1, some (vi w1), l3, l4, l5] [vi s0] h = run 5 415 4 [l0, l1, some (vi w1), some (vi s0), l4, l5] [] h) ∧
  (∀ (l0 l1 l3 l4 l5 : Option AV) (s0 : Int32) (w1 : Option Rf) (h : Hp), run 5 415 3 [l0, l1, some (vo w1), l3, l4, l5] [vi s0] h = run 5 415 4 [l0, l1, some (vo w1), some (vi s0), l4, l5] [] h) ∧
  (∀ (l0 l1 l2 l3 l4 l5 : Option AV) (h : Hp), run 5 415 4 [l0, l1, l2, l3, l4, l5] [] h = run 5 415 5 [l0, l1, l2, l3, l4, l5] [vi (0 : Int32)] h) ∧
  (∀ (l0 l1 l2 l4 l5 : Option AV) (s0 : Int32) (h : Hp), run 5 415 5 [l0, l1, l2, none, l4, l5] [vi s0] h = run 5 415 7 [l0, l1, l2, none, some (vi s0), l5] [] h) ∧
  (∀ (l0 l1 l2 l4 l5 : Option AV) (s0 : Int32) (w1 : Int32) (h : Hp), run 5 415 5 [l0, l1, l2, some (vi w1), l4, l5] [vi s0] h = run 5 415 7 [l0, l1, l2, some (vi w1), some (vi s0), l5] [] h) ∧
  (∀ (l0 l1 l2 l4 l5 : Option AV) (s0 : Int32) (w1 : Option Rf) (h : Hp), run 5 415 5 [l0, l1, l2, some (vo w1), l4, l5] [vi s0] h = run 5 415 7 [l0, l1, l2, some (vo w1), some (vi s0), l5] [] h) ∧
  (∀ (l1 l2 l3 l4 l5 : Option AV) (s0 : Int32) (w : Option Rf) (h : Hp), run 5 415 9 [some (vo w), l1, l2, l3, l4, l5] [vi s0] h = run 5 415 10 [some (vo w), l1, l2, l3, l4, l5] [vo w, vi s0] h) ∧
  (∀ (l0 l1 l2 l3 l4 l5 : Option AV) (s1 : Int32) (o z : Nat) (h : Hp), run 5 415 10 [l0, l1, l2, l3, l4, l5] [vo (some (o, 4, z)), vi s1] h = run 5 415 13 [l0, l1, l2, l3, l4, l5] [vi (hI h o 0), vi s1] h) ∧
  (∀ (l0 l1 l2 l3 l4 l5 : Option AV) (s0 : Int32) (s1 : Int32) (h : Hp), run 5 415 13 [l0, l1, l2, l3, l4, l5] [vi s0, vi s1] h = if s0 ≤ s1 then run 5 415 121 [l0, l1, l2, l3, l4, l5] [] h else run 5 415 16 [l0, l1, l2, l3, l4, l5] [] h) ∧
  (∀ (l1 l2 l3 l4 l5 : Option AV) (w : Option Rf) (h : Hp), run 5 415 16 [some (vo w), l1, l2, l3, l4, l5] [] h = run 5 415 17 [some (vo w), l1, l2, l3, l4, l5] [vo w] h) ∧
  (∀ (l0 l1 l2 l3 l4 l5 : Option AV) (o z : Nat) (h : Hp), run 5 415 17 [l0, l1, l2, l3, l4, l5] [vo (some (o, 4, z))] h = run 5 415 20 [l0, l1, l2, l3, l4, l5] [vo (hR h o 1)] h) ∧
  (∀ (l0 l1 l2 l3 l5 : Option AV) (s0 : Option Rf) (w : Int32) (h : Hp), run 5 415 20 [l0, l1, l2, l3, some (vi w), l5] [vo s0] h = run 5 415 22 [l0, l1, l2, l3, some (vi w), l5] [vi w, vo s0] h) ∧
  (∀ (l0 l1 l2 l3 l4 l5 : Option AV) (s0 : Int32) (o z : Nat) (h : Hp), run 5 415 22 [l0, l1, l2, l3, l4, l5] [vi s0, vo (some (o, 13, z))] h = if s0 < 0 ∨ z ≤ s0.toNatClampNeg then none else run 5 415 23 [l0, l1, l2, l3, l4, l5] [vi (hI h o s0.toNatClampNeg)] h) ∧
  (∀ (l0 l1 l2 l3 l4 l5 : Option AV) (s0 : Int32) (h : Hp), run 5 415 23 [l0, l1, l2, l3, l4, l5] [vi s0] h = run 5 415 25 [l0, l1, l2, l3, l4, l5] [vi (59 : Int32), vi s0] h) ∧
  (∀ (l0 l1 l2 l3 l4 l5 : Option AV) (s0 : Int32) (s1 : Int32) (h : Hp), run 5 415 25 [l0, l1, l2, l3, l4, l5] [vi s0, vi s1] h = if s1 = s0 then run 5 415 28 [l0, l1, l2, l3, l4, l5] [] h else run 5 415 115 [l0, l1, l2, l3, l4, l5] [] h) ∧
  (∀ (l0 l1 l2 l3 l4 l5 : Option AV) (h : Hp), run 5 415 28 [l0, l1, l2, l3, l4, l5] [] h = run 5 415 29 [l0, l1, l2, l3, l4, l5] [vi (1 : Int32)] h) ∧
  (∀ (l0 l1 l2 l3 l5 : Option AV) (s0 : Int32) (h : Hp), run 5 415 29 [l0, l1, l2, l3, none, l5] [vi s0] h = run 5 415 31 [l0, l1, l2, l3, none, some (vi s0)] [] h) ∧
  (∀ (l0 l1 l2 l3 l5 : Option AV) (s0 : Int32) (w1 : Int32) (h : Hp), run 5 415 29 [l0, l1, l2, l3, some (vi w1), l5] [vi s0] h = run 5 415 31 [l0, l1, l2, l3, some (vi w1), some (vi s0)] [] h) ∧
  (∀ (l0 l1 l2 l3 l5 : Option AV) (s0 : Int32) (w1 : Option Rf) (h : Hp), run 5 415 29 [l0, l1, l2, l3, some (vo w1), l5] [vi s0] h = run 5 415 31 [l0, l1, l2, l3, some (vo w1), some (vi s0)] [] h) ∧
  (∀ (l1 l2 l3 l4 l5 : Option AV) (w : Option Rf) (h : Hp), run 5 415 31 [some (vo w), l1, l2, l3, l4, l5] [] h = run 5 415 32 [some (vo w), l1, l2, l3, l4, l5] [vo w] h) ∧
  (∀ (l0 l1 l2 l3 l4 l5 : Option AV) (o z : Nat) (h : Hp), run 5 415 32 [l0, l1, l2, l3, l4, l5] [vo (some (o, 4, z))] h = run 5 415 35 [l0, l1, l2, l3, l4, l5] [vo (hR h o 1)] h) ∧
  (∀ (l0 l1 l2 l4 l5 : Option AV) (s0 : Option Rf) (w : Int32) (h : Hp), run 5 415 35 [l0, l1, l2, some (vi w), l4, l5] [vo s0] h = run 5 415 36 [l0, l1, l2, some (vi w), l4, l5] [vi w, vo s0] h) ∧
  (∀ (l0 l1 l2 l3 l4 l5 : Option AV) (s0 : Int32) (o z : Nat) (h : Hp), run 5 415 36 [l0, l1, l2, l3, l4, l5] [vi s0, vo (some (o, 13, z))] h = if s0 < 0 ∨ z ≤ s0.toNatClampNeg then none else run 5 415 37 [l0, l1, l2, l3, l4, l5] [vi (hI h o s0.toNatClampNeg)] h) ∧
  (∀ (l0 l1 l2 l3 l4 l5 : Option AV) (s0 : Int32) (h : Hp), run 5 415 37 [l0, l1, l2, l3, l4, l5] [vi s0] h = if s0 = 109 then run 5 415 64 [l0, l1, l2, l3, l4, l5] [] h else if s0 = 112 then run 5 415 75 [l0, l1, l2, l3, l4, l5] [] h else run 5 415 88 [l0, l1, l2, l3, l4, l5] [] h) ∧
  (∀ (l1 l2 l3 l4 l5 : Option AV) (w : Option Rf) (h : Hp), run 5 415 64 [some (vo w), l1, l2, l3, l4, l5] [] h = run 5 415 65 [some (vo w), l1, l2, l3, l4, l5] [vo w] h) ∧
  (∀ (l0 l2 l3 l4 l5 : Option AV) (s0 : Option Rf) (w : Option Rf) (h : Hp), run 5 415 65 [l0, some (vo w), l2, l3, l4, l5] [vo s0] h = run 5 415 66 [l0, some (vo w), l2, l3, l4, l5] [vo w, vo s0] h) ∧
  (∀ (l0 l1 l2 l4 l5 : Option AV) (s0 : Option Rf) (s1 : Option Rf) (w : Int32) (h : Hp), run 5 415 66 [l0, l1, l2, some (vi w), l4, l5] [vo s0, vo s1] h = run 5 415 67 [l0, l1, l2, some (vi w), l4, l5] [vi w, vo s0, vo s1] h) ∧
  (∀ (l0 l1 l2 l3 l5 : Option AV) (s0 : Int32) (s1 : Option Rf) (s2 : Option Rf) (w : Int32) (h : Hp), run 5 415 67 [l0, l1, l2, l3, some (vi w), l5] [vi s0, vo s1, vo s2] h = run 5 415 69 [l0, l1, l2, l3, some (vi w), l5] [vi w, vi s0, vo s1, vo s2] h) ∧
  (∀ (l0 l1 l2 l3 l4 l5 : Option AV) (s0 : Int32) (s1 : Int32) (s2 : Option Rf) (o z : Nat) (h : Hp), run 5 415 69 [l0, l1, l2, l3, l4, l5] [vi s0, vi s1, vo s2, vo (some (o, 4, z))] h = (call 416 [vo (some (o, 4, z)), vo s2, vi s1, vi s0] h).bind (fun z => run 5 415 72 [l0, l1, l2, l3, l4, l5] (z.1.toList ++ []) z.2)) ∧
  (∀ (l0 l1 l2 l3 l4 l5 : Option AV) (h : Hp), run 5 415 72 [l0, l1, l2, l3, l4, l5] [] h = run 5 415 96 [l0, l1, l2, l3, l4, l5] [] h) ∧
  (∀ (l1 l2 l3 l4 l5 : Option AV) (w : Option Rf) (h : Hp), run 5 415 75 [some (vo w), l1, l2, l3, l4, l5] [] h = run 5 415 76 [some (vo w), l1, l2, l3, l4, l5] [vo w] h) ∧
  (∀ (l0 l2 l3 l4 l5 : Option AV) (s0 : Option Rf) (w : Option Rf) (h : Hp), run 5 415 76 [l0, some (vo w), l2, l3, l4, l5] [vo s0] h = run 5 415 77 [l0, some (vo w), l2, l3, l4, l5] [vo w, vo s0] h) ∧
  (∀ (l0 l1 l2 l4 l5 : Option AV) (s0 : Option Rf) (s1 : Option Rf) (w : Int32) (h : Hp), run 5 415 77 [l0, l1, l2, some (vi w), l4, l5] [vo s0, vo s1] h = run 5 415 78 [l0, l1, l2, some (vi w), l4, l5] [vi w, vo s0, vo s1] h) ∧
  (∀ (l0 l1 l2 l3 l5 : Option AV) (s0 : Int32) (s1 : Option Rf) (s2 : Option Rf) (w : Int32) (h : Hp), run 5 415 78 [l0, l1, l2, l3, some (vi w), l5] [vi s0, vo s1, vo s2] h = run 5 415 80 [l0, l1, l2, l3, some (vi w), l5] [vi w, vi s0, vo s1, vo s2] h) ∧
  (∀ (l0 l1 l2 l3 l4 l5 : Option AV) (s0 : Int32) (s1 : Int32) (s2 : Option Rf) (o z : Nat) (h : Hp), run 5 415 80 [l0, l1, l2, l3, l4, l5] [vi s0, vi s1, vo s2, vo (some (o, 4, z))] h = (call 417 [vo (some (o, 4, z)), vo s2, vi s1, vi s0] h).bind (fun z => run 5 415 83 [l0, l1, l2, l3, l4, l5] (z.1.toList ++ []) z.2)) ∧
  (∀ (l0 l1 l2 l3 l5 : Option AV) (s0 : Int32) (h : Hp), run 5 415 83 [l0, l1, l2, l3, none, l5] [vi s0] h = run 5 415 85 [l0, l1, l2, l3, none, some (vi s0)] [] h) ∧
  (∀ (l0 l1 l2 l3 l5 : Option AV) (s0 : Int32) (w1 : Int32) (h : Hp), run 5 415 83 [l0, l1, l2, l3, some (vi w1), l5] [vi s0] h = run 5 415 85 [l0, l1, l2, l3, some (vi w1), some (vi s0)] [] h) ∧
  (∀ (l0 l1 l2 l3 l5 : Option AV) (s0 : Int32) (w1 : Option Rf) (h : Hp), run 5 415 83 [l0, l1, l2, l3, some (vo w1), l5] [vi s0] h = run 5 415 85 [l0, l1, l2, l3, some (vo w1), some (vi s0)] [] h) ∧
  (∀ (l0 l1 l2 l3 l4 l5 : Option AV) (h : Hp), run 5 415 85 [l0, l1, l2, l3, l4, l5] [] h = run 5 415 96 [l0, l1, l2, l3, l4, l5] [] h) ∧
  (∀ (l1 l2 l3 l4 l5 : Option AV) (w : Option Rf) (h : Hp), run 5 415 88 [some (vo w), l1, l2, l3, l4, l5] [] h = run 5 415 89 [some (vo w), l1, l2, l3, l4, l5] [vo w] h) ∧
  (∀ (l0 l2 l3 l4 l5 : Option AV) (s0 : Option Rf) (w : Option Rf) (h : Hp), run 5 415 89 [l0, some (vo w), l2, l3, l4, l5] [vo s0] h = run 5 415 90 [l0, some (vo w), l2, l3, l4, l5] [vo w, vo s0] h) ∧
  (∀ (l0 l1 l2 l4 l5 : Option AV) (s0 : Option Rf) (s1 : Option Rf) (w : Int32) (h : Hp), run 5 415 90 [l0, l1, l2, some (vi w), l4, l5] [vo s0, vo s1] h = run 5 415 91 [l0, l1, l2, some (vi w), l4, l5] [vi w, vo s0, vo s1] h) ∧
  (∀ (l0 l1 l2 l3 l4 l5 : Option AV) (s0 : Int32) (s1 : Option Rf) (o z : Nat) (h : Hp), run 5 415 91 [l0, l1, l2, l3, l4, l5] [vi s0, vo s1, vo (some (o, 4, z))] h = (call 418 [vo (some (o, 4, z)), vo s1, vi s0] h).bind (fun z => run 5 415 94 [l0, l1, l2, l3, l4, l5] (z.1.toList ++ []) z.2)) ∧
  (∀ (l0 l1 l2 l3 l5 : Option AV) (s0 : Int32) (h : Hp), run 5 415 94 [l0, l1, l2, l3, none, l5] [vi s0] h = run 5 415 96 [l0, l1, l2, l3, none, some (vi s0)] [] h) ∧
  (∀ (l0 l1 l2 l3 l5 : Option AV) (s0 : Int32) (w1 : Int32) (h : Hp), run 5 415 94 [l0, l1, l2, l3, some (vi w1), l5] [vi s0] h = run 5 415 96 [l0, l1, l2, l3, some (vi w1), some (vi s0)] [] h) ∧
  (∀ (l0 l1 l2 l3 l5 : Option AV) (s0 : Int32) (w1 : Option Rf) (h : Hp), run 5 415 94 [l0, l1, l2, l3, some (vo w1), l5] [vi s0] h = run 5 415 96 [l0, l1, l2, l3, some (vo w1), some (vi s0)] [] h) ∧
  (∀ (l0 l1 l2 l3 l4 : Option AV) (w : Int32) (h : Hp), run 5 415 96 [l0, l1, l2, l3, l4, some (vi w)] [] h = run 5 415 98 [l0, l1, l2, l3, l4, some (vi w)] [vi w] h) ∧
  (∀ (l0 l1 l2 l3 l4 l5 : Option AV) (s0 : Int32) (h : Hp), run 5 415 98 [l0, l1, l2, l3, l4, l5] [vi s0] h = if s0 = 0 then run 5 415 101 [l0, l1, l2, l3, l4, l5] [] h else run 5 415 107 [l0, l1, l2, l3, l4, l5] [] h) ∧
  (∀ (l0 l1 l2 l3 l4 l5 : Option AV) (h : Hp), run 5 415 101 [l0, l1, l2, l3, l4, l5] [] h = run 5 415 104 [l0, l1, l2, l3, l4, l5] [vi (-2000 : Int32)] h) ∧
  (∀ (l0 l1 l2 l4 l5 : Option AV) (s0 : Int32) (w : Int32) (h : Hp), run 5 415 104 [l0, l1, l2, some (vi w), l4, l5] [vi s0] h = run 5 415 105 [l0, l1, l2, some (vi w), l4, l5] [vi w, vi s0] h) ∧
  (∀ (l0 l1 l2 l3 l4 l5 : Option AV) (s0 : Int32) (s1 : Int32) (h : Hp), run 5 415 105 [l0, l1, l2, l3, l4, l5] [vi s0, vi s1] h = run 5 415 106 [l0, l1, l2, l3, l4, l5] [vi (s1 - s0)] h) ∧
  (∀ (l0 l1 l2 l3 l4 l5 : Option AV) (s0 : Int32) (h : Hp), run 5 415 106 [l0, l1, l2, l3, l4, l5] [vi s0] h = some (some (vi s0), h)) ∧
  (∀ (l0 l3 l4 l5 : Option AV) (w : Int32) (h : Hp), run 5 415 107 [l0, none, some (vi w), l3, l4, l5] [] h = run 5 415 110 [l0, none, some (vi (w + (1 : Int32))), l3, l4, l5] [] h) ∧
  (∀ (l0 l3 l4 l5 : Option AV) (w1 : Int32) (w : Int32) (h : Hp), run 5 415 107 [l0, some (vi w1), some (vi w), l3, l4, l5] [] h = run 5 415 110 [l0, some (vi w1), some (vi (w + (1 : Int32))), l3, l4, l5] [] h) ∧
  (∀ (l0 l3 l4 l5 : Option AV) (w1 : Option Rf) (w : Int32) (h : Hp), run 5 415 107 [l0, some (vo w1), some (vi w), l3, l4, l5] [] h = run 5 415 110 [l0, some (vo w1), some (vi (w + (1 : Int32))), l3, l4, l5] [] h) ∧
  (∀ (l0 l1 l2 l3 l5 : Option AV) (w : Int32) (h : Hp), run 5 415 110 [l0, l1, l2, l3, some (vi w), l5] [] h = run 5 415 112 [l0, l1, l2, l3, some (vi w), l5] [vi w] h) ∧
  (∀ (l0 l1 l2 l3 l4 l5 : Option AV) (s0 : Int32) (h : Hp), run 5 415 112 [l0, l1, l2, l3, l4, l5] [vi s0] h = run 5 415 113 [l0, l1, l2, l3, l4, l5] [vi (1 : Int32), vi s0] h) ∧
  (∀ (l0 l1 l2 l3 l4 l5 : Option AV) (s0 : Int32) (s1 : Int32) (h : Hp), run 5 415 113 [l0, l1, l2, l3, l4, l5] [vi s0, vi s1] h = run 5 415 114 [l0, l1, l2, l3, l4, l5] [vi (s1 + s0)] h) ∧
  (∀ (l0 l1 l3 l4 l5 : Option AV) (s0 : Int32) (h : Hp), run 5 415 114 [l0, l1, none, l3, l4, l5] [vi s0] h = run 5 415 115 [l0, l1, none, some (vi s0), l4, l5] [] h) ∧
  (∀ (l0 l1 l3 l4 l5 : Option AV) (s0 : Int32) (w1 : Int32) (h : Hp), run 5 415 114 [l0, l1, some (vi w1), l3, l4, l5] [vi s0] h = run 5 415 115 [l0, l1, some (vi w1), some (vi s0), l4, l5] [] h) ∧
  (∀ (l0 l1 l3 l4 l5 : Option AV) (s0 : Int32) (w1 : Option Rf) (h : Hp), run 5 415 114 [l0, l1, some (vo w1), l3, l4, l5] [vi s0] h = run 5 415 115 [l0, l1, some (vo w1), some (vi s0), l4, l5] [] h) ∧
  (∀ (l0 l1 l2 l5 : Option AV) (w : Int32) (h : Hp), run 5 415 115 [l0, l1, l2, none, some (vi w), l5] [] h = run 5 415 118 [l0, l1, l2, none, some (vi (w + (1 : Int32))), l5] [] h) ∧
  (∀ (l0 l1 l2 l5 : Option AV) (w1 : Int32) (w : Int32) (h : Hp), run 5 415 115 [l0, l1, l2, some (vi w1), some (vi w), l5] [] h = run 5 415 118 [l0, l1, l2, some (vi w1), some (vi (w + (1 : Int32))), l5] [] h) ∧
  (∀ (l0 l1 l2 l5 : Option AV) (w1 : Option Rf) (w : Int32) (h : Hp), run 5 415 115 [l0, l1, l2, some (vo w1), some (vi w), l5] [] h = run 5 415 118 [l0, l1, l2, some (vo w1), some (vi (w + (1 : Int32))), l5] [] h) ∧
  (∀ (l0 l1 l2 l3 l4 l5 : Option AV) (h : Hp), run 5 415 118 [l0, l1, l2, l3, l4, l5] [] h = run 5 415 7 [l0, l1, l2, l3, l4, l5] [] h) ∧
  (∀ (l0 l1 l3 l4 l5 : Option AV) (w : Int32) (h : Hp), run 5 415 121 [l0, l1, some (vi w), l3, l4, l5] [] h = run 5 415 122 [l0, l1, some (vi w), l3, l4, l5] [vi w] h) ∧
  (∀ (l0 l1 l2 l3 l4 l5 : Option AV) (s0 : Int32) (h : Hp), run 5 415 122 [l0, l1, l2, l3, l4, l5] [vi s0] h = some (some (vi s0), h)) := ⟨(fun _ _ _ _ _ _ _ => run_next rfl rfl),
  (fun _ _ _ _ _ s0 _ => run_next rfl rfl),
  (fun _ _ _ _ _ s0 _ _ => run_next rfl rfl),
  (fun _ _ _ _ _ s0 _ _ => run_next rfl rfl),
  (fun _ _ _ _ _ _ _ => run_next rfl rfl),
  (fun _ _ _ _ _ s0 _ => run_next rfl rfl),
  (fun _ _ _ _ _ s0 _ _ => run_next rfl rfl),
  (fun _ _ _ _ _ s0 _ _ => run_next rfl rfl),
  (fun _ _ _ _ _ _ _ => run_next rfl rfl),
  (fun _ _ _ _ _ s0 _ => run_next rfl rfl),
  (fun _ _ _ _ _ s0 _ _ => run_next rfl rfl),
  (fun _ _ _ _ _ s0 _ _ => run_next rfl rfl),
  (fun _ _ _ _ _ s0 _ _ => run_next rfl rfl),
  (fun _ _ _ _ _ _ _ _ _ _ => run_next rfl rfl),
  (fun _ _ _ _ _ _ s0 _ _ => run_if rfl rfl (run_next rfl) (run_next rfl)),
  (fun _ _ _ _ _ _ _ => run_next rfl rfl),
  (fun _ _ _ _ _ _ _ _ _ => run_next rfl rfl),
  (fun _ _ _ _ _ s0 _ _ => run_next rfl rfl),
  (fun _ _ _ _ _ _ s0 _ _ _ => run_if rfl rfl (run_fail rfl) (run_next rfl)),
  (fun _ _ _ _ _ _ s0 _ => run_next rfl rfl),
  (fun _ _ _ _ _ _ s0 _ _ => run_if rfl rfl (run_next rfl) (run_next rfl)),
  (fun _ _ _ _ _ _ _ => run_next rfl rfl),
  (fun _ _ _ _ _ s0 _ => run_next rfl rfl),
  (fun _ _ _ _ _ s0 _ _ => run_next rfl rfl),
  (fun _ _ _ _ _ s0 _ _ => run_next rfl rfl),
  (fun _ _ _ _ _ _ _ => run_next rfl rfl),
  (fun _ _ _ _ _ _ _ _ _ => run_next rfl rfl),
  (fun _ _ _ _ _ s0 _ _ => run_next rfl rfl),
  (fun _ _ _ _ _ _ s0 _ _ _ => run_if rfl rfl (run_fail rfl) (run_next rfl)),
  (fun _ _ _ _ _ _ s0 _ => (run_sw (fun e => by subst e; exact run_next rfl rfl) fun n0 => (run_sw (fun e => by subst e; exact run_next rfl rfl) fun n1 => run_lk (off := 51) rfl rfl ((lv_osw n0 (by decide)).trans ((lv_osw n1 (by decide)).trans rfl))))),
  (fun _ _ _ _ _ _ _ => run_next rfl rfl),
  (fun _ _ _ _ _ s0 _ _ => run_next rfl rfl),
  (fun _ _ _ _ _ s0 _ _ _ => run_next rfl rfl),
  (fun _ _ _ _ _ s0 _ _ _ _ => run_next rfl rfl),
  (fun _ _ _ _ _ _ s0 _ _ _ _ _ => run_calx rfl rfl (Nat.le_of_ble_eq_true rfl) (Nat.le_of_ble_eq_true rfl) rfl),
  (fun _ _ _ _ _ _ _ => run_next rfl rfl),
  (fun _ _ _ _ _ _ _ => run_next rfl rfl),
  (fun _ _ _ _ _ s0 _ _ => run_next rfl rfl),
  (fun _ _ _ _ _ s0 _ _ _ => run_next rfl rfl),
  (fun _ _ _ _ _ s0 _ _ _ _ => run_next rfl rfl),
  (fun _ _ _ _ _ _ s0 _ _ _ _ _ => run_calx rfl rfl (Nat.le_of_ble_eq_true rfl) (Nat.le_of_ble_eq_true rfl) rfl),
  (fun _ _ _ _ _ s0 _ => run_next rfl rfl),
  (fun _ _ _ _ _ s0 _ _ => run_next rfl rfl),
  (fun _ _ _ _ _ s0 _ _ => run_next rfl rfl),
  (fun _ _ _ _ _ _ _ => run_next rfl rfl),
  (fun _ _ _ _ _ _ _ => run_next rfl rfl),
  (fun _ _ _ _ _ s0 _ _ => run_next rfl rfl),
  (fun _ _ _ _ _ s0 _ _ _ => run_next rfl rfl),
  (fun _ _ _ _ _ _ s0 _ _ _ _ => run_calx rfl rfl (Nat.le_of_ble_eq_true rfl) (Nat.le_of_ble_eq_true rfl) rfl),
  (fun _ _ _ _ _ s0 _ => run_next rfl rfl),
  (fun _ _ _ _ _ s0 _ _ => run_next rfl rfl),
  (fun _ _ _ _ _ s0 _ _ => run_next rfl rfl),
  (fun _ _ _ _ _ _ _ => run_next rfl rfl),
  (fun _ _ _ _ _ _ s0 _ => run_if rfl rfl (run_next rfl) (run_next rfl)),
  (fun _ _ _ _ _ _ _ => run_next rfl rfl),
  (fun _ _ _ _ _ s0 _ _ => run_next rfl rfl),
  (fun _ _ _ _ _ _ s0 _ _ => run_next rfl rfl),
  (fun _ _ _ _ _ _ s0 _ => run_ret rfl rfl),
  (fun _ _ _ _ _ _ => run_next rfl rfl),
  (fun _ _ _ _ _ _ _ => run_next rfl rfl),
  (fun _ _ _ _ _ _ _ => run_next rfl rfl),
  (fun _ _ _ _ _ _ _ => run_next rfl rfl),
  (fun _ _ _ _ _ _ s0 _ => run_next rfl rfl),
  (fun _ _ _ _ _ _ s0 _ _ => run_next rfl rfl),
  (fun _ _ _ _ _ s0 _ => run_next rfl rfl),
  (fun _ _ _ _ _ s0 _ _ => run_next rfl rfl),
  (fun _ _ _ _ _ s0 _ _ => run_next rfl rfl),
  (fun _ _ _ _ _ _ => run_next rfl rfl),
  (fun _ _ _ _ _ _ _ => run_next rfl rfl),
  (fun _ _ _ _ _ _ _ => run_next rfl rfl),
  (fun _ _ _ _ _ _ _ => run_next rfl rfl),
  (fun _ _ _ _ _ _ _ => run_next rfl rfl),
  (fun _ _ _ _ _ _ s0 _ => run_ret rfl rfl)⟩
set_option maxRecDepth 20000 in
theorem x_415_7 : (∀ (l0 l1 l2 l3 l5 : Option AV) (w : Int32) (h : Hp), run 5 415 7 [l0, l1, l2, l3, some (vi w), l5] [] h = run 5 415 9 [l0, l1, l2, l3, some (vi w), l5] [vi w] h) := (fun _ _ _ _ _ _ _ => run_next rfl rfl)
theorem e_415 (v : Option Rf) (a0 : Option Rf) (h : Hp) : call 415 [vo v, vo a0] h = run 5 415 0 [some (vo v), some (vo a0), none, none, none, none] [] h := rfl
set_option maxRecDepth 20000 in
theorem x_416 : (∀ (l0 l1 l2 l3 l4 l5 l6 l7 l8 : Option AV) (h : Hp), run 3 416 0 [l0, l1, l2, l3, l4, l5, l6, l7, l8] [] h = run 3 416 1 [l0, l1, l2, l3, l4, l5, l6, l7, l8] [vi (1 : Int32)] h) ∧
  (∀ (l0 l1 l2 l4 l5 l6 l7 l8 : Option AV) (s0 : Int32) (h : Hp), run 3 416 1 [l0, l1, l2, none, l4, l5, l6, l7, l8] [vi s0] h = run 3 416 3 [l0, l1, l2, none, some (vi s0), l5, l6, l7, l8] [] h) ∧
  (∀ (l0 l1 l2 l4 l5 l6 l7 l8 : Option AV) (s0 : Int32) (w1 : Int32) (h : Hp), run 3 416 1 [l0, l1, l2, some (vi w1), l4, l5, l6, l7, l8] [vi s0] h = run 3 416 3 [l0, l1, l2, some (vi w1), some (vi s0), l5, l6, l7, l8] [] h) ∧
  (∀ (l0 l1 l2 l4 l5 l6 l7 l8 : Option AV) (s0 : Int32) (w1 : Option Rf) (h : Hp), run 3 416 1 [l0, l1, l2, some (vo w1), l4, l5, l6, l7, l8] [vi s0] h = run 3 416 3 [l0, l1, l2, some (vo w1), some (vi s0), l5, l6, l7, l8] [] h) ∧
  (∀ (l0 l1 l2 l3 l4 l5 l6 l7 l8 : Option AV) (h : Hp), run 3 416 3 [l0, l1, l2, l3, l4, l5, l6, l7, l8] [] h = run 3 416 4 [l0, l1, l2, l3, l4, l5, l6, l7, l8] [vi (0 : Int32)] h) ∧
  (∀ (l0 l1 l2 l3 l5 l6 l7 l8 : Option AV) (s0 : Int32) (h : Hp), run 3 416 4 [l0, l1, l2, l3, none, l5, l6, l7, l8] [vi s0] h = run 3 416 6 [l0, l1, l2, l3, none, some (vi s0), l6, l7, l8] [] h) ∧
  (∀ (l0 l1 l2 l3 l5 l6 l7 l8 : Option AV) (s0 : Int32) (w1 : Int32) (h : Hp), run 3 416 4 [l0, l1, l2, l3, some (vi w1), l5, l6, l7, l8] [vi s0] h = run 3 416 6 [l0, l1, l2, l3, some (vi w1), some (vi s0), l6, l7, l8] [] h) ∧
  (∀ (l0 l1 l2 l3 l5 l6 l7 l8 : Option AV) (s0 : Int32) (w1 : Option Rf) (h : Hp), run 3 416 4 [l0, l1, l2, l3, some (vo w1), l5, l6, l7, l8] [vi s0] h = run 3 416 6 [l0, l1, l2, l3, some (vo w1), some (vi s0), l6, l7, l8] [] h) ∧
  (∀ (l0 l1 l2 l3 l4 l5 l6 l7 l8 : Option AV) (h : Hp), run 3 416 6 [l0, l1, l2, l3, l4, l5, l6, l7, l8] [] h = run 3 416 7 [l0, l1, l2, l3, l4, l5, l6, l7, l8] [vi (0 : Int32)] h) ∧
  (∀ (l0 l1 l2 l3 l4 l6 l7 l8 : Option AV) (s0 : Int32) (h : Hp), run 3 416 7 [l0, l1, l2, l3, l4, none, l6, l7, l8] [vi s0] h = run 3 416 9 [l0, l1, l2, l3, l4, none, some (vi s0), l7, l8] [] h) ∧
  (∀ (l0 l1 l2 l3 l4 l6 l7 l8 : Option AV) (s0 : Int32) (w1 : Int32) (h : Hp), run 3 416 7 [l0, l1, l2, l3, l4, some (vi w1), l6, l7, l8] [vi s0] h = run 3 416 9 [l0, l1, l2, l3, l4, some (vi w1), some (vi s0), l7, l8] [] h) ∧
  (∀ (l0 l1 l2 l3 l4 l6 l7 l8 : Option AV) (s0 : Int32) (w1 : Option Rf) (h : Hp), run 3 416 7 [l0, l1, l2, l3, l4, some (vo w1), l6, l7, l8] [vi s0] h = run 3 416 9 [l0, l1, l2, l3, l4, some (vo w1), some (vi s0), l7, l8] [] h) ∧
  (∀ (l0 l1 l2 l3 l4 l5 l6 l7 l8 : Option AV) (h : Hp), run 3 416 9 [l0, l1, l2, l3, l4, l5, l6, l7, l8] [] h = run 3 416 10 [l0, l1, l2, l3, l4, l5, l6, l7, l8] [vi (0 : Int32)] h) ∧
  (∀ (l0 l1 l2 l3 l4 l5 l7 l8 : Option AV) (s0 : Int32) (h : Hp), run 3 416 10 [l0, l1, l2, l3, l4, l5, none, l7, l8] [vi s0] h = run 3 416 12 [l0, l1, l2, l3, l4, l5, none, some (vi s0), l8] [] h) ∧
  (∀ (l0 l1 l2 l3 l4 l5 l7 l8 : Option AV) (s0 : Int32) (w1 : Int32) (h : Hp), run 3 416 10 [l0, l1, l2, l3, l4, l5, some (vi w1), l7, l8] [vi s0] h = run 3 416 12 [l0, l1, l2, l3, l4, l5, some (vi w1), some (vi s0), l8] [] h) ∧
  (∀ (l0 l1 l2 l3 l4 l5 l7 l8 : Option AV) (s0 : Int32) (w1 : Option Rf) (h : Hp), run 3 416 10 [l0, l1, l2, l3, l4, l5, some (vo w1), l7, l8] [vi s0] h = run 3 416 12 [l0, l1, l2, l3, l4, l5, some (vo w1), some (vi s0), l8] [] h) ∧
  (∀ (l0 l1 l3 l4 l5 l6 l7 l8 : Option AV) (w : Int32) (h : Hp), run 3 416 12 [l0, l1, some (vi w), l3, l4, l5, l6, l7, l8] [] h = run 3 416 13 [l0, l1, some (vi w), l3, l4, l5, l6, l7, l8] [vi w] h) ∧
  (∀ (l0 l1 l2 l3 l4 l5 l6 l7 l8 : Option AV) (s0 : Int32) (h : Hp), run 3 416 13 [l0, l1, l2, l3, l4, l5, l6, l7, l8] [vi s0] h = run 3 416 14 [l0, l1, l2, l3, l4, l5, l6, l7, l8] [vi (1 : Int32), vi s0] h) ∧
  (∀ (l0 l1 l2 l3 l4 l5 l6 l7 l8 : Option AV) (s0 : Int32) (s1 : Int32) (h : Hp), run 3 416 14 [l0, l1, l2, l3, l4, l5, l6, l7, l8] [vi s0, vi s1] h = run 3 416 15 [l0, l1, l2, l3, l4, l5, l6, l7, l8] [vi (s1 + s0)] h) ∧
  (∀ (l0 l1 l2 l3 l4 l5 l6 l8 : Option AV) (s0 : Int32) (h : Hp), run 3 416 15 [l0, l1, l2, l3, l4, l5, l6, none, l8] [vi s0] h = run 3 416 17 [l0, l1, l2, l3, l4, l5, l6, none, some (vi s0)] [] h) ∧
  (∀ (l0 l1 l2 l3 l4 l5 l6 l8 : Option AV) (s0 : Int32) (w1 : Int32) (h : Hp), run 3 416 15 [l0, l1, l2, l3, l4, l5, l6, some (vi w1), l8] [vi s0] h = run 3 416 17 [l0, l1, l2, l3, l4, l5, l6, some (vi w1), some (vi s0)] [] h) ∧
  (∀ (l0 l1 l2 l3 l4 l5 l6 l8 : Option AV) (s0 : Int32) (w1 : Option Rf) (h : Hp), run 3 416 15 [l0, l1, l2, l3, l4, l5, l6, some (vo w1), l8] [vi s0] h = run 3 416 17 [l0, l1, l2, l3, l4, l5, l6, some (vo w1), some (vi s0)] [] h) ∧
  (∀ (l0 l1 l2 l4 l5 l6 l7 l8 : Option AV) (s0 : Int32) (w : Int32) (h : Hp), run 3 416 19 [l0, l1, l2, some (vi w), l4, l5, l6, l7, l8] [vi s0] h = run 3 416 20 [l0, l1, l2, some (vi w), l4, l5, l6, l7, l8] [vi w, vi s0] h) ∧
  (∀ (l0 l1 l2 l3 l4 l5 l6 l7 l8 : Option AV) (s0 : Int32) (s1 : Int32) (h : Hp), run 3 416 20 [l0, l1, l2, l3, l4, l5, l6, l7, l8] [vi s0, vi s1] h = if s0 ≤ s1 then run 3 416 89 [l0, l1, l2, l3, l4, l5, l6, l7, l8] [] h else run 3 416 23 [l0, l1, l2, l3, l4, l5, l6, l7, l8] [] h) ∧
  (∀ (l1 l2 l3 l4 l5 l6 l7 l8 : Option AV) (w : Option Rf) (h : Hp), run 3 416 23 [some (vo w), l1, l2, l3, l4, l5, l6, l7, l8] [] h = run 3 416 24 [some (vo w), l1, l2, l3, l4, l5, l6, l7, l8] [vo w] h) ∧
  (∀ (l0 l1 l2 l3 l4 l5 l6 l7 : Option AV) (s0 : Option Rf) (w : Int32) (h : Hp), run 3 416 24 [l0, l1, l2, l3, l4, l5, l6, l7, some (vi w)] [vo s0] h = run 3 416 26 [l0, l1, l2, l3, l4, l5, l6, l7, some (vi w)] [vi w, vo s0] h) ∧
  (∀ (l0 l1 l2 l3 l4 l5 l6 l7 l8 : Option AV) (s0 : Int32) (o z : Nat) (h : Hp), run 3 416 26 [l0, l1, l2, l3, l4, l5, l6, l7, l8] [vi s0, vo (some (o, 4, z))] h = (call 413 [vo (some (o, 4, z)), vi s0] h).bind (fun z => run 3 416 29 [l0, l1, l2, l3, l4, l5, l6, l7, l8] (z.1.toList ++ []) z.2)) ∧
  (∀ (l0 l1 l2 l3 l4 l5 l6 l7 l8 : Option AV) (s0 : Int32) (h : Hp), run 3 416 29 [l0, l1, l2, l3, l4, l5, l6, l7, l8] [vi s0] h = run 3 416 31 [l0, l1, l2, l3, l4, l5, l6, l7, l8] [vi (47 : Int32), vi s0] h) ∧
  (∀ (l0 l1 l2 l3 l4 l5 l6 l7 l8 : Option AV) (s0 : Int32) (s1 : Int32) (h : Hp), run 3 416 31 [l0, l1, l2, l3, l4, l5, l6, l7, l8] [vi s0, vi s1] h = if s1 = s0 then run 3 416 34 [l0, l1, l2, l3, l4, l5, l6, l7, l8] [] h else run 3 416 40 [l0, l1, l2, l3, l4, l5, l6, l7, l8] [] h) ∧
  (∀ (l0 l1 l2 l5 l6 l7 l8 : Option AV) (w : Int32) (h : Hp), run 3 416 34 [l0, l1, l2, none, some (vi w), l5, l6, l7, l8] [] h = run 3 416 37 [l0, l1, l2, none, some (vi (w + (1 : Int32))), l5, l6, l7, l8] [] h) ∧
  (∀ (l0 l1 l2 l5 l6 l7 l8 : Option AV) (w1 : Int32) (w : Int32) (h : Hp), run 3 416 34 [l0, l1, l2, some (vi w1), some (vi w), l5, l6, l7, l8] [] h = run 3 416 37 [l0, l1, l2, some (vi w1), some (vi (w + (1 : Int32))), l5, l6, l7, l8] [] h) ∧
  (∀ (l0 l1 l2 l5 l6 l7 l8 : Option AV) (w1 : Option Rf) (w : Int32) (h : Hp), run 3 416 34 [l0, l1, l2, some (vo w1), some (vi w), l5, l6, l7, l8] [] h = run 3 416 37 [l0, l1, l2, some (vo w1), some (vi (w + (1 : Int32))), l5, l6, l7, l8] [] h) ∧
  (∀ (l0 l1 l2 l3 l4 l5 l6 l7 l8 : Option AV) (h : Hp), run 3 416 37 [l0, l1, l2, l3, l4, l5, l6, l7, l8] [] h = run 3 416 83 [l0, l1, l2, l3, l4, l5, l6, l7, l8] [] h) ∧
  (∀ (l0 l1 l2 l3 l4 l5 l6 l8 : Option AV) (w : Int32) (h : Hp), run 3 416 40 [l0, l1, l2, l3, l4, l5, l6, some (vi w), l8] [] h = run 3 416 42 [l0, l1, l2, l3, l4, l5, l6, some (vi w), l8] [vi w] h) ∧
  (∀ (l1 l2 l3 l4 l5 l6 l7 l8 : Option AV) (s0 : Int32) (w : Option Rf) (h : Hp), run 3 416 42 [some (vo w), l1, l2, l3, l4, l5, l6, l7, l8] [vi s0] h = run 3 416 43 [some (vo w), l1, l2, l3, l4, l5, l6, l7, l8] [vo w, vi s0] h) ∧
  (∀ (l0 l1 l2 l3 l4 l5 l6 l7 : Option AV) (s0 : Option Rf) (s1 : Int32) (w : Int32) (h : Hp), run 3 416 43 [l0, l1, l2, l3, l4, l5, l6, l7, some (vi w)] [vo s0, vi s1] h = run 3 416 45 [l0, l1, l2, l3, l4, l5, l6, l7, some (vi w)] [vi w, vo s0, vi s1] h) ∧
  (∀ (l0 l1 l2 l3 l4 l5 l6 l7 l8 : Option AV) (s0 : Int32) (s2 : Int32) (o z : Nat) (h : Hp), run 3 416 45 [l0, l1, l2, l3, l4, l5, l6, l7, l8] [vi s0, vo (some (o, 4, z)), vi s2] h = (call 413 [vo (some (o, 4, z)), vi s0] h).bind (fun z => run 3 416 48 [l0, l1, l2, l3, l4, l5, l6, l7, l8] (z.1.toList ++ [vi s2]) z.2)) ∧
  (∀ (l0 l1 l2 l3 l4 l5 l6 l7 l8 : Option AV) (s0 : Int32) (s1 : Int32) (h : Hp), run 3 416 48 [l0, l1, l2, l3, l4, l5, l6, l7, l8] [vi s0, vi s1] h = run 3 416 50 [l0, l1, l2, l3, l4, l5, l6, l7, l8] [vi (35 : Int32), vi s0, vi s1] h) ∧
  (∀ (l0 l1 l2 l3 l4 l5 l6 l7 l8 : Option AV) (s0 : Int32) (s1 : Int32) (s2 : Int32) (h : Hp), run 3 416 50 [l0, l1, l2, l3, l4, l5, l6, l7, l8] [vi s0, vi s1, vi s2] h = if s1 = s0 then run 3 416 53 [l0, l1, l2, l3, l4, l5, l6, l7, l8] [vi s2] h else run 3 416 60 [l0, l1, l2, l3, l4, l5, l6, l7, l8] [vi s2] h) ∧
  (∀ (l0 l1 l2 l3 l4 l5 l6 l7 l8 : Option AV) (s0 : Int32) (h : Hp), run 3 416 53 [l0, l1, l2, l3, l4, l5, l6, l7, l8] [vi s0] h = run 3 416 54 [l0, l1, l2, l3, l4, l5, l6, l7, l8] [vi (1 : Int32), vi s0] h) ∧
  (∀ (l0 l1 l2 l3 l4 l5 l7 l8 : Option AV) (s0 : Int32) (s1 : Int32) (w : Int32) (h : Hp), run 3 416 54 [l0, l1, l2, l3, l4, l5, some (vi w), l7, l8] [vi s0, vi s1] h = run 3 416 56 [l0, l1, l2, l3, l4, l5, some (vi w), l7, l8] [vi w, vi s0, vi s1] h) ∧
  (∀ (l0 l1 l2 l3 l4 l5 l6 l7 l8 : Option AV) (s0 : Int32) (s1 : Int32) (s2 : Int32) (h : Hp), run 3 416 56 [l0, l1, l2, l3, l4, l5, l6, l7, l8] [vi s0, vi s1, vi s2] h = run 3 416 57 [l0, l1, l2, l3, l4, l5, l6, l7, l8] [vi (s1 <<< (s0 &&& 31)), vi s2] h) ∧
  (∀ (l0 l1 l2 l3 l4 l5 l6 l7 l8 : Option AV) (s0 : Int32) (s1 : Int32) (h : Hp), run 3 416 57 [l0, l1, l2, l3, l4, l5, l6, l7, l8] [vi s0, vi s1] h = run 3 416 61 [l0, l1, l2, l3, l4, l5, l6, l7, l8] [vi s0, vi s1] h) ∧
  (∀ (l0 l1 l2 l3 l4 l5 l6 l7 l8 : Option AV) (s0 : Int32) (h : Hp), run 3 416 60 [l0, l1, l2, l3, l4, l5, l6, l7, l8] [vi s0] h = run 3 416 61 [l0, l1, l2, l3, l4, l5, l6, l7, l8] [vi (0 : Int32), vi s0] h) ∧
  (∀ (l0 l1 l2 l3 l4 l5 l6 l7 l8 : Option AV) (s0 : Int32) (s1 : Int32) (h : Hp), run 3 416 61 [l0, l1, l2, l3, l4, l5, l6, l7, l8] [vi s0, vi s1] h = run 3 416 62 [l0, l1, l2, l3, l4, l5, l6, l7, l8] [vi (s1 ||| s0)] h) ∧
  (∀ (l0 l1 l2 l3 l4 l5 l7 l8 : Option AV) (s0 : Int32) (h : Hp), run 3 416 62 [l0, l1, l2, l3, l4, l5, none, l7, l8] [vi s0] h = run 3 416 64 [l0, l1, l2, l3, l4, l5, none, some (vi s0), l8] [] h) ∧
  (∀ (l0 l1 l2 l3 l4 l5 l7 l8 : Option AV) (s0 : Int32) (w1 : Int32) (h : Hp), run 3 416 62 [l0, l1, l2, l3, l4, l5, some (vi w1), l7, l8] [vi s0] h = run 3 416 64 [l0, l1, l2, l3, l4, l5, some (vi w1), some (vi s0), l8] [] h) ∧
  (∀ (l0 l1 l2 l3 l4 l5 l7 l8 : Option AV) (s0 : Int32) (w1 : Option Rf) (h : Hp), run 3 416 62 [l0, l1, l2, l3, l4, l5, some (vo w1), l7, l8] [vi s0] h = run 3 416 64 [l0, l1, l2, l3, l4, l5, some (vo w1), some (vi s0), l8] [] h) ∧
  (∀ (l0 l1 l2 l3 l4 l7 l8 : Option AV) (w : Int32) (h : Hp), run 3 416 64 [l0, l1, l2, l3, l4, none, some (vi w), l7, l8] [] h = run 3 416 67 [l0, l1, l2, l3, l4, none, some (vi (w + (1 : Int32))), l7, l8] [] h) ∧
  (∀ (l0 l1 l2 l3 l4 l7 l8 : Option AV) (w1 : Int32) (w : Int32) (h : Hp), run 3 416 64 [l0, l1, l2, l3, l4, some (vi w1), some (vi w), l7, l8] [] h = run 3 416 67 [l0, l1, l2, l3, l4, some (vi w1), some (vi (w + (1 : Int32))), l7, l8] [] h) ∧
  (∀ (l0 l1 l2 l3 l4 l7 l8 : Option AV) (w1 : Option Rf) (w : Int32) (h : Hp), run 3 416 64 [l0, l1, l2, l3, l4, some (vo w1), some (vi w), l7, l8] [] h = run 3 416 67 [l0, l1, l2, l3, l4, some (vo w1), some (vi (w + (1 : Int32))), l7, l8] [] h) ∧
  (∀ (l0 l1 l2 l3 l4 l6 l7 l8 : Option AV) (w : Int32) (h : Hp), run 3 416 67 [l0, l1, l2, l3, l4, some (vi w), l6, l7, l8] [] h = run 3 416 69 [l0, l1, l2, l3, l4, some (vi w), l6, l7, l8] [vi w] h) ∧
  (∀ (l0 l1 l2 l3 l5 l6 l7 l8 : Option AV) (s0 : Int32) (w : Int32) (h : Hp), run 3 416 69 [l0, l1, l2, l3, some (vi w), l5, l6, l7, l8] [vi s0] h = run 3 416 71 [l0, l1, l2, l3, some (vi w), l5, l6, l7, l8] [vi w, vi s0] h) ∧
  (∀ (l0 l1 l2 l3 l4 l5 l6 l7 l8 : Option AV) (s0 : Int32) (s1 : Int32) (h : Hp), run 3 416 71 [l0, l1, l2, l3, l4, l5, l6, l7, l8] [vi s0, vi s1] h = run 3 416 72 [l0, l1, l2, l3, l4, l5, l6, l7, l8] [vi (1 : Int32), vi s0, vi s1] h) ∧
  (∀ (l0 l1 l2 l3 l4 l5 l6 l7 l8 : Option AV) (s0 : Int32) (s1 : Int32) (s2 : Int32) (h : Hp), run 3 416 72 [l0, l1, l2, l3, l4, l5, l6, l7, l8] [vi s0, vi s1, vi s2] h = if s1 = s0 then run 3 416 75 [l0, l1, l2, l3, l4, l5, l6, l7, l8] [vi s2] h else run 3 416 79 [l0, l1, l2, l3, l4, l5, l6, l7, l8] [vi s2] h) ∧
  (∀ (l0 l1 l2 l3 l4 l5 l6 l7 l8 : Option AV) (s0 : Int32) (h : Hp), run 3 416 75 [l0, l1, l2, l3, l4, l5, l6, l7, l8] [vi s0] h = run 3 416 76 [l0, l1, l2, l3, l4, l5, l6, l7, l8] [vi (1 : Int32), vi s0] h) ∧
  (∀ (l0 l1 l2 l3 l4 l5 l6 l7 l8 : Option AV) (s0 : Int32) (s1 : Int32) (h : Hp), run 3 416 76 [l0, l1, l2, l3, l4, l5, l6, l7, l8] [vi s0, vi s1] h = run 3 416 80 [l0, l1, l2, l3, l4, l5, l6, l7, l8] [vi s0, vi s1] h) ∧
  (∀ (l0 l1 l2 l3 l4 l5 l6 l7 l8 : Option AV) (s0 : Int32) (h : Hp), run 3 416 79 [l0, l1, l2, l3, l4, l5, l6, l7, l8] [vi s0] h = run 3 416 80 [l0, l1, l2, l3, l4, l5, l6, l7, l8] [vi (0 : Int32), vi s0] h) ∧
  (∀ (l0 l1 l2 l3 l4 l5 l6 l7 l8 : Option AV) (s0 : Int32) (s1 : Int32) (h : Hp), run 3 416 80 [l0, l1, l2, l3, l4, l5, l6, l7, l8] [vi s0, vi s1] h = run 3 416 81 [l0, l1, l2, l3, l4, l5, l6, l7, l8] [vi (s1 + s0)] h) ∧
  (∀ (l0 l1 l2 l3 l5 l6 l7 l8 : Option AV) (s0 : Int32) (h : Hp), run 3 416 81 [l0, l1, l2, l3, none, l5, l6, l7, l8] [vi s0] h = run 3 416 83 [l0, l1, l2, l3, none, some (vi s0), l6, l7, l8] [] h) ∧
  (∀ (l0 l1 l2 l3 l5 l6 l7 l8 : Option AV) (s0 : Int32) (w1 : Int32) (h : Hp), run 3 416 81 [l0, l1, l2, l3, some (vi w1), l5, l6, l7, l8] [vi s0] h = run 3 416 83 [l0, l1, l2, l3, some (vi w1), some (vi s0), l6, l7, l8] [] h) ∧
  (∀ (l0 l1 l2 l3 l5 l6 l7 l8 : Option AV) (s0 : Int32) (w1 : Option Rf) (h : Hp), run 3 416 81 [l0, l1, l2, l3, some (vo w1), l5, l6, l7, l8] [vi s0] h = run 3 416 83 [l0, l1, l2, l3, some (vo w1), some (vi s0), l6, l7, l8] [] h) ∧
  (∀ (l0 l1 l2 l3 l4 l5 l6 : Option AV) (w : Int32) (h : Hp), run 3 416 83 [l0, l1, l2, l3, l4, l5, l6, none, some (vi w)] [] h = run 3 416 86 [l0, l1, l2, l3, l4, l5, l6, none, some (vi (w + (1 : Int32)))] [] h) ∧
  (∀ (l0 l1 l2 l3 l4 l5 l6 : Option AV) (w1 : Int32) (w : Int32) (h : Hp), run 3 416 83 [l0, l1, l2, l3, l4, l5, l6, some (vi w1), some (vi w)] [] h = run 3 416 86 [l0, l1, l2, l3, l4, l5, l6, some (vi w1), some (vi (w + (1 : Int32)))] [] h) ∧
  (∀ (l0 l1 l2 l3 l4 l5 l6 : Option AV) (w1 : Option Rf) (w : Int32) (h : Hp), run 3 416 83 [l0, l1, l2, l3, l4, l5, l6, some (vo w1), some (vi w)] [] h = run 3 416 86 [l0, l1, l2, l3, l4, l5, l6, some (vo w1), some (vi (w + (1 : Int32)))] [] h) ∧
  (∀ (l0 l1 l2 l3 l4 l5 l6 l7 l8 : Option AV) (h : Hp), run 3 416 86 [l0, l1, l2, l3, l4, l5, l6, l7, l8] [] h = run 3 416 17 [l0, l1, l2, l3, l4, l5, l6, l7, l8] [] h) ∧
  (∀ (l0 l2 l3 l4 l5 l6 l7 l8 : Option AV) (w : Option Rf) (h : Hp), run 3 416 89 [l0, some (vo w), l2, l3, l4, l5, l6, l7, l8] [] h = run 3 416 90 [l0, some (vo w), l2, l3, l4, l5, l6, l7, l8] [vo w] h) ∧
  (∀ (l0 l1 l2 l3 l4 l5 l6 l7 l8 : Option AV) (s0 : Option Rf) (h : Hp), run 3 416 90 [l0, l1, l2, l3, l4, l5, l6, l7, l8] [vo s0] h = run 3 416 93 [l0, l1, l2, l3, l4, l5, l6, l7, l8] [vo (some (h.1.1, 5, 0)), vo s0] (hmk h 9)) ∧
  (∀ (l0 l1 l2 l3 l4 l5 l6 l7 l8 : Option AV) (s0 : Option Rf) (s1 : Option Rf) (h : Hp), run 3 416 93 [l0, l1, l2, l3, l4, l5, l6, l7, l8] [vo s0, vo s1] h = run 3 416 94 [l0, l1, l2, l3, l4, l5, l6, l7, l8] [vo s0, vo s0, vo s1] h) ∧
  (∀ (l0 l1 l2 l3 l5 l6 l7 l8 : Option AV) (s0 : Option Rf) (s1 : Option Rf) (s2 : Option Rf) (w : Int32) (h : Hp), run 3 416 94 [l0, l1, l2, l3, some (vi w), l5, l6, l7, l8] [vo s0, vo s1, vo s2] h = run 3 416 96 [l0, l1, l2, l3, some (vi w), l5, l6, l7, l8] [vi w, vo s0, vo s1, vo s2] h) ∧
  (∀ (l0 l1 l2 l3 l4 l6 l7 l8 : Option AV) (s0 : Int32) (s1 : Option Rf) (s2 : Option Rf) (s3 : Option Rf) (w : Int32) (h : Hp), run 3 416 96 [l0, l1, l2, l3, l4, some (vi w), l6, l7, l8] [vi s0, vo s1, vo s2, vo s3] h = run 3 416 98 [l0, l1, l2, l3, l4, some (vi w), l6, l7, l8] [vi w, vi s0, vo s1, vo s2, vo s3] h) ∧
  (∀ (l0 l1 l2 l3 l4 l5 l6 l8 : Option AV) (s0 : Int32) (s1 : Int32) (s2 : Option Rf) (s3 : Option Rf) (s4 : Option Rf) (w : Int32) (h : Hp), run 3 416 98 [l0, l1, l2, l3, l4, l5, l6, some (vi w), l8] [vi s0, vi s1, vo s2, vo s3, vo s4] h = run 3 416 100 [l0, l1, l2, l3, l4, l5, l6, some (vi w), l8] [vi w, vi s0, vi s1, vo s2, vo s3, vo s4] h) ∧
  (∀ (l0 l1 l2 l3 l4 l5 l6 l7 l8 : Option AV) (s0 : Int32) (s1 : Int32) (s2 : Int32) (s4 : Option Rf) (s5 : Option Rf) (o z : Nat) (h : Hp), run 3 416 100 [l0, l1, l2, l3, l4, l5, l6, l7, l8] [vi s0, vi s1, vi s2, vo (some (o, 5, z)), vo s4, vo s5] h = (call 500 [vo (some (o, 5, z)), vi s2, vi s1, vi s0] h).bind (fun z => run 3 416 103 [l0, l1, l2, l3, l4, l5, l6, l7, l8] (z.1.toList ++ [vo s4, vo s5]) z.2)) ∧
  (∀ (l0 l1 l2 l3 l4 l5 l6 l7 l8 : Option AV) (s0 : Option Rf) (o z : Nat) (h : Hp), run 3 416 103 [l0, l1, l2, l3, l4, l5, l6, l7, l8] [vo s0, vo (some (o, 10, z))] h = (call 1002 [vo (some (o, 10, z)), vo s0] h).bind (fun z => run 3 416 106 [l0, l1, l2, l3, l4, l5, l6, l7, l8] (z.1.toList ++ []) z.2)) ∧
  (∀ (l0 l1 l2 l3 l4 l5 l6 l7 l8 : Option AV) (h : Hp), run 3 416 106 [l0, l1, l2, l3, l4, l5, l6, l7, l8] [] h = some (none, h)) := ⟨(fun _ _ _ _ _ _ _ _ _ _ => run_next rfl rfl),
  (fun _ _ _ _ _ _ _ _ s0 _ => run_next rfl rfl),
  (fun _ _ _ _ _ _ _ _ s0 _ _ => run_next rfl rfl),
  (fun _ _ _ _ _ _ _ _ s0 _ _ => run_next rfl rfl),
  (fun _ _ _ _ _ _ _ _ _ _ => run_next rfl rfl),
  (fun _ _ _ _ _ _ _ _ s0 _ => run_next rfl rfl),
  (fun _ _ _ _ _ _ _ _ s0 _ _ => run_next rfl rfl),
  (fun _ _ _ _ _ _ _ _ s0 _ _ => run_next rfl rfl),
  (fun _ _ _ _ _ _ _ _ _ _ => run_next rfl rfl),
  (fun _ _ _ _ _ _ _ _ s0 _ => run_next rfl rfl),
  (fun _ _ _ _ _ _ _ _ s0 _ _ => run_next rfl rfl),
  (fun _ _ _ _ _ _ _ _ s0 _ _ => run_next rfl rfl),
  (fun _ _ _ _ _ _ _ _ _ _ => run_next rfl rfl),
  (fun _ _ _ _ _ _ _ _ s0 _ => run_next rfl rfl),
  (fun _ _ _ _ _ _ _ _ s0 _ _ => run_next rfl rfl),
  (fun _ _ _ _ _ _ _ _ s0 _ _ => run_next rfl rfl),
  (fun _ _ _ _ _ _ _ _ _ _ => run_next rfl rfl),
  (fun _ _ _ _ _ _ _ _ _ s0 _ => run_next rfl rfl),
  (fun _ _ _ _ _ _ _ _ _ s0 _ _ => run_next rfl rfl),
  (fun _ _ _ _ _ _ _ _ s0 _ => run_next rfl rfl),
  (fun _ _ _ _ _ _ _ _ s0 _ _ => run_next rfl rfl),
  (fun _ _ _ _ _ _ _ _ s0 _ _ => run_next rfl rfl),
  (fun _ _ _ _ _ _ _ _ s0 _ _ => run_next rfl rfl),
  (fun _ _ _ _ _ _ _ _ _ s0 _ _ => run_if rfl rfl (run_next rfl) (run_next rfl)),
  (fun _ _ _ _ _ _ _ _ _ _ => run_next rfl rfl),
  (fun _ _ _ _ _ _ _ _ s0 _ _ => run_next rfl rfl),
  (fun _ _ _ _ _ _ _ _ _ s0 _ _ _ => run_calx rfl rfl (Nat.le_of_ble_eq_true rfl) (Nat.le_of_ble_eq_true rfl) rfl),
  (fun _ _ _ _ _ _ _ _ _ s0 _ => run_next rfl rfl),
  (fun _ _ _ _ _ _ _ _ _ s0 _ _ => run_if rfl rfl (run_next rfl) (run_next rfl)),
  (fun _ _ _ _ _ _ _ _ _ => run_next rfl rfl),
  (fun _ _ _ _ _ _ _ _ _ _ => run_next rfl rfl),
  (fun _ _ _ _ _ _ _ _ _ _ => run_next rfl rfl),
  (fun _ _ _ _ _ _ _ _ _ _ => run_next rfl rfl),
  (fun _ _ _ _ _ _ _ _ _ _ => run_next rfl rfl),
  (fun _ _ _ _ _ _ _ _ s0 _ _ => run_next rfl rfl),
  (fun _ _ _ _ _ _ _ _ s0 _ _ _ => run_next rfl rfl),
  (fun _ _ _ _ _ _ _ _ _ s0 _ _ _ _ => run_calx rfl rfl (Nat.le_of_ble_eq_true rfl) (Nat.le_of_ble_eq_true rfl) rfl),
  (fun _ _ _ _ _ _ _ _ _ s0 _ _ => run_next rfl rfl),
  (fun _ _ _ _ _ _ _ _ _ s0 _ _ _ => run_if rfl rfl (run_next rfl) (run_next rfl)),
  (fun _ _ _ _ _ _ _ _ _ s0 _ => run_next rfl rfl),
  (fun _ _ _ _ _ _ _ _ s0 _ _ _ => run_next rfl rfl),
  (fun _ _ _ _ _ _ _ _ _ s0 _ _ _ => run_next rfl rfl),
  (fun _ _ _ _ _ _ _ _ _ s0 _ _ => run_next rfl rfl),
  (fun _ _ _ _ _ _ _ _ _ s0 _ => run_next rfl rfl),
  (fun _ _ _ _ _ _ _ _ _ s0 _ _ => run_next rfl rfl),
  (fun _ _ _ _ _ _ _ _ s0 _ => run_next rfl rfl),
  (fun _ _ _ _ _ _ _ _ s0 _ _ => run_next rfl rfl),
  (fun _ _ _ _ _ _ _ _ s0 _ _ => run_next rfl rfl),
  (fun _ _ _ _ _ _ _ _ _ => run_next rfl rfl),
  (fun _ _ _ _ _ _ _ _ _ _ => run_next rfl rfl),
  (fun _ _ _ _ _ _ _ _ _ _ => run_next rfl rfl),
  (fun _ _ _ _ _ _ _ _ _ _ => run_next rfl rfl),
  (fun _ _ _ _ _ _ _ _ s0 _ _ => run_next rfl rfl),
  (fun _ _ _ _ _ _ _ _ _ s0 _ _ => run_next rfl rfl),
  (fun _ _ _ _ _ _ _ _ _ s0 _ _ _ => run_if rfl rfl (run_next rfl) (run_next rfl)),
  (fun _ _ _ _ _ _ _ _ _ s0 _ => run_next rfl rfl),
  (fun _ _ _ _ _ _ _ _ _ s0 _ _ => run_next rfl rfl),
  (fun _ _ _ _ _ _ _ _ _ s0 _ => run_next rfl rfl),
  (fun _ _ _ _ _ _ _ _ _ s0 _ _ => run_next rfl rfl),
  (fun _ _ _ _ _ _ _ _ s0 _ => run_next rfl rfl),
  (fun _ _ _ _ _ _ _ _ s0 _ _ => run_next rfl rfl),
  (fun _ _ _ _ _ _ _ _ s0 _ _ => run_next rfl rfl),
  (fun _ _ _ _ _ _ _ _ _ => run_next rfl rfl),
  (fun _ _ _ _ _ _ _ _ _ _ => run_next rfl rfl),
  (fun _ _ _ _ _ _ _ _ _ _ => run_next rfl rfl),
  (fun _ _ _ _ _ _ _ _ _ _ => run_next rfl rfl),
  (fun _ _ _ _ _ _ _ _ _ _ => run_next rfl rfl),
  (fun _ _ _ _ _ _ _ _ _ s0 _ => run_next rfl rfl),
  (fun _ _ _ _ _ _ _ _ _ s0 _ _ => run_next rfl rfl),
  (fun _ _ _ _ _ _ _ _ s0 _ _ _ _ => run_next rfl rfl),
  (fun _ _ _ _ _ _ _ _ s0 _ _ _ _ _ => run_next rfl rfl),
  (fun _ _ _ _ _ _ _ _ s0 _ _ _ _ _ _ => run_next rfl rfl),
  (fun _ _ _ _ _ _ _ _ _ s0 _ _ _ _ _ _ _ => run_calx rfl rfl (Nat.le_of_ble_eq_true rfl) (Nat.le_of_ble_eq_true rfl) rfl),
  (fun _ _ _ _ _ _ _ _ _ s0 _ _ _ => run_calx rfl rfl (Nat.le_of_ble_eq_true rfl) (Nat.le_of_ble_eq_true rfl) rfl),
  (fun _ _ _ _ _ _ _ _ _ _ => run_ret rfl rfl)⟩
set_option maxRecDepth 20000 in
theorem x_416_17 : (∀ (l0 l1 l2 l3 l4 l5 l6 l7 : Option AV) (w : Int32) (h : Hp), run 3 416 17 [l0, l1, l2, l3, l4, l5, l6, l7, some (vi w)] [] h = run 3 416 19 [l0, l1, l2, l3, l4, l5, l6, l7, some (vi w)] [vi w] h) := (fun _ _ _ _ _ _ _ _ _ _ => run_next rfl rfl)
theorem e_416 (v : Option Rf) (a0 : Option Rf) (a1 : Int32) (a2 : Int32) (h : Hp) : call 416 [vo v, vo a0, vi a1, vi a2] h = run 3 416 0 [some (vo v), some (vo a0), some (vi a1), some (vi a2), none, none, none, none, none] [] h := rfl
set_option maxRecDepth 20000 in
theorem x_417 : (∀ (l1 l2 l3 l4 l5 l6 l7 : Option AV) (w : Option Rf) (h : Hp), run 4 417 0 [some (vo w), l1, l2, l3, l4, l5, l6, l7] [] h = run 4 417 1 [some (vo w), l1, l2, l3, l4, l5, l6, l7] [vo w] h) ∧
  (∀ (l0 l1 l3 l4 l5 l6 l7 : Option AV) (s0 : Option Rf) (w : Int32) (h : Hp), run 4 417 1 [l0, l1, some (vi w), l3, l4, l5, l6, l7] [vo s0] h = run 4 417 2 [l0, l1, some (vi w), l3, l4, l5, l6, l7] [vi w, vo s0] h) ∧
  (∀ (l0 l1 l2 l3 l4 l5 l6 l7 : Option AV) (s0 : Int32) (s1 : Option Rf) (h : Hp), run 4 417 2 [l0, l1, l2, l3, l4, l5, l6, l7] [vi s0, vo s1] h = run 4 417 3 [l0, l1, l2, l3, l4, l5, l6, l7] [vi (3 : Int32), vi s0, vo s1] h) ∧
  (∀ (l0 l1 l2 l3 l4 l5 l6 l7 : Option AV) (s0 : Int32) (s1 : Int32) (s2 : Option Rf) (h : Hp), run 4 417 3 [l0, l1, l2, l3, l4, l5, l6, l7] [vi s0, vi s1, vo s2] h = run 4 417 4 [l0, l1, l2, l3, l4, l5, l6, l7] [vi (s1 + s0), vo s2] h) ∧
  (∀ (l0 l1 l2 l3 l4 l5 l6 l7 : Option AV) (s0 : Int32) (o z : Nat) (h : Hp), run 4 417 4 [l0, l1, l2, l3, l4, l5, l6, l7] [vi s0, vo (some (o, 4, z))] h = (call 414 [vo (some (o, 4, z)), vi s0] h).bind (fun z => run 4 417 7 [l0, l1, l2, l3, l4, l5, l6, l7] (z.1.toList ++ []) z.2)) ∧
  (∀ (l0 l1 l2 l4 l5 l6 l7 : Option AV) (s0 : Int32) (h : Hp), run 4 417 7 [l0, l1, l2, none, l4, l5, l6, l7] [vi s0] h = run 4 417 9 [l0, l1, l2, none, some (vi s0), l5, l6, l7] [] h) ∧
  (∀ (l0 l1 l2 l4 l5 l6 l7 : Option AV) (s0 : Int32) (w1 : Int32) (h : Hp), run 4 417 7 [l0, l1, l2, some (vi w1), l4, l5, l6, l7] [vi s0] h = run 4 417 9 [l0, l1, l2, some (vi w1), some (vi s0), l5, l6, l7] [] h) ∧
  (∀ (l0 l1 l2 l4 l5 l6 l7 : Option AV) (s0 : Int32) (w1 : Option Rf) (h : Hp), run 4 417 7 [l0, l1, l2, some (vo w1), l4, l5, l6, l7] [vi s0] h = run 4 417 9 [l0, l1, l2, some (vo w1), some (vi s0), l5, l6, l7] [] h) ∧
  (∀ (l0 l1 l3 l4 l5 l6 l7 : Option AV) (w : Int32) (h : Hp), run 4 417 9 [l0, l1, some (vi w), l3, l4, l5, l6, l7] [] h = run 4 417 10 [l0, l1, some (vi w), l3, l4, l5, l6, l7] [vi w] h) ∧
  (∀ (l0 l1 l2 l3 l4 l5 l6 l7 : Option AV) (s0 : Int32) (h : Hp), run 4 417 10 [l0, l1, l2, l3, l4, l5, l6, l7] [vi s0] h = run 4 417 11 [l0, l1, l2, l3, l4, l5, l6, l7] [vi (4 : Int32), vi s0] h) ∧
  (∀ (l0 l1 l2 l3 l4 l5 l6 l7 : Option AV) (s0 : Int32) (s1 : Int32) (h : Hp), run 4 417 11 [l0, l1, l2, l3, l4, l5, l6, l7] [vi s0, vi s1] h = run 4 417 12 [l0, l1, l2, l3, l4, l5, l6, l7] [vi (s1 + s0)] h) ∧
  (∀ (l0 l1 l2 l3 l5 l6 l7 : Option AV) (s0 : Int32) (h : Hp), run 4 417 12 [l0, l1, l2, l3, none, l5, l6, l7] [vi s0] h = run 4 417 14 [l0, l1, l2, l3, none, some (vi s0), l6, l7] [] h) ∧
  (∀ (l0 l1 l2 l3 l5 l6 l7 : Option AV) (s0 : Int32) (w1 : Int32) (h : Hp), run 4 417 12 [l0, l1, l2, l3, some (vi w1), l5, l6, l7] [vi s0] h = run 4 417 14 [l0, l1, l2, l3, some (vi w1), some (vi s0), l6, l7] [] h) ∧
  (∀ (l0 l1 l2 l3 l5 l6 l7 : Option AV) (s0 : Int32) (w1 : Option Rf) (h : Hp), run 4 417 12 [l0, l1, l2, l3, some (vo w1), l5, l6, l7] [vi s0] h = run 4 417 14 [l0, l1, l2, l3, some (vo w1), some (vi s0), l6, l7] [] h) ∧
  (∀ (l1 l2 l3 l4 l5 l6 l7 : Option AV) (w : Option Rf) (h : Hp), run 4 417 14 [some (vo w), l1, l2, l3, l4, l5, l6, l7] [] h = run 4 417 15 [some (vo w), l1, l2, l3, l4, l5, l6, l7] [vo w] h) ∧
  (∀ (l0 l1 l2 l3 l4 l6 l7 : Option AV) (s0 : Option Rf) (w : Int32) (h : Hp), run 4 417 15 [l0, l1, l2, l3, l4, some (vi w), l6, l7] [vo s0] h = run 4 417 17 [l0, l1, l2, l3, l4, some (vi w), l6, l7] [vi w, vo s0] h) ∧
  (∀ (l0 l1 l2 l3 l4 l5 l6 l7 : Option AV) (s0 : Int32) (o z : Nat) (h : Hp), run 4 417 17 [l0, l1, l2, l3, l4, l5, l6, l7] [vi s0, vo (some (o, 4, z))] h = (call 413 [vo (some (o, 4, z)), vi s0] h).bind (fun z => run 4 417 20 [l0, l1, l2, l3, l4, l5, l6, l7] (z.1.toList ++ []) z.2)) ∧
  (∀ (l0 l1 l2 l3 l4 l5 l6 l7 : Option AV) (s0 : Int32) (h : Hp), run 4 417 20 [l0, l1, l2, l3, l4, l5, l6, l7] [vi s0] h = (call 411 [vi s0] h).bind (fun z => run 4 417 23 [l0, l1, l2, l3, l4, l5, l6, l7] (z.1.toList ++ []) z.2)) ∧
  (∀ (l0 l1 l2 l3 l4 l5 l6 l7 : Option AV) (s0 : Int32) (h : Hp), run 4 417 23 [l0, l1, l2, l3, l4, l5, l6, l7] [vi s0] h = if s0 = 0 then run 4 417 43 [l0, l1, l2, l3, l4, l5, l6, l7] [] h else run 4 417 26 [l0, l1, l2, l3, l4, l5, l6, l7] [] h) ∧
  (∀ (l0 l1 l2 l3 l5 l6 l7 : Option AV) (w : Int32) (h : Hp), run 4 417 26 [l0, l1, l2, l3, some (vi w), l5, l6, l7] [] h = run 4 417 28 [l0, l1, l2, l3, some (vi w), l5, l6, l7] [vi w] h) ∧
  (∀ (l0 l1 l2 l3 l4 l5 l6 l7 : Option AV) (s0 : Int32) (h : Hp), run 4 417 28 [l0, l1, l2, l3, l4, l5, l6, l7] [vi s0] h = run 4 417 30 [l0, l1, l2, l3, l4, l5, l6, l7] [vi (10 : Int32), vi s0] h) ∧
  (∀ (l0 l1 l2 l3 l4 l5 l6 l7 : Option AV) (s0 : Int32) (s1 : Int32) (h : Hp), run 4 417 30 [l0, l1, l2, l3, l4, l5, l6, l7] [vi s0, vi s1] h = run 4 417 31 [l0, l1, l2, l3, l4, l5, l6, l7] [vi (s1 * s0)] h) ∧
  (∀ (l1 l2 l3 l4 l5 l6 l7 : Option AV) (s0 : Int32) (w : Option Rf) (h : Hp), run 4 417 31 [some (vo w), l1, l2, l3, l4, l5, l6, l7] [vi s0] h = run 4 417 32 [some (vo w), l1, l2, l3, l4, l5, l6, l7] [vo w, vi s0] h) ∧
  (∀ (l0 l1 l2 l3 l4 l6 l7 : Option AV) (s0 : Option Rf) (s1 : Int32) (w : Int32) (h : Hp), run 4 417 32 [l0, l1, l2, l3, l4, some (vi w), l6, l7] [vo s0, vi s1] h = run 4 417 34 [l0, l1, l2, l3, l4, some (vi w), l6, l7] [vi w, vo s0, vi s1] h) ∧
  (∀ (l0 l1 l2 l3 l4 l5 l6 l7 : Option AV) (s0 : Int32) (s2 : Int32) (o z : Nat) (h : Hp), run 4 417 34 [l0, l1, l2, l3, l4, l5, l6, l7] [vi s0, vo (some (o, 4, z)), vi s2] h = (call 414 [vo (some (o, 4, z)), vi s0] h).bind (fun z => run 4 417 37 [l0, l1, l2, l3, l4, l5, l6, l7] (z.1.toList ++ [vi s2]) z.2)) ∧
  (∀ (l0 l1 l2 l3 l4 l5 l6 l7 : Option AV) (s0 : Int32) (s1 : Int32) (h : Hp), run 4 417 37 [l0, l1, l2, l3, l4, l5, l6, l7] [vi s0, vi s1] h = run 4 417 38 [l0, l1, l2, l3, l4, l5, l6, l7] [vi (s1 + s0)] h) ∧
  (∀ (l0 l1 l2 l4 l5 l6 l7 : Option AV) (s0 : Int32) (h : Hp), run 4 417 38 [l0, l1, l2, none, l4, l5, l6, l7] [vi s0] h = run 4 417 40 [l0, l1, l2, none, some (vi s0), l5, l6, l7] [] h) ∧
  (∀ (l0 l1 l2 l4 l5 l6 l7 : Option AV) (s0 : Int32) (w1 : Int32) (h : Hp), run 4 417 38 [l0, l1, l2, some (vi w1), l4, l5, l6, l7] [vi s0] h = run 4 417 40 [l0, l1, l2, some (vi w1), some (vi s0), l5, l6, l7] [] h) ∧
  (∀ (l0 l1 l2 l4 l5 l6 l7 : Option AV) (s0 : Int32) (w1 : Option Rf) (h : Hp), run 4 417 38 [l0, l1, l2, some (vo w1), l4, l5, l6, l7] [vi s0] h = run 4 417 40 [l0, l1, l2, some (vo w1), some (vi s0), l5, l6, l7] [] h) ∧
  (∀ (l0 l1 l2 l3 l6 l7 : Option AV) (w : Int32) (h : Hp), run 4 417 40 [l0, l1, l2, l3, none, some (vi w), l6, l7] [] h = run 4 417 43 [l0, l1, l2, l3, none, some (vi (w + (1 : Int32))), l6, l7] [] h) ∧
  (∀ (l0 l1 l2 l3 l6 l7 : Option AV) (w1 : Int32) (w : Int32) (h : Hp), run 4 417 40 [l0, l1, l2, l3, some (vi w1), some (vi w), l6, l7] [] h = run 4 417 43 [l0, l1, l2, l3, some (vi w1), some (vi (w + (1 : Int32))), l6, l7] [] h) ∧
  (∀ (l0 l1 l2 l3 l6 l7 : Option AV) (w1 : Option Rf) (w : Int32) (h : Hp), run 4 417 40 [l0, l1, l2, l3, some (vo w1), some (vi w), l6, l7] [] h = run 4 417 43 [l0, l1, l2, l3, some (vo w1), some (vi (w + (1 : Int32))), l6, l7] [] h) ∧
  (∀ (l0 l1 l2 l3 l4 l5 l6 l7 : Option AV) (h : Hp), run 4 417 43 [l0, l1, l2, l3, l4, l5, l6, l7] [] h = run 4 417 44 [l0, l1, l2, l3, l4, l5, l6, l7] [vi (0 : Int32)] h) ∧
  (∀ (l0 l1 l2 l4 l5 l6 l7 : Option AV) (s0 : Int32) (w : Int32) (h : Hp), run 4 417 44 [l0, l1, l2, some (vi w), l4, l5, l6, l7] [vi s0] h = run 4 417 45 [l0, l1, l2, some (vi w), l4, l5, l6, l7] [vi w, vi s0] h) ∧
  (∀ (l0 l1 l2 l3 l4 l6 l7 : Option AV) (s0 : Int32) (s1 : Int32) (w : Int32) (h : Hp), run 4 417 45 [l0, l1, l2, l3, l4, some (vi w), l6, l7] [vi s0, vi s1] h = run 4 417 47 [l0, l1, l2, l3, l4, some (vi w), l6, l7] [vi w, vi s0, vi s1] h) ∧
  (∀ (l0 l1 l2 l3 l4 l5 l6 l7 : Option AV) (s0 : Int32) (s1 : Int32) (s2 : Int32) (h : Hp), run 4 417 47 [l0, l1, l2, l3, l4, l5, l6, l7] [vi s0, vi s1, vi s2] h = run 4 417 48 [l0, l1, l2, l3, l4, l5, l6, l7] [vi (s1 - s0), vi s2] h) ∧
  (∀ (l0 l1 l2 l3 l4 l5 l6 l7 : Option AV) (s0 : Int32) (s1 : Int32) (h : Hp), run 4 417 48 [l0, l1, l2, l3, l4, l5, l6, l7] [vi s0, vi s1] h = run 4 417 51 [l0, l1, l2, l3, l4, l5, l6, l7] [vi (if s1 < s0 then s0 else s1)] h) ∧
  (∀ (l0 l1 l2 l3 l4 l5 l6 l7 : Option AV) (s0 : Int32) (h : Hp), run 4 417 51 [l0, l1, l2, l3, l4, l5, l6, l7] [vi s0] h = if s0 < 0 ∨ 100000 ≤ s0.toNatClampNeg then none else run 4 417 53 [l0, l1, l2, l3, l4, l5, l6, l7] [vo (some (h.1.1, 13, s0.toNatClampNeg))] (hmk h s0.toNatClampNeg)) ∧
  (∀ (l0 l1 l2 l3 l4 l6 l7 : Option AV) (s0 : Option Rf) (h : Hp), run 4 417 53 [l0, l1, l2, l3, l4, none, l6, l7] [vo s0] h = run 4 417 55 [l0, l1, l2, l3, l4, none, some (vo s0), l7] [] h) ∧
  (∀ (l0 l1 l2 l3 l4 l6 l7 : Option AV) (s0 : Option Rf) (w1 : Int32) (h : Hp), run 4 417 53 [l0, l1, l2, l3, l4, some (vi w1), l6, l7] [vo s0] h = run 4 417 55 [l0, l1, l2, l3, l4, some (vi w1), some (vo s0), l7] [] h) ∧
  (∀ (l0 l1 l2 l3 l4 l6 l7 : Option AV) (s0 : Option Rf) (w1 : Option Rf) (h : Hp), run 4 417 53 [l0, l1, l2, l3, l4, some (vo w1), l6, l7] [vo s0] h = run 4 417 55 [l0, l1, l2, l3, l4, some (vo w1), some (vo s0), l7] [] h) ∧
  (∀ (l0 l1 l2 l3 l4 l5 l6 l7 : Option AV) (h : Hp), run 4 417 55 [l0, l1, l2, l3, l4, l5, l6, l7] [] h = run 4 417 56 [l0, l1, l2, l3, l4, l5, l6, l7] [vi (0 : Int32)] h) ∧
  (∀ (l0 l1 l2 l3 l4 l5 l7 : Option AV) (s0 : Int32) (h : Hp), run 4 417 56 [l0, l1, l2, l3, l4, l5, none, l7] [vi s0] h = run 4 417 58 [l0, l1, l2, l3, l4, l5, none, some (vi s0)] [] h) ∧
  (∀ (l0 l1 l2 l3 l4 l5 l7 : Option AV) (s0 : Int32) (w1 : Int32) (h : Hp), run 4 417 56 [l0, l1, l2, l3, l4, l5, some (vi w1), l7] [vi s0] h = run 4 417 58 [l0, l1, l2, l3, l4, l5, some (vi w1), some (vi s0)] [] h) ∧
  (∀ (l0 l1 l2 l3 l4 l5 l7 : Option AV) (s0 : Int32) (w1 : Option Rf) (h : Hp), run 4 417 56 [l0, l1, l2, l3, l4, l5, some (vo w1), l7] [vi s0] h = run 4 417 58 [l0, l1, l2, l3, l4, l5, some (vo w1), some (vi s0)] [] h) ∧
  (∀ (l0 l1 l2 l3 l4 l5 l7 : Option AV) (s0 : Int32) (w : Option Rf) (h : Hp), run 4 417 60 [l0, l1, l2, l3, l4, l5, some (vo w), l7] [vi s0] h = run 4 417 62 [l0, l1, l2, l3, l4, l5, some (vo w), l7] [vo w, vi s0] h) ∧
  (∀ (l0 l1 l2 l3 l4 l5 l6 l7 : Option AV) (s1 : Int32) (o z : Nat) (h : Hp), run 4 417 62 [l0, l1, l2, l3, l4, l5, l6, l7] [vo (some (o, 13, z)), vi s1] h = run 4 417 63 [l0, l1, l2, l3, l4, l5, l6, l7] [vi (Int32.ofNat z), vi s1] h) ∧
  (∀ (l0 l1 l2 l3 l4 l5 l6 l7 : Option AV) (s1 : Int32) (o z : Nat) (h : Hp), run 4 417 62 [l0, l1, l2, l3, l4, l5, l6, l7] [vo (some (o, 14, z)), vi s1] h = run 4 417 63 [l0, l1, l2, l3, l4, l5, l6, l7] [vi (Int32.ofNat z), vi s1] h) ∧
  (∀ (l0 l1 l2 l3 l4 l5 l6 l7 : Option AV) (s1 : Int32) (o z : Nat) (h : Hp), run 4 417 62 [l0, l1, l2, l3, l4, l5, l6, l7] [vo (some (o, 15, z)), vi s1] h = run 4 417 63 [l0, l1, l2, l3, l4, l5, l6, l7] [vi (Int32.ofNat z), vi s1] h) ∧
  (∀ (l0 l1 l2 l3 l4 l5 l6 l7 : Option AV) (s0 : Int32) (s1 : Int32) (h : Hp), run 4 417 63 [l0, l1, l2, l3, l4, l5, l6, l7] [vi s0, vi s1] h = if s0 ≤ s1 then run 4 417 89 [l0, l1, l2, l3, l4, l5, l6, l7] [] h else run 4 417 66 [l0, l1, l2, l3, l4, l5, l6, l7] [] h) ∧
  (∀ (l0 l1 l2 l3 l4 l5 l7 : Option AV) (w : Option Rf) (h : Hp), run 4 417 66 [l0, l1, l2, l3, l4, l5, some (vo w), l7] [] h = run 4 417 68 [l0, l1, l2, l3, l4, l5, some (vo w), l7] [vo w] h) ∧
  (∀ (l0 l1 l2 l3 l4 l5 l6 : Option AV) (s0 : Option Rf) (w : Int32) (h : Hp), run 4 417 68 [l0, l1, l2, l3, l4, l5, l6, some (vi w)] [vo s0] h = run 4 417 70 [l0, l1, l2, l3, l4, l5, l6, some (vi w)] [vi w, vo s0] h) ∧
  (∀ (l1 l2 l3 l4 l5 l6 l7 : Option AV) (s0 : Int32) (s1 : Option Rf) (w : Option Rf) (h : Hp), run 4 417 70 [some (vo w), l1, l2, l3, l4, l5, l6, l7] [vi s0, vo s1] h = run 4 417 71 [some (vo w), l1, l2, l3, l4, l5, l6, l7] [vo w, vi s0, vo s1] h) ∧
  (∀ (l0 l1 l2 l3 l4 l6 l7 : Option AV) (s0 : Option Rf) (s1 : Int32) (s2 : Option Rf) (w : Int32) (h : Hp), run 4 417 71 [l0, l1, l2, l3, l4, some (vi w), l6, l7] [vo s0, vi s1, vo s2] h = run 4 417 73 [l0, l1, l2, l3, l4, some (vi w), l6, l7] [vi w, vo s0, vi s1, vo s2] h) ∧
  (∀ (l0 l1 l2 l3 l4 l5 l6 : Option AV) (s0 : Int32) (s1 : Option Rf) (s2 : Int32) (s3 : Option Rf) (w : Int32) (h : Hp), run 4 417 73 [l0, l1, l2, l3, l4, l5, l6, some (vi w)] [vi s0, vo s1, vi s2, vo s3] h = run 4 417 75 [l0, l1, l2, l3, l4, l5, l6, some (vi w)] [vi w, vi s0, vo s1, vi s2, vo s3] h) ∧
  (∀ (l0 l1 l2 l3 l4 l5 l6 l7 : Option AV) (s0 : Int32) (s1 : Int32) (s2 : Option Rf) (s3 : Int32) (s4 : Option Rf) (h : Hp), run 4 417 75 [l0, l1, l2, l3, l4, l5, l6, l7] [vi s0, vi s1, vo s2, vi s3, vo s4] h = run 4 417 76 [l0, l1, l2, l3, l4, l5, l6, l7] [vi (s1 + s0), vo s2, vi s3, vo s4] h) ∧
  (∀ (l0 l1 l2 l3 l4 l5 l6 l7 : Option AV) (s0 : Int32) (s2 : Int32) (s3 : Option Rf) (o z : Nat) (h : Hp), run 4 417 76 [l0, l1, l2, l3, l4, l5, l6, l7] [vi s0, vo (some (o, 4, z)), vi s2, vo s3] h = (call 413 [vo (some (o, 4, z)), vi s0] h).bind (fun z => run 4 417 79 [l0, l1, l2, l3, l4, l5, l6, l7] (z.1.toList ++ [vi s2, vo s3]) z.2)) ∧
  (∀ (l0 l1 l2 l3 l4 l5 l6 l7 : Option AV) (s0 : Int32) (s1 : Int32) (s2 : Option Rf) (h : Hp), run 4 417 79 [l0, l1, l2, l3, l4, l5, l6, l7] [vi s0, vi s1, vo s2] h = run 4 417 82 [l0, l1, l2, l3, l4, l5, l6, l7] [vi (am_so s0), vi s1, vo s2] h) ∧
  (∀ (l0 l1 l2 l3 l4 l5 l6 l7 : Option AV) (s0 : Int32) (s1 : Int32) (o z : Nat) (h : Hp), run 4 417 82 [l0, l1, l2, l3, l4, l5, l6, l7] [vi s0, vi s1, vo (some (o, 13, z))] h = if s1 < 0 ∨ z ≤ s1.toNatClampNeg then none else run 4 417 83 [l0, l1, l2, l3, l4, l5, l6, l7] [] (hsI h o s1.toNatClampNeg s0)) ∧
  (∀ (l0 l1 l2 l3 l4 l5 : Option AV) (w : Int32) (h : Hp), run 4 417 83 [l0, l1, l2, l3, l4, l5, none, some (vi w)] [] h = run 4 417 86 [l0, l1, l2, l3, l4, l5, none, some (vi (w + (1 : Int32)))] [] h) ∧
  (∀ (l0 l1 l2 l3 l4 l5 : Option AV) (w1 : Int32) (w : Int32) (h : Hp), run 4 417 83 [l0, l1, l2, l3, l4, l5, some (vi w1), some (vi w)] [] h = run 4 417 86 [l0, l1, l2, l3, l4, l5, some (vi w1), some (vi (w + (1 : Int32)))] [] h) ∧
  (∀ (l0 l1 l2 l3 l4 l5 : Option AV) (w1 : Option Rf) (w : Int32) (h : Hp), run 4 417 83 [l0, l1, l2, l3, l4, l5, some (vo w1), some (vi w)] [] h = run 4 417 86 [l0, l1, l2, l3, l4, l5, some (vo w1), some (vi (w + (1 : Int32)))] [] h) ∧
  (∀ (l0 l1 l2 l3 l4 l5 l6 l7 : Option AV) (h : Hp), run 4 417 86 [l0, l1, l2, l3, l4, l5, l6, l7] [] h = run 4 417 58 [l0, l1, l2, l3, l4, l5, l6, l7] [] h) ∧
  (∀ (l0 l2 l3 l4 l5 l6 l7 : Option AV) (w : Option Rf) (h : Hp), run 4 417 89 [l0, some (vo w), l2, l3, l4, l5, l6, l7] [] h = run 4 417 90 [l0, some (vo w), l2, l3, l4, l5, l6, l7] [vo w] h) ∧
  (∀ (l1 l2 l3 l4 l5 l6 l7 : Option AV) (s0 : Option Rf) (w : Option Rf) (h : Hp), run 4 417 90 [some (vo w), l1, l2, l3, l4, l5, l6, l7] [vo s0] h = run 4 417 91 [some (vo w), l1, l2, l3, l4, l5, l6, l7] [vo w, vo s0] h) ∧
  (∀ (l0 l1 l3 l4 l5 l6 l7 : Option AV) (s0 : Option Rf) (s1 : Option Rf) (w : Int32) (h : Hp), run 4 417 91 [l0, l1, some (vi w), l3, l4, l5, l6, l7] [vo s0, vo s1] h = run 4 417 92 [l0, l1, some (vi w), l3, l4, l5, l6, l7] [vi w, vo s0, vo s1] h) ∧
  (∀ (l0 l1 l2 l3 l4 l5 l6 l7 : Option AV) (s0 : Int32) (s1 : Option Rf) (s2 : Option Rf) (h : Hp), run 4 417 92 [l0, l1, l2, l3, l4, l5, l6, l7] [vi s0, vo s1, vo s2] h = run 4 417 93 [l0, l1, l2, l3, l4, l5, l6, l7] [vi (1 : Int32), vi s0, vo s1, vo s2] h) ∧
  (∀ (l0 l1 l2 l3 l4 l5 l6 l7 : Option AV) (s0 : Int32) (s1 : Int32) (s2 : Option Rf) (s3 : Option Rf) (h : Hp), run 4 417 93 [l0, l1, l2, l3, l4, l5, l6, l7] [vi s0, vi s1, vo s2, vo s3] h = run 4 417 94 [l0, l1, l2, l3, l4, l5, l6, l7] [vi (s1 + s0), vo s2, vo s3] h) ∧
  (∀ (l0 l1 l2 l3 l4 l5 l6 l7 : Option AV) (s0 : Int32) (s2 : Option Rf) (o z : Nat) (h : Hp), run 4 417 94 [l0, l1, l2, l3, l4, l5, l6, l7] [vi s0, vo (some (o, 4, z)), vo s2] h = (call 414 [vo (some (o, 4, z)), vi s0] h).bind (fun z => run 4 417 97 [l0, l1, l2, l3, l4, l5, l6, l7] (z.1.toList ++ [vo s2]) z.2)) ∧
  (∀ (l1 l2 l3 l4 l5 l6 l7 : Option AV) (s0 : Int32) (s1 : Option Rf) (w : Option Rf) (h : Hp), run 4 417 97 [some (vo w), l1, l2, l3, l4, l5, l6, l7] [vi s0, vo s1] h = run 4 417 98 [some (vo w), l1, l2, l3, l4, l5, l6, l7] [vo w, vi s0, vo s1] h) ∧
  (∀ (l0 l1 l3 l4 l5 l6 l7 : Option AV) (s0 : Option Rf) (s1 : Int32) (s2 : Option Rf) (w : Int32) (h : Hp), run 4 417 98 [l0, l1, some (vi w), l3, l4, l5, l6, l7] [vo s0, vi s1, vo s2] h = run 4 417 99 [l0, l1, some (vi w), l3, l4, l5, l6, l7] [vi w, vo s0, vi s1, vo s2] h) ∧
  (∀ (l0 l1 l2 l3 l4 l5 l6 l7 : Option AV) (s0 : Int32) (s1 : Option Rf) (s2 : Int32) (s3 : Option Rf) (h : Hp), run 4 417 99 [l0, l1, l2, l3, l4, l5, l6, l7] [vi s0, vo s1, vi s2, vo s3] h = run 4 417 100 [l0, l1, l2, l3, l4, l5, l6, l7] [vi (2 : Int32), vi s0, vo s1, vi s2, vo s3] h) ∧
  (∀ (l0 l1 l2 l3 l4 l5 l6 l7 : Option AV) (s0 : Int32) (s1 : Int32) (s2 : Option Rf) (s3 : Int32) (s4 : Option Rf) (h : Hp), run 4 417 100 [l0, l1, l2, l3, l4, l5, l6, l7] [vi s0, vi s1, vo s2, vi s3, vo s4] h = run 4 417 101 [l0, l1, l2, l3, l4, l5, l6, l7] [vi (s1 + s0), vo s2, vi s3, vo s4] h) ∧
  (∀ (l0 l1 l2 l3 l4 l5 l6 l7 : Option AV) (s0 : Int32) (s2 : Int32) (s3 : Option Rf) (o z : Nat) (h : Hp), run 4 417 101 [l0, l1, l2, l3, l4, l5, l6, l7] [vi s0, vo (some (o, 4, z)), vi s2, vo s3] h = (call 414 [vo (some (o, 4, z)), vi s0] h).bind (fun z => run 4 417 104 [l0, l1, l2, l3, l4, l5, l6, l7] (z.1.toList ++ [vi s2, vo s3]) z.2)) ∧
  (∀ (l0 l1 l2 l3 l4 l5 l7 : Option AV) (s0 : Int32) (s1 : Int32) (s2 : Option Rf) (w : Option Rf) (h : Hp), run 4 417 104 [l0, l1, l2, l3, l4, l5, some (vo w), l7] [vi s0, vi s1, vo s2] h = run 4 417 106 [l0, l1, l2, l3, l4, l5, some (vo w), l7] [vo w, vi s0, vi s1, vo s2] h) ∧
  (∀ (l0 l1 l2 l3 l4 l5 l6 l7 : Option AV) (s0 : Option Rf) (s1 : Int32) (s2 : Int32) (s3 : Option Rf) (h : Hp), run 4 417 106 [l0, l1, l2, l3, l4, l5, l6, l7] [vo s0, vi s1, vi s2, vo s3] h = (call 901 [vi s2, vi s1, vo s0] h).bind (fun z => run 4 417 109 [l0, l1, l2, l3, l4, l5, l6, l7] (z.1.toList ++ [vo s3]) z.2)) ∧
  (∀ (l0 l1 l2 l3 l5 l6 l7 : Option AV) (s0 : Option Rf) (s1 : Option Rf) (w : Int32) (h : Hp), run 4 417 109 [l0, l1, l2, l3, some (vi w), l5, l6, l7] [vo s0, vo s1] h = run 4 417 111 [l0, l1, l2, l3, some (vi w), l5, l6, l7] [vi w, vo s0, vo s1] h) ∧
  (∀ (l0 l1 l2 l3 l4 l5 l6 l7 : Option AV) (s0 : Int32) (s1 : Option Rf) (o z : Nat) (h : Hp), run 4 417 111 [l0, l1, l2, l3, l4, l5, l6, l7] [vi s0, vo s1, vo (some (o, 10, z))] h = (call 1003 [vo (some (o, 10, z)), vo s1, vi s0] h).bind (fun z => run 4 417 114 [l0, l1, l2, l3, l4, l5, l6, l7] (z.1.toList ++ []) z.2)) ∧
  (∀ (l0 l1 l2 l3 l4 l5 l6 l7 : Option AV) (s0 : Int32) (h : Hp), run 4 417 114 [l0, l1, l2, l3, l4, l5, l6, l7] [vi s0] h = if am_isd s0 = true then some (some (vi s0), h) else none) := ⟨(fun _ _ _ _ _ _ _ _ _ => run_next rfl rfl),
  (fun _ _ _ _ _ _ _ s0 _ _ => run_next rfl rfl),
  (fun _ _ _ _ _ _ _ _ s0 _ _ => run_next rfl rfl),
  (fun _ _ _ _ _ _ _ _ s0 _ _ _ => run_next rfl rfl),
  (fun _ _ _ _ _ _ _ _ s0 _ _ _ => run_calx rfl rfl (Nat.le_of_ble_eq_true rfl) (Nat.le_of_ble_eq_true rfl) rfl),
  (fun _ _ _ _ _ _ _ s0 _ => run_next rfl rfl),
  (fun _ _ _ _ _ _ _ s0 _ _ => run_next rfl rfl),
  (fun _ _ _ _ _ _ _ s0 _ _ => run_next rfl rfl),
  (fun _ _ _ _ _ _ _ _ _ => run_next rfl rfl),
  (fun _ _ _ _ _ _ _ _ s0 _ => run_next rfl rfl),
  (fun _ _ _ _ _ _ _ _ s0 _ _ => run_next rfl rfl),
  (fun _ _ _ _ _ _ _ s0 _ => run_next rfl rfl),
  (fun _ _ _ _ _ _ _ s0 _ _ => run_next rfl rfl),
  (fun _ _ _ _ _ _ _ s0 _ _ => run_next rfl rfl),
  (fun _ _ _ _ _ _ _ _ _ => run_next rfl rfl),
  (fun _ _ _ _ _ _ _ s0 _ _ => run_next rfl rfl),
  (fun _ _ _ _ _ _ _ _ s0 _ _ _ => run_calx rfl rfl (Nat.le_of_ble_eq_true rfl) (Nat.le_of_ble_eq_true rfl) rfl),
  (fun _ _ _ _ _ _ _ _ s0 _ => run_calx rfl rfl (Nat.le_of_ble_eq_true rfl) (Nat.le_of_ble_eq_true rfl) rfl),
  (fun _ _ _ _ _ _ _ _ s0 _ => run_if rfl rfl (run_next rfl) (run_next rfl)),
  (fun _ _ _ _ _ _ _ _ _ => run_next rfl rfl),
  (fun _ _ _ _ _ _ _ _ s0 _ => run_next rfl rfl),
  (fun _ _ _ _ _ _ _ _ s0 _ _ => run_next rfl rfl),
  (fun _ _ _ _ _ _ _ s0 _ _ => run_next rfl rfl),
  (fun _ _ _ _ _ _ _ s0 _ _ _ => run_next rfl rfl),
  (fun _ _ _ _ _ _ _ _ s0 _ _ _ _ => run_calx rfl rfl (Nat.le_of_ble_eq_true rfl) (Nat.le_of_ble_eq_true rfl) rfl),
  (fun _ _ _ _ _ _ _ _ s0 _ _ => run_next rfl rfl),
  (fun _ _ _ _ _ _ _ s0 _ => run_next rfl rfl),
  (fun _ _ _ _ _ _ _ s0 _ _ => run_next rfl rfl),
  (fun _ _ _ _ _ _ _ s0 _ _ => run_next rfl rfl),
  (fun _ _ _ _ _ _ _ _ => run_next rfl rfl),
  (fun _ _ _ _ _ _ _ _ _ => run_next rfl rfl),
  (fun _ _ _ _ _ _ _ _ _ => run_next rfl rfl),
  (fun _ _ _ _ _ _ _ _ _ => run_next rfl rfl),
  (fun _ _ _ _ _ _ _ s0 _ _ => run_next rfl rfl),
  (fun _ _ _ _ _ _ _ s0 _ _ _ => run_next rfl rfl),
  (fun _ _ _ _ _ _ _ _ s0 _ _ _ => run_next rfl rfl),
  (fun _ _ _ _ _ _ _ _ s0 _ _ => run_next rfl rfl),
  (fun _ _ _ _ _ _ _ _ s0 _ => run_if rfl rfl (run_fail rfl) (run_next rfl)),
  (fun _ _ _ _ _ _ _ s0 _ => run_next rfl rfl),
  (fun _ _ _ _ _ _ _ s0 _ _ => run_next rfl rfl),
  (fun _ _ _ _ _ _ _ s0 _ _ => run_next rfl rfl),
  (fun _ _ _ _ _ _ _ _ _ => run_next rfl rfl),
  (fun _ _ _ _ _ _ _ s0 _ => run_next rfl rfl),
  (fun _ _ _ _ _ _ _ s0 _ _ => run_next rfl rfl),
  (fun _ _ _ _ _ _ _ s0 _ _ => run_next rfl rfl),
  (fun _ _ _ _ _ _ _ s0 _ _ => run_next rfl rfl),
  (fun _ _ _ _ _ _ _ _ _ _ _ _ => run_next rfl rfl),
  (fun _ _ _ _ _ _ _ _ _ _ _ _ => run_next rfl rfl),
  (fun _ _ _ _ _ _ _ _ _ _ _ _ => run_next rfl rfl),
  (fun _ _ _ _ _ _ _ _ s0 _ _ => run_if rfl rfl (run_next rfl) (run_next rfl)),
  (fun _ _ _ _ _ _ _ _ _ => run_next rfl rfl),
  (fun _ _ _ _ _ _ _ s0 _ _ => run_next rfl rfl),
  (fun _ _ _ _ _ _ _ s0 _ _ _ => run_next rfl rfl),
  (fun _ _ _ _ _ _ _ s0 _ _ _ _ => run_next rfl rfl),
  (fun _ _ _ _ _ _ _ s0 _ _ _ _ _ => run_next rfl rfl),
  (fun _ _ _ _ _ _ _ _ s0 _ _ _ _ _ => run_next rfl rfl),
  (fun _ _ _ _ _ _ _ _ s0 _ _ _ _ _ => run_calx rfl rfl (Nat.le_of_ble_eq_true rfl) (Nat.le_of_ble_eq_true rfl) rfl),
  (fun _ _ _ _ _ _ _ _ s0 _ _ _ => run_next rfl rfl),
  (fun _ _ _ _ _ _ _ _ s0 _ _ _ _ => run_if rfl rfl (run_fail rfl) (run_next rfl)),
  (fun _ _ _ _ _ _ _ _ => run_next rfl rfl),
  (fun _ _ _ _ _ _ _ _ _ => run_next rfl rfl),
  (fun _ _ _ _ _ _ _ _ _ => run_next rfl rfl),
  (fun _ _ _ _ _ _ _ _ _ => run_next rfl rfl),
  (fun _ _ _ _ _ _ _ _ _ => run_next rfl rfl),
  (fun _ _ _ _ _ _ _ s0 _ _ => run_next rfl rfl),
  (fun _ _ _ _ _ _ _ s0 _ _ _ => run_next rfl rfl),
  (fun _ _ _ _ _ _ _ _ s0 _ _ _ => run_next rfl rfl),
  (fun _ _ _ _ _ _ _ _ s0 _ _ _ _ => run_next rfl rfl),
  (fun _ _ _ _ _ _ _ _ s0 _ _ _ _ => run_calx rfl rfl (Nat.le_of_ble_eq_true rfl) (Nat.le_of_ble_eq_true rfl) rfl),
  (fun _ _ _ _ _ _ _ s0 _ _ _ => run_next rfl rfl),
  (fun _ _ _ _ _ _ _ s0 _ _ _ _ => run_next rfl rfl),
  (fun _ _ _ _ _ _ _ _ s0 _ _ _ _ => run_next rfl rfl),
  (fun _ _ _ _ _ _ _ _ s0 _ _ _ _ _ => run_next rfl rfl),
  (fun _ _ _ _ _ _ _ _ s0 _ _ _ _ _ => run_calx rfl rfl (Nat.le_of_ble_eq_true rfl) (Nat.le_of_ble_eq_true rfl) rfl),
  (fun _ _ _ _ _ _ _ s0 _ _ _ _ => run_next rfl rfl),
  (fun _ _ _ _ _ _ _ _ s0 _ _ _ _ => run_calx rfl rfl (Nat.le_of_ble_eq_true rfl) (Nat.le_of_ble_eq_true rfl) rfl),
  (fun _ _ _ _ _ _ _ s0 _ _ _ => run_next rfl rfl),
  (fun _ _ _ _ _ _ _ _ s0 _ _ _ _ => run_calx rfl rfl (Nat.le_of_ble_eq_true rfl) (Nat.le_of_ble_eq_true rfl) rfl),
  (fun _ _ _ _ _ _ _ _ s0 _ => run_ifz rfl rfl (by simp) (run_ret rfl) (run_fail rfl))⟩
set_option maxRecDepth 20000 in
theorem x_417_58 : (∀ (l0 l1 l2 l3 l4 l5 l6 : Option AV) (w : Int32) (h : Hp), run 4 417 58 [l0, l1, l2, l3, l4, l5, l6, some (vi w)] [] h = run 4 417 60 [l0, l1, l2, l3, l4, l5, l6, some (vi w)] [vi w] h) := (fun _ _ _ _ _ _ _ _ _ => run_next rfl rfl)
theorem e_417 (v : Option Rf) (a0 : Option Rf) (a1 : Int32) (a2 : Int32) (h : Hp) : call 417 [vo v, vo a0, vi a1, vi a2] h = run 4 417 0 [some (vo v), some (vo a0), some (vi a1), some (vi a2), none, none, none, none] [] h := rfl
set_option maxRecDepth 20000 in
theorem x_418 : (∀ (l1 l2 l3 : Option AV) (w : Option Rf) (h : Hp), run 2 418 0 [some (vo w), l1, l2, l3] [] h = run 2 418 1 [some (vo w), l1, l2, l3] [vo w] h) ∧
  (∀ (l0 l1 l3 : Option AV) (s0 : Option Rf) (w : Int32) (h : Hp), run 2 418 1 [l0, l1, some (vi w), l3] [vo s0] h = run 2 418 2 [l0, l1, some (vi w), l3] [vi w, vo s0] h) ∧
  (∀ (l0 l1 l2 l3 : Option AV) (s0 : Int32) (s1 : Option Rf) (h : Hp), run 2 418 2 [l0, l1, l2, l3] [vi s0, vo s1] h = run 2 418 3 [l0, l1, l2, l3] [vi (1 : Int32), vi s0, vo s1] h) ∧
  (∀ (l0 l1 l2 l3 : Option AV) (s0 : Int32) (s1 : Int32) (s2 : Option Rf) (h : Hp), run 2 418 3 [l0, l1, l2, l3] [vi s0, vi s1, vo s2] h = run 2 418 4 [l0, l1, l2, l3] [vi (s1 + s0), vo s2] h) ∧
  (∀ (l0 l1 l2 l3 : Option AV) (s0 : Int32) (o z : Nat) (h : Hp), run 2 418 4 [l0, l1, l2, l3] [vi s0, vo (some (o, 4, z))] h = (call 414 [vo (some (o, 4, z)), vi s0] h).bind (fun z => run 2 418 7 [l0, l1, l2, l3] (z.1.toList ++ []) z.2)) ∧
  (∀ (l0 l1 l3 : Option AV) (s0 : Int32) (h : Hp), run 2 418 7 [l0, l1, none, l3] [vi s0] h = run 2 418 8 [l0, l1, none, some (vi s0)] [] h) ∧
  (∀ (l0 l1 l3 : Option AV) (s0 : Int32) (w1 : Int32) (h : Hp), run 2 418 7 [l0, l1, some (vi w1), l3] [vi s0] h = run 2 418 8 [l0, l1, some (vi w1), some (vi s0)] [] h) ∧
  (∀ (l0 l1 l3 : Option AV) (s0 : Int32) (w1 : Option Rf) (h : Hp), run 2 418 7 [l0, l1, some (vo w1), l3] [vi s0] h = run 2 418 8 [l0, l1, some (vo w1), some (vi s0)] [] h) ∧
  (∀ (l0 l1 l2 : Option AV) (w : Int32) (h : Hp), run 2 418 8 [l0, l1, l2, some (vi w)] [] h = run 2 418 9 [l0, l1, l2, some (vi w)] [vi w] h) ∧
  (∀ (l0 l1 l2 l3 : Option AV) (s0 : Int32) (h : Hp), run 2 418 9 [l0, l1, l2, l3] [vi s0] h = if s0 < 0 then run 2 418 17 [l0, l1, l2, l3] [] h else run 2 418 12 [l0, l1, l2, l3] [] h) ∧
  (∀ (l0 l1 l2 : Option AV) (w : Int32) (h : Hp), run 2 418 12 [l0, l1, l2, some (vi w)] [] h = run 2 418 13 [l0, l1, l2, some (vi w)] [vi w] h) ∧
  (∀ (l0 l1 l2 l3 : Option AV) (s0 : Int32) (h : Hp), run 2 418 13 [l0, l1, l2, l3] [vi s0] h = run 2 418 14 [l0, l1, l2, l3] [vi (3 : Int32), vi s0] h) ∧
  (∀ (l0 l1 l2 l3 : Option AV) (s0 : Int32) (s1 : Int32) (h : Hp), run 2 418 14 [l0, l1, l2, l3] [vi s0, vi s1] h = if s1 ≤ s0 then run 2 418 19 [l0, l1, l2, l3] [] h else run 2 418 17 [l0, l1, l2, l3] [] h) ∧
  (∀ (l0 l1 l2 l3 : Option AV) (h : Hp), run 2 418 17 [l0, l1, l2, l3] [] h = run 2 418 18 [l0, l1, l2, l3] [vi (0 : Int32)] h) ∧
  (∀ (l0 l1 l2 l3 : Option AV) (s0 : Int32) (h : Hp), run 2 418 18 [l0, l1, l2, l3] [vi s0] h = if am_isd s0 = true then some (some (vi s0), h) else none) ∧
  (∀ (l0 l2 l3 : Option AV) (w : Option Rf) (h : Hp), run 2 418 19 [l0, some (vo w), l2, l3] [] h = run 2 418 20 [l0, some (vo w), l2, l3] [vo w] h) ∧
  (∀ (l0 l1 l2 : Option AV) (s0 : Option Rf) (w : Int32) (h : Hp), run 2 418 20 [l0, l1, l2, some (vi w)] [vo s0] h = run 2 418 21 [l0, l1, l2, some (vi w)] [vi w, vo s0] h) ∧
  (∀ (l0 l1 l2 l3 : Option AV) (s0 : Int32) (o z : Nat) (h : Hp), run 2 418 21 [l0, l1, l2, l3] [vi s0, vo (some (o, 10, z))] h = run 2 418 24 [l0, l1, l2, l3] [] (hsI h o 1 s0)) ∧
  (∀ (l0 l1 l2 l3 : Option AV) (h : Hp), run 2 418 24 [l0, l1, l2, l3] [] h = run 2 418 25 [l0, l1, l2, l3] [vi (1 : Int32)] h) ∧
  (∀ (l0 l1 l2 l3 : Option AV) (s0 : Int32) (h : Hp), run 2 418 25 [l0, l1, l2, l3] [vi s0] h = if am_isd s0 = true then some (some (vi s0), h) else none) := ⟨(fun _ _ _ _ _ => run_next rfl rfl),
  (fun _ _ _ s0 _ _ => run_next rfl rfl),
  (fun _ _ _ _ s0 _ _ => run_next rfl rfl),
  (fun _ _ _ _ s0 _ _ _ => run_next rfl rfl),
  (fun _ _ _ _ s0 _ _ _ => run_calx rfl rfl (Nat.le_of_ble_eq_true rfl) (Nat.le_of_ble_eq_true rfl) rfl),
  (fun _ _ _ s0 _ => run_next rfl rfl),
  (fun _ _ _ s0 _ _ => run_next rfl rfl),
  (fun _ _ _ s0 _ _ => run_next rfl rfl),
  (fun _ _ _ _ _ => run_next rfl rfl),
  (fun _ _ _ _ s0 _ => run_if rfl rfl (run_next rfl) (run_next rfl)),
  (fun _ _ _ _ _ => run_next rfl rfl),
  (fun _ _ _ _ s0 _ => run_next rfl rfl),
  (fun _ _ _ _ s0 _ _ => run_if rfl rfl (run_next rfl) (run_next rfl)),
  (fun _ _ _ _ _ => run_next rfl rfl),
  (fun _ _ _ _ s0 _ => run_ifz rfl rfl (by simp) (run_ret rfl) (run_fail rfl)),
  (fun _ _ _ _ _ => run_next rfl rfl),
  (fun _ _ _ s0 _ _ => run_next rfl rfl),
  (fun _ _ _ _ s0 _ _ _ => run_next rfl rfl),
  (fun _ _ _ _ _ => run_next rfl rfl),
  (fun _ _ _ _ s0 _ => run_ifz rfl rfl (by simp) (run_ret rfl) (run_fail rfl))⟩
theorem e_418 (v : Option Rf) (a0 : Option Rf) (a1 : Int32) (h : Hp) : call 418 [vo v, vo a0, vi a1] h = run 2 418 0 [some (vo v), some (vo a0), some (vi a1), none] [] h := rfl
