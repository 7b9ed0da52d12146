theorem x_400 : (∀ (d : Nat) (w : Option Rf) (h : Hp), run d 400 0 [some (vo w)] [] h = run d 400 1 [some (vo w)] [vo w] h) ∧
  (∀ (d : Nat) (l0 : Option AV) (w : Rf) (h : Hp), run d 400 1 [l0] [vo (some w)] h = run d 400 4 [l0] [] h) ∧
  (∀ (d : Nat) (w : Option Rf) (h : Hp), run d 400 4 [some (vo w)] [] h = run d 400 5 [some (vo w)] [vo w] h) ∧
  (∀ (d : Nat) (l0 : Option AV) (s0 : Option Rf) (h : Hp), run d 400 5 [l0] [vo s0] h = run d 400 7 [l0] [vi (80 : Int32), vo s0] h) ∧
  (∀ (d : Nat) (l0 : Option AV) (s0 : Int32) (s1 : Option Rf) (h : Hp), run d 400 7 [l0] [vi s0, vo s1] h = if s0 < 0 ∨ 100000 ≤ s0.toNatClampNeg then none else run d 400 9 [l0] [vo (some (h.1.1, 13, s0.toNatClampNeg)), vo s1] (hmk h s0.toNatClampNeg)) ∧
  (∀ (d : Nat) (l0 : Option AV) (s0 : Option Rf) (o z : Nat) (h : Hp), run d 400 9 [l0] [vo s0, vo (some (o, 4, z))] h = run d 400 12 [l0] [] (hsR h o 1 s0)) ∧
  (∀ (d : Nat) (w : Option Rf) (h : Hp), run d 400 12 [some (vo w)] [] h = run d 400 13 [some (vo w)] [vo w] h) ∧
  (∀ (d : Nat) (l0 : Option AV) (o z : Nat) (hd : am_rk 401 [vo (some (o, 4, z))] < d) (h : Hp), run d 400 13 [l0] [vo (some (o, 4, z))] h = (call 401 [vo (some (o, 4, z))] h).bind (fun z => run d 400 16 [l0] (z.1.toList ++ []) z.2)) ∧
  (∀ (d : Nat) (l0 : Option AV) (h : Hp), run d 400 16 [l0] [] h = some (none, h)) := ⟨(fun _ _ _ => run_next rfl rfl),
  (fun _ _ _ _ => run_next rfl rfl),
  (fun _ _ _ => run_next rfl rfl),
  (fun _ _ s0 _ => run_next rfl rfl),
  (fun _ _ s0 _ _ => run_if rfl rfl (run_fail rfl) (run_next rfl)),
  (fun _ _ s0 _ _ _ => run_next rfl rfl),
  (fun _ _ _ => run_next rfl rfl),
  (fun _ _ _ _ hd _ => run_calx rfl rfl hd (Nat.le_of_ble_eq_true rfl) rfl),
  (fun _ _ _ => run_ret rfl rfl)⟩
theorem e_400 (v : Option Rf) (h : Hp) : call 400 [vo v] h = run 1 400 0 [some (vo v)] [] h := rfl
theorem x_401 : (∀ (d : Nat) (w : Option Rf) (h : Hp), run d 401 0 [some (vo w)] [] h = run d 401 1 [some (vo w)] [vo w] h) ∧
  (∀ (d : Nat) (l0 : Option AV) (s0 : Option Rf) (h : Hp), run d 401 1 [l0] [vo s0] h = run d 401 2 [l0] [vi (0 : Int32), vo s0] h) ∧
  (∀ (d : Nat) (l0 : Option AV) (s0 : Int32) (o z : Nat) (h : Hp), run d 401 2 [l0] [vi s0, vo (some (o, 4, z))] h = run d 401 5 [l0] [] (hsI h o 0 s0)) ∧
  (∀ (d : Nat) (w : Option Rf) (h : Hp), run d 401 5 [some (vo w)] [] h = run d 401 6 [some (vo w)] [vo w] h) ∧
  (∀ (d : Nat) (l0 : Option AV) (s0 : Option Rf) (h : Hp), run d 401 6 [l0] [vo s0] h = run d 401 7 [l0] [vi (0 : Int32), vo s0] h) ∧
  (∀ (d : Nat) (l0 : Option AV) (s0 : Int32) (o z : Nat) (h : Hp), run d 401 7 [l0] [vi s0, vo (some (o, 4, z))] h = run d 401 10 [l0] [] (hsI h o 2 s0)) ∧
  (∀ (d : Nat) (l0 : Option AV) (h : Hp), run d 401 10 [l0] [] h = some (none, h)) := ⟨(fun _ _ _ => run_next rfl rfl),
  (fun _ _ s0 _ => run_next rfl rfl),
  (fun _ _ s0 _ _ _ => run_next rfl rfl),
  (fun _ _ _ => run_next rfl rfl),
  (fun _ _ s0 _ => run_next rfl rfl),
  (fun _ _ s0 _ _ _ => run_next rfl rfl),
  (fun _ _ _ => run_ret rfl rfl)⟩
theorem e_401 (v : Option Rf) (h : Hp) : call 401 [vo v] h = run 0 401 0 [some (vo v)] [] h := rfl
theorem x_402 : (∀ (d : Nat) (w : Option Rf) (h : Hp), run d 402 0 [some (vo w)] [] h = run d 402 1 [some (vo w)] [vo w] h) ∧
  (∀ (d : Nat) (l0 : Option AV) (o z : Nat) (h : Hp), run d 402 1 [l0] [vo (some (o, 4, z))] h = run d 402 4 [l0] [vi (hI h o 0)] h) ∧
  (∀ (d : Nat) (s0 : Int32) (w : Option Rf) (h : Hp), run d 402 4 [some (vo w)] [vi s0] h = run d 402 5 [some (vo w)] [vo w, vi s0] h) ∧
  (∀ (d : Nat) (l0 : Option AV) (s1 : Int32) (o z : Nat) (h : Hp), run d 402 5 [l0] [vo (some (o, 4, z)), vi s1] h = run d 402 8 [l0] [vo (hR h o 1), vi s1] h) ∧
  (∀ (d : Nat) (l0 : Option AV) (s1 : Int32) (o z : Nat) (h : Hp), run d 402 8 [l0] [vo (some (o, 13, z)), vi s1] h = run d 402 9 [l0] [vi (Int32.ofNat z), vi s1] h) ∧
  (∀ (d : Nat) (l0 : Option AV) (s1 : Int32) (o z : Nat) (h : Hp), run d 402 8 [l0] [vo (some (o, 14, z)), vi s1] h = run d 402 9 [l0] [vi (Int32.ofNat z), vi s1] h) ∧
  (∀ (d : Nat) (l0 : Option AV) (s1 : Int32) (o z : Nat) (h : Hp), run d 402 8 [l0] [vo (some (o, 15, z)), vi s1] h = run d 402 9 [l0] [vi (Int32.ofNat z), vi s1] h) ∧
  (∀ (d : Nat) (l0 : Option AV) (s0 : Int32) (s1 : Int32) (h : Hp), run d 402 9 [l0] [vi s0, vi s1] h = if s1 < s0 then run d 402 16 [l0] [] h else run d 402 12 [l0] [] h) ∧
  (∀ (d : Nat) (l0 : Option AV) (h : Hp), run d 402 12 [l0] [] h = run d 402 13 [l0] [vi (1 : Int32)] h) ∧
  (∀ (d : Nat) (l0 : Option AV) (s0 : Int32) (h : Hp), run d 402 13 [l0] [vi s0] h = run d 402 17 [l0] [vi s0] h) ∧
  (∀ (d : Nat) (l0 : Option AV) (h : Hp), run d 402 16 [l0] [] h = run d 402 17 [l0] [vi (0 : Int32)] h) ∧
  (∀ (d : Nat) (l0 : Option AV) (s0 : Int32) (h : Hp), run d 402 17 [l0] [vi s0] h = if am_isd s0 = true then some (some (vi s0), h) else none) := ⟨(fun _ _ _ => run_next rfl rfl),
  (fun _ _ _ _ _ => run_next rfl rfl),
  (fun _ s0 _ _ => run_next rfl rfl),
  (fun _ _ _ _ _ _ => run_next rfl rfl),
  (fun _ _ _ _ _ _ => run_next rfl rfl),
  (fun _ _ _ _ _ _ => run_next rfl rfl),
  (fun _ _ _ _ _ _ => run_next rfl rfl),
  (fun _ _ s0 _ _ => run_if rfl rfl (run_next rfl) (run_next rfl)),
  (fun _ _ _ => run_next rfl rfl),
  (fun _ _ s0 _ => run_next rfl rfl),
  (fun _ _ _ => run_next rfl rfl),
  (fun _ _ s0 _ => run_ifz rfl rfl (by simp) (run_ret rfl) (run_fail rfl))⟩
theorem e_402 (v : Option Rf) (h : Hp) : call 402 [vo v] h = run 0 402 0 [some (vo v)] [] h := rfl
theorem x_403 : (∀ (d : Nat) (l1 : Option AV) (w : Option Rf) (h : Hp), run d 403 0 [some (vo w), l1] [] h = run d 403 1 [some (vo w), l1] [vo w] h) ∧
  (∀ (d : Nat) (l0 l1 : Option AV) (o z : Nat) (hd : am_rk 402 [vo (some (o, 4, z))] < d) (h : Hp), run d 403 1 [l0, l1] [vo (some (o, 4, z))] h = (call 402 [vo (some (o, 4, z))] h).bind (fun z => run d 403 4 [l0, l1] (z.1.toList ++ []) z.2)) ∧
  (∀ (d : Nat) (l0 l1 : Option AV) (s0 : Int32) (h : Hp), run d 403 4 [l0, l1] [vi s0] h = if s0 = 0 then run d 403 7 [l0, l1] [] h else run d 403 27 [l0, l1] [] h) ∧
  (∀ (d : Nat) (l1 : Option AV) (w : Option Rf) (h : Hp), run d 403 7 [some (vo w), l1] [] h = run d 403 8 [some (vo w), l1] [vo w] h) ∧
  (∀ (d : Nat) (l0 l1 : Option AV) (o z : Nat) (h : Hp), run d 403 8 [l0, l1] [vo (some (o, 4, z))] h = run d 403 11 [l0, l1] [vo (hR h o 1)] h) ∧
  (∀ (d : Nat) (l1 : Option AV) (s0 : Option Rf) (w : Option Rf) (h : Hp), run d 403 11 [some (vo w), l1] [vo s0] h = run d 403 12 [some (vo w), l1] [vo w, vo s0] h) ∧
  (∀ (d : Nat) (l0 l1 : Option AV) (s1 : Option Rf) (o z : Nat) (h : Hp), run d 403 12 [l0, l1] [vo (some (o, 4, z)), vo s1] h = run d 403 15 [l0, l1] [vi (hI h o 0), vo s1] h) ∧
  (∀ (d : Nat) (l0 : Option AV) (s0 : Int32) (s1 : Option Rf) (w : Int32) (h : Hp), run d 403 15 [l0, some (vi w)] [vi s0, vo s1] h = run d 403 16 [l0, some (vi w)] [vi w, vi s0, vo s1] h) ∧
  (∀ (d : Nat) (l0 l1 : Option AV) (s0 : Int32) (s1 : Int32) (o z : Nat) (h : Hp), run d 403 16 [l0, l1] [vi s0, vi s1, vo (some (o, 13, z))] h = if s1 < 0 ∨ z ≤ s1.toNatClampNeg then none else run d 403 17 [l0, l1] [] (hsI h o s1.toNatClampNeg s0)) ∧
  (∀ (d : Nat) (l1 : Option AV) (w : Option Rf) (h : Hp), run d 403 17 [some (vo w), l1] [] h = run d 403 18 [some (vo w), l1] [vo w] h) ∧
  (∀ (d : Nat) (l0 l1 : Option AV) (s0 : Option Rf) (h : Hp), run d 403 18 [l0, l1] [vo s0] h = run d 403 19 [l0, l1] [vo s0, vo s0] h) ∧
  (∀ (d : Nat) (l0 l1 : Option AV) (s1 : Option Rf) (o z : Nat) (h : Hp), run d 403 19 [l0, l1] [vo (some (o, 4, z)), vo s1] h = run d 403 22 [l0, l1] [vi (hI h o 0), vo s1] h) ∧
  (∀ (d : Nat) (l0 l1 : Option AV) (s0 : Int32) (s1 : Option Rf) (h : Hp), run d 403 22 [l0, l1] [vi s0, vo s1] h = run d 403 23 [l0, l1] [vi (1 : Int32), vi s0, vo s1] h) ∧
  (∀ (d : Nat) (l0 l1 : Option AV) (s0 : Int32) (s1 : Int32) (s2 : Option Rf) (h : Hp), run d 403 23 [l0, l1] [vi s0, vi s1, vo s2] h = run d 403 24 [l0, l1] [vi (s1 + s0), vo s2] h) ∧
  (∀ (d : Nat) (l0 l1 : Option AV) (s0 : Int32) (o z : Nat) (h : Hp), run d 403 24 [l0, l1] [vi s0, vo (some (o, 4, z))] h = run d 403 27 [l0, l1] [] (hsI h o 0 s0)) ∧
  (∀ (d : Nat) (l1 : Option AV) (w : Option Rf) (h : Hp), run d 403 27 [some (vo w), l1] [] h = run d 403 28 [some (vo w), l1] [vo w] h) ∧
  (∀ (d : Nat) (l0 l1 : Option AV) (o z : Nat) (h : Hp), run d 403 28 [l0, l1] [vo (some (o, 4, z))] h = run d 403 31 [l0, l1] [vi (hI h o 0)] h) ∧
  (∀ (d : Nat) (l0 l1 : Option AV) (s0 : Int32) (h : Hp), run d 403 31 [l0, l1] [vi s0] h = some (some (vi s0), h)) := ⟨(fun _ _ _ _ => run_next rfl rfl),
  (fun _ _ _ _ _ hd _ => run_calx rfl rfl hd (Nat.le_of_ble_eq_true rfl) rfl),
  (fun _ _ _ s0 _ => run_if rfl rfl (run_next rfl) (run_next rfl)),
  (fun _ _ _ _ => run_next rfl rfl),
  (fun _ _ _ _ _ _ => run_next rfl rfl),
  (fun _ _ s0 _ _ => run_next rfl rfl),
  (fun _ _ _ _ _ _ _ => run_next rfl rfl),
  (fun _ _ s0 _ _ _ => run_next rfl rfl),
  (fun _ _ _ s0 _ _ _ _ => run_if rfl rfl (run_fail rfl) (run_next rfl)),
  (fun _ _ _ _ => run_next rfl rfl),
  (fun _ _ _ s0 _ => run_next rfl rfl),
  (fun _ _ _ _ _ _ _ => run_next rfl rfl),
  (fun _ _ _ s0 _ _ => run_next rfl rfl),
  (fun _ _ _ s0 _ _ _ => run_next rfl rfl),
  (fun _ _ _ s0 _ _ _ => run_next rfl rfl),
  (fun _ _ _ _ => run_next rfl rfl),
  (fun _ _ _ _ _ _ => run_next rfl rfl),
  (fun _ _ _ s0 _ => run_ret rfl rfl)⟩
theorem e_403 (v : Option Rf) (a0 : Int32) (h : Hp) : call 403 [vo v, vi a0] h = run 1 403 0 [some (vo v), some (vi a0)] [] h := rfl
theorem x_404 : (∀ (d : Nat) (l1 : Option AV) (w : Option Rf) (h : Hp), run d 404 0 [some (vo w), l1] [] h = run d 404 1 [some (vo w), l1] [vo w] h) ∧
  (∀ (d : Nat) (l0 l1 : Option AV) (s0 : Option Rf) (h : Hp), run d 404 1 [l0, l1] [vo s0] h = run d 404 2 [l0, l1] [vi (0 : Int32), vo s0] h) ∧
  (∀ (d : Nat) (l0 l1 : Option AV) (s0 : Int32) (o z : Nat) (h : Hp), run d 404 2 [l0, l1] [vi s0, vo (some (o, 4, z))] h = run d 404 5 [l0, l1] [] (hsI h o 2 s0)) ∧
  (∀ (d : Nat) (l0 l1 : Option AV) (h : Hp), run d 404 5 [l0, l1] [] h = run d 404 6 [l0, l1] [vi (0 : Int32)] h) ∧
  (∀ (d : Nat) (l1 : Option AV) (s0 : Int32) (h : Hp), run d 404 6 [none, l1] [vi s0] h = run d 404 7 [none, some (vi s0)] [] h) ∧
  (∀ (d : Nat) (l1 : Option AV) (s0 : Int32) (w1 : Int32) (h : Hp), run d 404 6 [some (vi w1), l1] [vi s0] h = run d 404 7 [some (vi w1), some (vi s0)] [] h) ∧
  (∀ (d : Nat) (l1 : Option AV) (s0 : Int32) (w1 : Option Rf) (h : Hp), run d 404 6 [some (vo w1), l1] [vi s0] h = run d 404 7 [some (vo w1), some (vi s0)] [] h) ∧
  (∀ (d : Nat) (l1 : Option AV) (s0 : Int32) (w : Option Rf) (h : Hp), run d 404 8 [some (vo w), l1] [vi s0] h = run d 404 9 [some (vo w), l1] [vo w, vi s0] h) ∧
  (∀ (d : Nat) (l0 l1 : Option AV) (s1 : Int32) (o z : Nat) (h : Hp), run d 404 9 [l0, l1] [vo (some (o, 4, z)), vi s1] h = run d 404 12 [l0, l1] [vi (hI h o 0), vi s1] h) ∧
  (∀ (d : Nat) (l0 l1 : Option AV) (s0 : Int32) (s1 : Int32) (h : Hp), run d 404 12 [l0, l1] [vi s0, vi s1] h = if s0 ≤ s1 then run d 404 36 [l0, l1] [] h else run d 404 15 [l0, l1] [] h) ∧
  (∀ (d : Nat) (l1 : Option AV) (w : Option Rf) (h : Hp), run d 404 15 [some (vo w), l1] [] h = run d 404 16 [some (vo w), l1] [vo w] h) ∧
  (∀ (d : Nat) (l1 : Option AV) (s0 : Option Rf) (w : Option Rf) (h : Hp), run d 404 16 [some (vo w), l1] [vo s0] h = run d 404 17 [some (vo w), l1] [vo w, vo s0] h) ∧
  (∀ (d : Nat) (l0 l1 : Option AV) (s1 : Option Rf) (o z : Nat) (h : Hp), run d 404 17 [l0, l1] [vo (some (o, 4, z)), vo s1] h = run d 404 20 [l0, l1] [vo (hR h o 1), vo s1] h) ∧
  (∀ (d : Nat) (l0 : Option AV) (s0 : Option Rf) (s1 : Option Rf) (w : Int32) (h : Hp), run d 404 20 [l0, some (vi w)] [vo s0, vo s1] h = run d 404 21 [l0, some (vi w)] [vi w, vo s0, vo s1] h) ∧
  (∀ (d : Nat) (l0 l1 : Option AV) (s0 : Int32) (s2 : Option Rf) (o z : Nat) (h : Hp), run d 404 21 [l0, l1] [vi s0, vo (some (o, 13, z)), vo s2] h = if s0 < 0 ∨ z ≤ s0.toNatClampNeg then none else run d 404 22 [l0, l1] [vi (hI h o s0.toNatClampNeg), vo s2] h) ∧
  (∀ (d : Nat) (l0 l1 : Option AV) (s0 : Int32) (o z : Nat) (hd : am_rk 405 [vo (some (o, 4, z)), vi s0] < d) (h : Hp), run d 404 22 [l0, l1] [vi s0, vo (some (o, 4, z))] h = (call 405 [vo (some (o, 4, z)), vi s0] h).bind (fun z => run d 404 25 [l0, l1] (z.1.toList ++ []) z.2)) ∧
  (∀ (d : Nat) (l0 l1 : Option AV) (s0 : Int32) (h : Hp), run d 404 25 [l0, l1] [vi s0] h = if s0 = 0 then run d 404 28 [l0, l1] [] h else run d 404 30 [l0, l1] [] h) ∧
  (∀ (d : Nat) (l0 : Option AV) (w : Int32) (h : Hp), run d 404 28 [l0, some (vi w)] [] h = run d 404 29 [l0, some (vi w)] [vi w] h) ∧
  (∀ (d : Nat) (l0 l1 : Option AV) (s0 : Int32) (h : Hp), run d 404 29 [l0, l1] [vi s0] h = some (some (vi s0), h)) ∧
  (∀ (d : Nat) (w : Int32) (h : Hp), run d 404 30 [none, some (vi w)] [] h = run d 404 33 [none, some (vi (w + (1 : Int32)))] [] h) ∧
  (∀ (d : Nat) (w1 : Int32) (w : Int32) (h : Hp), run d 404 30 [some (vi w1), some (vi w)] [] h = run d 404 33 [some (vi w1), some (vi (w + (1 : Int32)))] [] h) ∧
  (∀ (d : Nat) (w1 : Option Rf) (w : Int32) (h : Hp), run d 404 30 [some (vo w1), some (vi w)] [] h = run d 404 33 [some (vo w1), some (vi (w + (1 : Int32)))] [] h) ∧
  (∀ (d : Nat) (l0 l1 : Option AV) (h : Hp), run d 404 33 [l0, l1] [] h = run d 404 7 [l0, l1] [] h) ∧
  (∀ (d : Nat) (l1 : Option AV) (w : Option Rf) (h : Hp), run d 404 36 [some (vo w), l1] [] h = run d 404 37 [some (vo w), l1] [vo w] h) ∧
  (∀ (d : Nat) (l0 l1 : Option AV) (o z : Nat) (h : Hp), run d 404 37 [l0, l1] [vo (some (o, 4, z))] h = run d 404 40 [l0, l1] [vi (hI h o 0)] h) ∧
  (∀ (d : Nat) (l0 l1 : Option AV) (s0 : Int32) (h : Hp), run d 404 40 [l0, l1] [vi s0] h = if s0 ≤ 0 then run d 404 54 [l0, l1] [] h else run d 404 43 [l0, l1] [] h) ∧
  (∀ (d : Nat) (l1 : Option AV) (w : Option Rf) (h : Hp), run d 404 43 [some (vo w), l1] [] h = run d 404 44 [some (vo w), l1] [vo w] h) ∧
  (∀ (d : Nat) (l0 l1 : Option AV) (o z : Nat) (h : Hp), run d 404 44 [l0, l1] [vo (some (o, 4, z))] h = run d 404 47 [l0, l1] [vi (hI h o 2)] h) ∧
  (∀ (d : Nat) (l0 l1 : Option AV) (s0 : Int32) (h : Hp), run d 404 47 [l0, l1] [vi s0] h = if s0 = 0 then run d 404 50 [l0, l1] [] h else run d 404 54 [l0, l1] [] h) ∧
  (∀ (d : Nat) (l0 l1 : Option AV) (h : Hp), run d 404 50 [l0, l1] [] h = run d 404 51 [l0, l1] [vi (-1 : Int32)] h) ∧
  (∀ (d : Nat) (l0 l1 : Option AV) (s0 : Int32) (h : Hp), run d 404 51 [l0, l1] [vi s0] h = run d 404 58 [l0, l1] [vi s0] h) ∧
  (∀ (d : Nat) (l1 : Option AV) (w : Option Rf) (h : Hp), run d 404 54 [some (vo w), l1] [] h = run d 404 55 [some (vo w), l1] [vo w] h) ∧
  (∀ (d : Nat) (l0 l1 : Option AV) (o z : Nat) (h : Hp), run d 404 55 [l0, l1] [vo (some (o, 4, z))] h = run d 404 58 [l0, l1] [vi (hI h o 0)] h) ∧
  (∀ (d : Nat) (l0 l1 : Option AV) (s0 : Int32) (h : Hp), run d 404 58 [l0, l1] [vi s0] h = some (some (vi s0), h)) := ⟨(fun _ _ _ _ => run_next rfl rfl),
  (fun _ _ _ s0 _ => run_next rfl rfl),
  (fun _ _ _ s0 _ _ _ => run_next rfl rfl),
  (fun _ _ _ _ => run_next rfl rfl),
  (fun _ _ s0 _ => run_next rfl rfl),
  (fun _ _ s0 _ _ => run_next rfl rfl),
  (fun _ _ s0 _ _ => run_next rfl rfl),
  (fun _ _ s0 _ _ => run_next rfl rfl),
  (fun _ _ _ _ _ _ _ => run_next rfl rfl),
  (fun _ _ _ s0 _ _ => run_if rfl rfl (run_next rfl) (run_next rfl)),
  (fun _ _ _ _ => run_next rfl rfl),
  (fun _ _ s0 _ _ => run_next rfl rfl),
  (fun _ _ _ _ _ _ _ => run_next rfl rfl),
  (fun _ _ s0 _ _ _ => run_next rfl rfl),
  (fun _ _ _ s0 _ _ _ _ => run_if rfl rfl (run_fail rfl) (run_next rfl)),
  (fun _ _ _ s0 _ _ hd _ => run_calx rfl rfl hd (Nat.le_of_ble_eq_true rfl) rfl),
  (fun _ _ _ s0 _ => run_if rfl rfl (run_next rfl) (run_next rfl)),
  (fun _ _ _ _ => run_next rfl rfl),
  (fun _ _ _ s0 _ => run_ret rfl rfl),
  (fun _ _ _ => run_next rfl rfl),
  (fun _ _ _ _ => run_next rfl rfl),
  (fun _ _ _ _ => run_next rfl rfl),
  (fun _ _ _ _ => run_next rfl rfl),
  (fun _ _ _ _ => run_next rfl rfl),
  (fun _ _ _ _ _ _ => run_next rfl rfl),
  (fun _ _ _ s0 _ => run_if rfl rfl (run_next rfl) (run_next rfl)),
  (fun _ _ _ _ => run_next rfl rfl),
  (fun _ _ _ _ _ _ => run_next rfl rfl),
  (fun _ _ _ s0 _ => run_if rfl rfl (run_next rfl) (run_next rfl)),
  (fun _ _ _ _ => run_next rfl rfl),
  (fun _ _ _ s0 _ => run_next rfl rfl),
  (fun _ _ _ _ => run_next rfl rfl),
  (fun _ _ _ _ _ _ => run_next rfl rfl),
  (fun _ _ _ s0 _ => run_ret rfl rfl)⟩
theorem x_404_7 : (∀ (d : Nat) (l0 : Option AV) (w : Int32) (h : Hp), run d 404 7 [l0, some (vi w)] [] h = run d 404 8 [l0, some (vi w)] [vi w] h) := (fun _ _ _ _ => run_next rfl rfl)
theorem e_404 (v : Option Rf) (h : Hp) : call 404 [vo v] h = run 3 404 0 [some (vo v), none] [] h := rfl
theorem x_405 : (∀ (d : Nat) (l1 : Option AV) (w : Option Rf) (h : Hp), run d 405 0 [some (vo w), l1] [] h = run d 405 1 [some (vo w), l1] [vo w] h) ∧
  (∀ (d : Nat) (l0 l1 : Option AV) (o z : Nat) (h : Hp), run d 405 1 [l0, l1] [vo (some (o, 4, z))] h = run d 405 4 [l0, l1] [vi (hI h o 2)] h) ∧
  (∀ (d : Nat) (l0 l1 : Option AV) (s0 : Int32) (h : Hp), run d 405 4 [l0, l1] [vi s0] h = if s0 = 0 then run d 405 52 [l0, l1] [] h else if s0 = 1 then run d 405 58 [l0, l1] [] h else if s0 = 2 then run d 405 64 [l0, l1] [] h else if s0 = 3 then run d 405 71 [l0, l1] [] h else if s0 = 4 then run d 405 78 [l0, l1] [] h else if s0 = 5 then run d 405 85 [l0, l1] [] h else if s0 = 6 then run d 405 109 [l0, l1] [] h else if s0 = 7 then run d 405 115 [l0, l1] [] h else run d 405 123 [l0, l1] [] h) ∧
  (∀ (d : Nat) (l1 : Option AV) (w : Option Rf) (h : Hp), run d 405 52 [some (vo w), l1] [] h = run d 405 53 [some (vo w), l1] [vo w] h) ∧
  (∀ (d : Nat) (l0 : Option AV) (s0 : Option Rf) (w : Int32) (h : Hp), run d 405 53 [l0, some (vi w)] [vo s0] h = run d 405 54 [l0, some (vi w)] [vi w, vo s0] h) ∧
  (∀ (d : Nat) (l0 l1 : Option AV) (s0 : Int32) (o z : Nat) (hd : am_rk 406 [vo (some (o, 4, z)), vi s0] < d) (h : Hp), run d 405 54 [l0, l1] [vi s0, vo (some (o, 4, z))] h = (call 406 [vo (some (o, 4, z)), vi s0] h).bind (fun z => run d 405 57 [l0, l1] (z.1.toList ++ []) z.2)) ∧
  (∀ (d : Nat) (l0 l1 : Option AV) (s0 : Int32) (h : Hp), run d 405 57 [l0, l1] [vi s0] h = if am_isd s0 = true then some (some (vi s0), h) else none) ∧
  (∀ (d : Nat) (l1 : Option AV) (w : Option Rf) (h : Hp), run d 405 58 [some (vo w), l1] [] h = run d 405 59 [some (vo w), l1] [vo w] h) ∧
  (∀ (d : Nat) (l0 : Option AV) (s0 : Option Rf) (w : Int32) (h : Hp), run d 405 59 [l0, some (vi w)] [vo s0] h = run d 405 60 [l0, some (vi w)] [vi w, vo s0] h) ∧
  (∀ (d : Nat) (l0 l1 : Option AV) (s0 : Int32) (o z : Nat) (hd : am_rk 408 [vo (some (o, 4, z)), vi s0] < d) (h : Hp), run d 405 60 [l0, l1] [vi s0, vo (some (o, 4, z))] h = (call 408 [vo (some (o, 4, z)), vi s0] h).bind (fun z => run d 405 63 [l0, l1] (z.1.toList ++ []) z.2)) ∧
  (∀ (d : Nat) (l0 l1 : Option AV) (s0 : Int32) (h : Hp), run d 405 63 [l0, l1] [vi s0] h = if am_isd s0 = true then some (some (vi s0), h) else none) ∧
  (∀ (d : Nat) (l1 : Option AV) (w : Option Rf) (h : Hp), run d 405 64 [some (vo w), l1] [] h = run d 405 65 [some (vo w), l1] [vo w] h) ∧
  (∀ (d : Nat) (l0 : Option AV) (s0 : Option Rf) (w : Int32) (h : Hp), run d 405 65 [l0, some (vi w)] [vo s0] h = run d 405 66 [l0, some (vi w)] [vi w, vo s0] h) ∧
  (∀ (d : Nat) (l0 l1 : Option AV) (s0 : Int32) (s1 : Option Rf) (h : Hp), run d 405 66 [l0, l1] [vi s0, vo s1] h = run d 405 67 [l0, l1] [vi (3 : Int32), vi s0, vo s1] h) ∧
  (∀ (d : Nat) (l0 l1 : Option AV) (s0 : Int32) (s1 : Int32) (o z : Nat) (hd : am_rk 410 [vo (some (o, 4, z)), vi s1, vi s0] < d) (h : Hp), run d 405 67 [l0, l1] [vi s0, vi s1, vo (some (o, 4, z))] h = (call 410 [vo (some (o, 4, z)), vi s1, vi s0] h).bind (fun z => run d 405 70 [l0, l1] (z.1.toList ++ []) z.2)) ∧
  (∀ (d : Nat) (l0 l1 : Option AV) (s0 : Int32) (h : Hp), run d 405 70 [l0, l1] [vi s0] h = if am_isd s0 = true then some (some (vi s0), h) else none) ∧
  (∀ (d : Nat) (l1 : Option AV) (w : Option Rf) (h : Hp), run d 405 71 [some (vo w), l1] [] h = run d 405 72 [some (vo w), l1] [vo w] h) ∧
  (∀ (d : Nat) (l0 : Option AV) (s0 : Option Rf) (w : Int32) (h : Hp), run d 405 72 [l0, some (vi w)] [vo s0] h = run d 405 73 [l0, some (vi w)] [vi w, vo s0] h) ∧
  (∀ (d : Nat) (l0 l1 : Option AV) (s0 : Int32) (s1 : Option Rf) (h : Hp), run d 405 73 [l0, l1] [vi s0, vo s1] h = run d 405 74 [l0, l1] [vi (4 : Int32), vi s0, vo s1] h) ∧
  (∀ (d : Nat) (l0 l1 : Option AV) (s0 : Int32) (s1 : Int32) (o z : Nat) (hd : am_rk 410 [vo (some (o, 4, z)), vi s1, vi s0] < d) (h : Hp), run d 405 74 [l0, l1] [vi s0, vi s1, vo (some (o, 4, z))] h = (call 410 [vo (some (o, 4, z)), vi s1, vi s0] h).bind (fun z => run d 405 77 [l0, l1] (z.1.toList ++ []) z.2)) ∧
  (∀ (d : Nat) (l0 l1 : Option AV) (s0 : Int32) (h : Hp), run d 405 77 [l0, l1] [vi s0] h = if am_isd s0 = true then some (some (vi s0), h) else none) ∧
  (∀ (d : Nat) (l1 : Option AV) (w : Option Rf) (h : Hp), run d 405 78 [some (vo w), l1] [] h = run d 405 79 [some (vo w), l1] [vo w] h) ∧
  (∀ (d : Nat) (l0 : Option AV) (s0 : Option Rf) (w : Int32) (h : Hp), run d 405 79 [l0, some (vi w)] [vo s0] h = run d 405 80 [l0, some (vi w)] [vi w, vo s0] h) ∧
  (∀ (d : Nat) (l0 l1 : Option AV) (s0 : Int32) (s1 : Option Rf) (h : Hp), run d 405 80 [l0, l1] [vi s0, vo s1] h = run d 405 81 [l0, l1] [vi (5 : Int32), vi s0, vo s1] h) ∧
  (∀ (d : Nat) (l0 l1 : Option AV) (s0 : Int32) (s1 : Int32) (o z : Nat) (hd : am_rk 410 [vo (some (o, 4, z)), vi s1, vi s0] < d) (h : Hp), run d 405 81 [l0, l1] [vi s0, vi s1, vo (some (o, 4, z))] h = (call 410 [vo (some (o, 4, z)), vi s1, vi s0] h).bind (fun z => run d 405 84 [l0, l1] (z.1.toList ++ []) z.2)) ∧
  (∀ (d : Nat) (l0 l1 : Option AV) (s0 : Int32) (h : Hp), run d 405 84 [l0, l1] [vi s0] h = if am_isd s0 = true then some (some (vi s0), h) else none) ∧
  (∀ (d : Nat) (l1 : Option AV) (w : Option Rf) (h : Hp), run d 405 85 [some (vo w), l1] [] h = run d 405 86 [some (vo w), l1] [vo w] h) ∧
  (∀ (d : Nat) (l0 : Option AV) (s0 : Option Rf) (w : Int32) (h : Hp), run d 405 86 [l0, some (vi w)] [vo s0] h = run d 405 87 [l0, some (vi w)] [vi w, vo s0] h) ∧
  (∀ (d : Nat) (l0 l1 : Option AV) (s0 : Int32) (s1 : Option Rf) (h : Hp), run d 405 87 [l0, l1] [vi s0, vo s1] h = run d 405 89 [l0, l1] [vi (6 : Int32), vi s0, vo s1] h) ∧
  (∀ (d : Nat) (l0 l1 : Option AV) (s0 : Int32) (s1 : Int32) (o z : Nat) (hd : am_rk 410 [vo (some (o, 4, z)), vi s1, vi s0] < d) (h : Hp), run d 405 89 [l0, l1] [vi s0, vi s1, vo (some (o, 4, z))] h = (call 410 [vo (some (o, 4, z)), vi s1, vi s0] h).bind (fun z => run d 405 92 [l0, l1] (z.1.toList ++ []) z.2)) ∧
  (∀ (d : Nat) (l0 l1 : Option AV) (s0 : Int32) (h : Hp), run d 405 92 [l0, l1] [vi s0] h = if s0 = 0 then run d 405 95 [l0, l1] [] h else run d 405 103 [l0, l1] [] h) ∧
  (∀ (d : Nat) (l1 : Option AV) (w : Option Rf) (h : Hp), run d 405 95 [some (vo w), l1] [] h = run d 405 96 [some (vo w), l1] [vo w] h) ∧
  (∀ (d : Nat) (l0 : Option AV) (s0 : Option Rf) (w : Int32) (h : Hp), run d 405 96 [l0, some (vi w)] [vo s0] h = run d 405 97 [l0, some (vi w)] [vi w, vo s0] h) ∧
  (∀ (d : Nat) (l0 l1 : Option AV) (s0 : Int32) (o z : Nat) (hd : am_rk 409 [vo (some (o, 4, z)), vi s0] < d) (h : Hp), run d 405 97 [l0, l1] [vi s0, vo (some (o, 4, z))] h = (call 409 [vo (some (o, 4, z)), vi s0] h).bind (fun z => run d 405 100 [l0, l1] (z.1.toList ++ []) z.2)) ∧
  (∀ (d : Nat) (l0 l1 : Option AV) (s0 : Int32) (h : Hp), run d 405 100 [l0, l1] [vi s0] h = if s0 = 0 then run d 405 107 [l0, l1] [] h else run d 405 103 [l0, l1] [] h) ∧
  (∀ (d : Nat) (l0 l1 : Option AV) (h : Hp), run d 405 103 [l0, l1] [] h = run d 405 104 [l0, l1] [vi (1 : Int32)] h) ∧
  (∀ (d : Nat) (l0 l1 : Option AV) (s0 : Int32) (h : Hp), run d 405 104 [l0, l1] [vi s0] h = run d 405 108 [l0, l1] [vi s0] h) ∧
  (∀ (d : Nat) (l0 l1 : Option AV) (h : Hp), run d 405 107 [l0, l1] [] h = run d 405 108 [l0, l1] [vi (0 : Int32)] h) ∧
  (∀ (d : Nat) (l0 l1 : Option AV) (s0 : Int32) (h : Hp), run d 405 108 [l0, l1] [vi s0] h = if am_isd s0 = true then some (some (vi s0), h) else none) ∧
  (∀ (d : Nat) (l1 : Option AV) (w : Option Rf) (h : Hp), run d 405 109 [some (vo w), l1] [] h = run d 405 110 [some (vo w), l1] [vo w] h) ∧
  (∀ (d : Nat) (l0 : Option AV) (s0 : Option Rf) (w : Int32) (h : Hp), run d 405 110 [l0, some (vi w)] [vo s0] h = run d 405 111 [l0, some (vi w)] [vi w, vo s0] h) ∧
  (∀ (d : Nat) (l0 l1 : Option AV) (s0 : Int32) (o z : Nat) (hd : am_rk 409 [vo (some (o, 4, z)), vi s0] < d) (h : Hp), run d 405 111 [l0, l1] [vi s0, vo (some (o, 4, z))] h = (call 409 [vo (some (o, 4, z)), vi s0] h).bind (fun z => run d 405 114 [l0, l1] (z.1.toList ++ []) z.2)) ∧
  (∀ (d : Nat) (l0 l1 : Option AV) (s0 : Int32) (h : Hp), run d 405 114 [l0, l1] [vi s0] h = if am_isd s0 = true then some (some (vi s0), h) else none) ∧
  (∀ (d : Nat) (l1 : Option AV) (w : Option Rf) (h : Hp), run d 405 115 [some (vo w), l1] [] h = run d 405 116 [some (vo w), l1] [vo w] h) ∧
  (∀ (d : Nat) (l0 : Option AV) (s0 : Option Rf) (w : Int32) (h : Hp), run d 405 116 [l0, some (vi w)] [vo s0] h = run d 405 117 [l0, some (vi w)] [vi w, vo s0] h) ∧
  (∀ (d : Nat) (l0 l1 : Option AV) (s0 : Int32) (s1 : Option Rf) (h : Hp), run d 405 117 [l0, l1] [vi s0, vo s1] h = run d 405 119 [l0, l1] [vi (8 : Int32), vi s0, vo s1] h) ∧
  (∀ (d : Nat) (l0 l1 : Option AV) (s0 : Int32) (s1 : Int32) (o z : Nat) (hd : am_rk 410 [vo (some (o, 4, z)), vi s1, vi s0] < d) (h : Hp), run d 405 119 [l0, l1] [vi s0, vi s1, vo (some (o, 4, z))] h = (call 410 [vo (some (o, 4, z)), vi s1, vi s0] h).bind (fun z => run d 405 122 [l0, l1] (z.1.toList ++ []) z.2)) ∧
  (∀ (d : Nat) (l0 l1 : Option AV) (s0 : Int32) (h : Hp), run d 405 122 [l0, l1] [vi s0] h = if am_isd s0 = true then some (some (vi s0), h) else none) ∧
  (∀ (d : Nat) (l1 : Option AV) (w : Option Rf) (h : Hp), run d 405 123 [some (vo w), l1] [] h = run d 405 124 [some (vo w), l1] [vo w] h) ∧
  (∀ (d : Nat) (l0 : Option AV) (s0 : Option Rf) (w : Int32) (h : Hp), run d 405 124 [l0, some (vi w)] [vo s0] h = run d 405 125 [l0, some (vi w)] [vi w, vo s0] h) ∧
  (∀ (d : Nat) (l0 l1 : Option AV) (s0 : Int32) (o z : Nat) (hd : am_rk 407 [vo (some (o, 4, z)), vi s0] < d) (h : Hp), run d 405 125 [l0, l1] [vi s0, vo (some (o, 4, z))] h = (call 407 [vo (some (o, 4, z)), vi s0] h).bind (fun z => run d 405 128 [l0, l1] (z.1.toList ++ []) z.2)) ∧
  (∀ (d : Nat) (l0 l1 : Option AV) (s0 : Int32) (h : Hp), run d 405 128 [l0, l1] [vi s0] h = if am_isd s0 = true then some (some (vi s0), h) else none) := ⟨(fun _ _ _ _ => run_next rfl rfl),
  (fun _ _ _ _ _ _ => run_next rfl rfl),
  (fun _ _ _ s0 _ => (run_sw (fun e => by subst e; exact run_next rfl rfl) fun n0 => (run_sw (fun e => by subst e; exact run_next rfl rfl) fun n1 => (run_sw (fun e => by subst e; exact run_next rfl rfl) fun n2 => (run_sw (fun e => by subst e; exact run_next rfl rfl) fun n3 => (run_sw (fun e => by subst e; exact run_next rfl rfl) fun n4 => (run_sw (fun e => by subst e; exact run_next rfl rfl) fun n5 => (run_sw (fun e => by subst e; exact run_next rfl rfl) fun n6 => (run_sw (fun e => by subst e; exact run_next rfl rfl) fun n7 => run_swd 8 rfl rfl (sw_out8 n0 n1 n2 n3 n4 n5 n6 n7)))))))))),
  (fun _ _ _ _ => run_next rfl rfl),
  (fun _ _ s0 _ _ => run_next rfl rfl),
  (fun _ _ _ s0 _ _ hd _ => run_calx rfl rfl hd (Nat.le_of_ble_eq_true rfl) rfl),
  (fun _ _ _ s0 _ => run_ifz rfl rfl (by simp) (run_ret rfl) (run_fail rfl)),
  (fun _ _ _ _ => run_next rfl rfl),
  (fun _ _ s0 _ _ => run_next rfl rfl),
  (fun _ _ _ s0 _ _ hd _ => run_calx rfl rfl hd (Nat.le_of_ble_eq_true rfl) rfl),
  (fun _ _ _ s0 _ => run_ifz rfl rfl (by simp) (run_ret rfl) (run_fail rfl)),
  (fun _ _ _ _ => run_next rfl rfl),
  (fun _ _ s0 _ _ => run_next rfl rfl),
  (fun _ _ _ s0 _ _ => run_next rfl rfl),
  (fun _ _ _ s0 _ _ _ hd _ => run_calx rfl rfl hd (Nat.le_of_ble_eq_true rfl) rfl),
  (fun _ _ _ s0 _ => run_ifz rfl rfl (by simp) (run_ret rfl) (run_fail rfl)),
  (fun _ _ _ _ => run_next rfl rfl),
  (fun _ _ s0 _ _ => run_next rfl rfl),
  (fun _ _ _ s0 _ _ => run_next rfl rfl),
  (fun _ _ _ s0 _ _ _ hd _ => run_calx rfl rfl hd (Nat.le_of_ble_eq_true rfl) rfl),
  (fun _ _ _ s0 _ => run_ifz rfl rfl (by simp) (run_ret rfl) (run_fail rfl)),
  (fun _ _ _ _ => run_next rfl rfl),
  (fun _ _ s0 _ _ => run_next rfl rfl),
  (fun _ _ _ s0 _ _ => run_next rfl rfl),
  (fun _ _ _ s0 _ _ _ hd _ => run_calx rfl rfl hd (Nat.le_of_ble_eq_true rfl) rfl),
  (fun _ _ _ s0 _ => run_ifz rfl rfl (by simp) (run_ret rfl) (run_fail rfl)),
  (fun _ _ _ _ => run_next rfl rfl),
  (fun _ _ s0 _ _ => run_next rfl rfl),
  (fun _ _ _ s0 _ _ => run_next rfl rfl),
  (fun _ _ _ s0 _ _ _ hd _ => run_calx rfl rfl hd (Nat.le_of_ble_eq_true rfl) rfl),
  (fun _ _ _ s0 _ => run_if rfl rfl (run_next rfl) (run_next rfl)),
  (fun _ _ _ _ => run_next rfl rfl),
  (fun _ _ s0 _ _ => run_next rfl rfl),
  (fun _ _ _ s0 _ _ hd _ => run_calx rfl rfl hd (Nat.le_of_ble_eq_true rfl) rfl),
  (fun _ _ _ s0 _ => run_if rfl rfl (run_next rfl) (run_next rfl)),
  (fun _ _ _ _ => run_next rfl rfl),
  (fun _ _ _ s0 _ => run_next rfl rfl),
  (fun _ _ _ _ => run_next rfl rfl),
  (fun _ _ _ s0 _ => run_ifz rfl rfl (by simp) (run_ret rfl) (run_fail rfl)),
  (fun _ _ _ _ => run_next rfl rfl),
  (fun _ _ s0 _ _ => run_next rfl rfl),
  (fun _ _ _ s0 _ _ hd _ => run_calx rfl rfl hd (Nat.le_of_ble_eq_true rfl) rfl),
  (fun _ _ _ s0 _ => run_ifz rfl rfl (by simp) (run_ret rfl) (run_fail rfl)),
  (fun _ _ _ _ => run_next rfl rfl),
  (fun _ _ s0 _ _ => run_next rfl rfl),
  (fun _ _ _ s0 _ _ => run_next rfl rfl),
  (fun _ _ _ s0 _ _ _ hd _ => run_calx rfl rfl hd (Nat.le_of_ble_eq_true rfl) rfl),
  (fun _ _ _ s0 _ => run_ifz rfl rfl (by simp) (run_ret rfl) (run_fail rfl)),
  (fun _ _ _ _ => run_next rfl rfl),
  (fun _ _ s0 _ _ => run_next rfl rfl),
  (fun _ _ _ s0 _ _ hd _ => run_calx rfl rfl hd (Nat.le_of_ble_eq_true rfl) rfl),
  (fun _ _ _ s0 _ => run_ifz rfl rfl (by simp) (run_ret rfl) (run_fail rfl))⟩
theorem e_405 (v : Option Rf) (a0 : Int32) (h : Hp) : call 405 [vo v, vi a0] h = run 2 405 0 [some (vo v), some (vi a0)] [] h := rfl
theorem x_406 : (∀ (d : Nat) (l1 : Option AV) (w : Option Rf) (h : Hp), run d 406 0 [some (vo w), l1] [] h = run d 406 1 [some (vo w), l1] [vo w] h) ∧
  (∀ (d : Nat) (l0 l1 : Option AV) (s0 : Option Rf) (h : Hp), run d 406 1 [l0, l1] [vo s0] h = run d 406 2 [l0, l1] [vi (0 : Int32), vo s0] h) ∧
  (∀ (d : Nat) (l0 l1 : Option AV) (s0 : Int32) (o z : Nat) (h : Hp), run d 406 2 [l0, l1] [vi s0, vo (some (o, 4, z))] h = run d 406 5 [l0, l1] [] (hsI h o 3 s0)) ∧
  (∀ (d : Nat) (l1 : Option AV) (w : Option Rf) (h : Hp), run d 406 5 [some (vo w), l1] [] h = run d 406 6 [some (vo w), l1] [vo w] h) ∧
  (∀ (d : Nat) (l0 l1 : Option AV) (s0 : Option Rf) (h : Hp), run d 406 6 [l0, l1] [vo s0] h = run d 406 8 [l0, l1] [vi (6 : Int32), vo s0] h) ∧
  (∀ (d : Nat) (l0 l1 : Option AV) (s0 : Int32) (o z : Nat) (h : Hp), run d 406 8 [l0, l1] [vi s0, vo (some (o, 4, z))] h = run d 406 11 [l0, l1] [] (hsI h o 4 s0)) ∧
  (∀ (d : Nat) (l1 : Option AV) (w : Option Rf) (h : Hp), run d 406 11 [some (vo w), l1] [] h = run d 406 12 [some (vo w), l1] [vo w] h) ∧
  (∀ (d : Nat) (l0 l1 : Option AV) (s0 : Option Rf) (h : Hp), run d 406 12 [l0, l1] [vo s0] h = run d 406 13 [l0, l1] [vi (0 : Int32), vo s0] h) ∧
  (∀ (d : Nat) (l0 l1 : Option AV) (s0 : Int32) (o z : Nat) (h : Hp), run d 406 13 [l0, l1] [vi s0, vo (some (o, 4, z))] h = run d 406 16 [l0, l1] [] (hsI h o 5 s0)) ∧
  (∀ (d : Nat) (l1 : Option AV) (w : Option Rf) (h : Hp), run d 406 16 [some (vo w), l1] [] h = run d 406 17 [some (vo w), l1] [vo w] h) ∧
  (∀ (d : Nat) (l0 l1 : Option AV) (s0 : Option Rf) (h : Hp), run d 406 17 [l0, l1] [vo s0] h = run d 406 18 [l0, l1] [vi (0 : Int32), vo s0] h) ∧
  (∀ (d : Nat) (l0 l1 : Option AV) (s0 : Int32) (o z : Nat) (h : Hp), run d 406 18 [l0, l1] [vi s0, vo (some (o, 4, z))] h = run d 406 21 [l0, l1] [] (hsI h o 6 s0)) ∧
  (∀ (d : Nat) (l0 : Option AV) (w : Int32) (h : Hp), run d 406 21 [l0, some (vi w)] [] h = run d 406 22 [l0, some (vi w)] [vi w] h) ∧
  (∀ (d : Nat) (l0 l1 : Option AV) (s0 : Int32) (h : Hp), run d 406 22 [l0, l1] [vi s0] h = if s0 = 100 then run d 406 70 [l0, l1] [] h else if s0 = 109 then run d 406 56 [l0, l1] [] h else if s0 = 112 then run d 406 63 [l0, l1] [] h else run d 406 78 [l0, l1] [] h) ∧
  (∀ (d : Nat) (l1 : Option AV) (w : Option Rf) (h : Hp), run d 406 56 [some (vo w), l1] [] h = run d 406 57 [some (vo w), l1] [vo w] h) ∧
  (∀ (d : Nat) (l0 l1 : Option AV) (s0 : Option Rf) (h : Hp), run d 406 57 [l0, l1] [vo s0] h = run d 406 58 [l0, l1] [vi (1 : Int32), vo s0] h) ∧
  (∀ (d : Nat) (l0 l1 : Option AV) (s0 : Int32) (o z : Nat) (h : Hp), run d 406 58 [l0, l1] [vi s0, vo (some (o, 4, z))] h = run d 406 61 [l0, l1] [] (hsI h o 2 s0)) ∧
  (∀ (d : Nat) (l0 l1 : Option AV) (h : Hp), run d 406 61 [l0, l1] [] h = run d 406 62 [l0, l1] [vi (1 : Int32)] h) ∧
  (∀ (d : Nat) (l0 l1 : Option AV) (s0 : Int32) (h : Hp), run d 406 62 [l0, l1] [vi s0] h = if am_isd s0 = true then some (some (vi s0), h) else none) ∧
  (∀ (d : Nat) (l1 : Option AV) (w : Option Rf) (h : Hp), run d 406 63 [some (vo w), l1] [] h = run d 406 64 [some (vo w), l1] [vo w] h) ∧
  (∀ (d : Nat) (l0 l1 : Option AV) (s0 : Option Rf) (h : Hp), run d 406 64 [l0, l1] [vo s0] h = run d 406 65 [l0, l1] [vi (2 : Int32), vo s0] h) ∧
  (∀ (d : Nat) (l0 l1 : Option AV) (s0 : Int32) (o z : Nat) (h : Hp), run d 406 65 [l0, l1] [vi s0, vo (some (o, 4, z))] h = run d 406 68 [l0, l1] [] (hsI h o 2 s0)) ∧
  (∀ (d : Nat) (l0 l1 : Option AV) (h : Hp), run d 406 68 [l0, l1] [] h = run d 406 69 [l0, l1] [vi (1 : Int32)] h) ∧
  (∀ (d : Nat) (l0 l1 : Option AV) (s0 : Int32) (h : Hp), run d 406 69 [l0, l1] [vi s0] h = if am_isd s0 = true then some (some (vi s0), h) else none) ∧
  (∀ (d : Nat) (l1 : Option AV) (w : Option Rf) (h : Hp), run d 406 70 [some (vo w), l1] [] h = run d 406 71 [some (vo w), l1] [vo w] h) ∧
  (∀ (d : Nat) (l0 l1 : Option AV) (s0 : Option Rf) (h : Hp), run d 406 71 [l0, l1] [vo s0] h = run d 406 73 [l0, l1] [vi (7 : Int32), vo s0] h) ∧
  (∀ (d : Nat) (l0 l1 : Option AV) (s0 : Int32) (o z : Nat) (h : Hp), run d 406 73 [l0, l1] [vi s0, vo (some (o, 4, z))] h = run d 406 76 [l0, l1] [] (hsI h o 2 s0)) ∧
  (∀ (d : Nat) (l0 l1 : Option AV) (h : Hp), run d 406 76 [l0, l1] [] h = run d 406 77 [l0, l1] [vi (1 : Int32)] h) ∧
  (∀ (d : Nat) (l0 l1 : Option AV) (s0 : Int32) (h : Hp), run d 406 77 [l0, l1] [vi s0] h = if am_isd s0 = true then some (some (vi s0), h) else none) ∧
  (∀ (d : Nat) (l0 l1 : Option AV) (h : Hp), run d 406 78 [l0, l1] [] h = run d 406 79 [l0, l1] [vi (0 : Int32)] h) ∧
  (∀ (d : Nat) (l0 l1 : Option AV) (s0 : Int32) (h : Hp), run d 406 79 [l0, l1] [vi s0] h = if am_isd s0 = true then some (some (vi s0), h) else none) := ⟨(fun _ _ _ _ => run_next rfl rfl),
  (fun _ _ _ s0 _ => run_next rfl rfl),
  (fun _ _ _ s0 _ _ _ => run_next rfl rfl),
  (fun _ _ _ _ => run_next rfl rfl),
  (fun _ _ _ s0 _ => run_next rfl rfl),
  (fun _ _ _ s0 _ _ _ => run_next rfl rfl),
  (fun _ _ _ _ => run_next rfl rfl),
  (fun _ _ _ s0 _ => run_next rfl rfl),
  (fun _ _ _ s0 _ _ _ => run_next rfl rfl),
  (fun _ _ _ _ => run_next rfl rfl),
  (fun _ _ _ s0 _ => run_next rfl rfl),
  (fun _ _ _ s0 _ _ _ => run_next rfl rfl),
  (fun _ _ _ _ => run_next rfl rfl),
  (fun _ _ _ s0 _ => (run_sw (fun e => by subst e; exact run_next rfl rfl) fun n0 => (run_sw (fun e => by subst e; exact run_next rfl rfl) fun n1 => (run_sw (fun e => by subst e; exact run_next rfl rfl) fun n2 => run_lk (off := 56) rfl rfl ((lv_osw n0 (by decide)).trans ((lv_osw n1 (by decide)).trans ((lv_osw n2 (by decide)).trans rfl))))))),
  (fun _ _ _ _ => run_next rfl rfl),
  (fun _ _ _ s0 _ => run_next rfl rfl),
  (fun _ _ _ s0 _ _ _ => run_next rfl rfl),
  (fun _ _ _ _ => run_next rfl rfl),
  (fun _ _ _ s0 _ => run_ifz rfl rfl (by simp) (run_ret rfl) (run_fail rfl)),
  (fun _ _ _ _ => run_next rfl rfl),
  (fun _ _ _ s0 _ => run_next rfl rfl),
  (fun _ _ _ s0 _ _ _ => run_next rfl rfl),
  (fun _ _ _ _ => run_next rfl rfl),
  (fun _ _ _ s0 _ => run_ifz rfl rfl (by simp) (run_ret rfl) (run_fail rfl)),
  (fun _ _ _ _ => run_next rfl rfl),
  (fun _ _ _ s0 _ => run_next rfl rfl),
  (fun _ _ _ s0 _ _ _ => run_next rfl rfl),
  (fun _ _ _ _ => run_next rfl rfl),
  (fun _ _ _ s0 _ => run_ifz rfl rfl (by simp) (run_ret rfl) (run_fail rfl)),
  (fun _ _ _ _ => run_next rfl rfl),
  (fun _ _ _ s0 _ => run_ifz rfl rfl (by simp) (run_ret rfl) (run_fail rfl))⟩
theorem e_406 (v : Option Rf) (a0 : Int32) (h : Hp) : call 406 [vo v, vi a0] h = run 0 406 0 [some (vo v), some (vi a0)] [] h := rfl
theorem x_407 : (∀ (d : Nat) (l1 : Option AV) (w : Option Rf) (h : Hp), run d 407 0 [some (vo w), l1] [] h = run d 407 1 [some (vo w), l1] [vo w] h) ∧
  (∀ (d : Nat) (l0 l1 : Option AV) (s0 : Option Rf) (h : Hp), run d 407 1 [l0, l1] [vo s0] h = run d 407 2 [l0, l1] [vi (0 : Int32), vo s0] h) ∧
  (∀ (d : Nat) (l0 l1 : Option AV) (s0 : Int32) (o z : Nat) (h : Hp), run d 407 2 [l0, l1] [vi s0, vo (some (o, 4, z))] h = run d 407 5 [l0, l1] [] (hsI h o 2 s0)) ∧
  (∀ (d : Nat) (l0 : Option AV) (w : Int32) (h : Hp), run d 407 5 [l0, some (vi w)] [] h = run d 407 6 [l0, some (vi w)] [vi w] h) ∧
  (∀ (d : Nat) (l0 l1 : Option AV) (s0 : Int32) (h : Hp), run d 407 6 [l0, l1] [vi s0] h = run d 407 8 [l0, l1] [vi (59 : Int32), vi s0] h) ∧
  (∀ (d : Nat) (l0 l1 : Option AV) (s0 : Int32) (s1 : Int32) (h : Hp), run d 407 8 [l0, l1] [vi s0, vi s1] h = if s1 = s0 then run d 407 11 [l0, l1] [] h else run d 407 15 [l0, l1] [] h) ∧
  (∀ (d : Nat) (l0 l1 : Option AV) (h : Hp), run d 407 11 [l0, l1] [] h = run d 407 12 [l0, l1] [vi (1 : Int32)] h) ∧
  (∀ (d : Nat) (l0 l1 : Option AV) (s0 : Int32) (h : Hp), run d 407 12 [l0, l1] [vi s0] h = run d 407 16 [l0, l1] [vi s0] h) ∧
  (∀ (d : Nat) (l0 l1 : Option AV) (h : Hp), run d 407 15 [l0, l1] [] h = run d 407 16 [l0, l1] [vi (0 : Int32)] h) ∧
  (∀ (d : Nat) (l0 l1 : Option AV) (s0 : Int32) (h : Hp), run d 407 16 [l0, l1] [vi s0] h = if am_isd s0 = true then some (some (vi s0), h) else none) := ⟨(fun _ _ _ _ => run_next rfl rfl),
  (fun _ _ _ s0 _ => run_next rfl rfl),
  (fun _ _ _ s0 _ _ _ => run_next rfl rfl),
  (fun _ _ _ _ => run_next rfl rfl),
  (fun _ _ _ s0 _ => run_next rfl rfl),
  (fun _ _ _ s0 _ _ => run_if rfl rfl (run_next rfl) (run_next rfl)),
  (fun _ _ _ _ => run_next rfl rfl),
  (fun _ _ _ s0 _ => run_next rfl rfl),
  (fun _ _ _ _ => run_next rfl rfl),
  (fun _ _ _ s0 _ => run_ifz rfl rfl (by simp) (run_ret rfl) (run_fail rfl))⟩
theorem e_407 (v : Option Rf) (a0 : Int32) (h : Hp) : call 407 [vo v, vi a0] h = run 0 407 0 [some (vo v), some (vi a0)] [] h := rfl
theorem x_408 : (∀ (d : Nat) (l0 l2 : Option AV) (w : Int32) (h : Hp), run d 408 0 [l0, some (vi w), l2] [] h = run d 408 1 [l0, some (vi w), l2] [vi w] h) ∧
  (∀ (d : Nat) (l0 l1 l2 : Option AV) (s0 : Int32) (h : Hp), run d 408 1 [l0, l1, l2] [vi s0] h = run d 408 3 [l0, l1, l2] [vi (46 : Int32), vi s0] h) ∧
  (∀ (d : Nat) (l0 l1 l2 : Option AV) (s0 : Int32) (s1 : Int32) (h : Hp), run d 408 3 [l0, l1, l2] [vi s0, vi s1] h = if s1 = s0 then run d 408 12 [l0, l1, l2] [] h else run d 408 6 [l0, l1, l2] [] h) ∧
  (∀ (d : Nat) (l0 l2 : Option AV) (w : Int32) (h : Hp), run d 408 6 [l0, some (vi w), l2] [] h = run d 408 7 [l0, some (vi w), l2] [vi w] h) ∧
  (∀ (d : Nat) (l0 l1 l2 : Option AV) (s0 : Int32) (h : Hp), run d 408 7 [l0, l1, l2] [vi s0] h = run d 408 9 [l0, l1, l2] [vi (35 : Int32), vi s0] h) ∧
  (∀ (d : Nat) (l0 l1 l2 : Option AV) (s0 : Int32) (s1 : Int32) (h : Hp), run d 408 9 [l0, l1, l2] [vi s0, vi s1] h = if s1 = s0 then run d 408 12 [l0, l1, l2] [] h else run d 408 39 [l0, l1, l2] [] h) ∧
  (∀ (d : Nat) (l1 l2 : Option AV) (w : Option Rf) (h : Hp), run d 408 12 [some (vo w), l1, l2] [] h = run d 408 13 [some (vo w), l1, l2] [vo w] h) ∧
  (∀ (d : Nat) (l0 l1 l2 : Option AV) (s0 : Option Rf) (h : Hp), run d 408 13 [l0, l1, l2] [vo s0] h = run d 408 14 [l0, l1, l2] [vo s0, vo s0] h) ∧
  (∀ (d : Nat) (l0 l1 l2 : Option AV) (s1 : Option Rf) (o z : Nat) (h : Hp), run d 408 14 [l0, l1, l2] [vo (some (o, 4, z)), vo s1] h = run d 408 17 [l0, l1, l2] [vi (hI h o 5), vo s1] h) ∧
  (∀ (d : Nat) (l0 l1 l2 : Option AV) (s0 : Int32) (s1 : Option Rf) (h : Hp), run d 408 17 [l0, l1, l2] [vi s0, vo s1] h = run d 408 18 [l0, l1, l2] [vi (1 : Int32), vi s0, vo s1] h) ∧
  (∀ (d : Nat) (l0 l1 l2 : Option AV) (s0 : Int32) (s1 : Int32) (s2 : Option Rf) (h : Hp), run d 408 18 [l0, l1, l2] [vi s0, vi s1, vo s2] h = run d 408 19 [l0, l1, l2] [vi (s1 + s0), vo s2] h) ∧
  (∀ (d : Nat) (l0 l1 l2 : Option AV) (s0 : Int32) (o z : Nat) (h : Hp), run d 408 19 [l0, l1, l2] [vi s0, vo (some (o, 4, z))] h = run d 408 22 [l0, l1, l2] [] (hsI h o 5 s0)) ∧
  (∀ (d : Nat) (l1 l2 : Option AV) (w : Option Rf) (h : Hp), run d 408 22 [some (vo w), l1, l2] [] h = run d 408 23 [some (vo w), l1, l2] [vo w] h) ∧
  (∀ (d : Nat) (l0 l1 l2 : Option AV) (o z : Nat) (h : Hp), run d 408 23 [l0, l1, l2] [vo (some (o, 4, z))] h = run d 408 26 [l0, l1, l2] [vi (hI h o 5)] h) ∧
  (∀ (d : Nat) (l1 l2 : Option AV) (s0 : Int32) (w : Option Rf) (h : Hp), run d 408 26 [some (vo w), l1, l2] [vi s0] h = run d 408 27 [some (vo w), l1, l2] [vo w, vi s0] h) ∧
  (∀ (d : Nat) (l0 l1 l2 : Option AV) (s1 : Int32) (o z : Nat) (h : Hp), run d 408 27 [l0, l1, l2] [vo (some (o, 4, z)), vi s1] h = run d 408 30 [l0, l1, l2] [vi (hI h o 4), vi s1] h) ∧
  (∀ (d : Nat) (l0 l1 l2 : Option AV) (s0 : Int32) (s1 : Int32) (h : Hp), run d 408 30 [l0, l1, l2] [vi s0, vi s1] h = if s0 < s1 then run d 408 37 [l0, l1, l2] [] h else run d 408 33 [l0, l1, l2] [] h) ∧
  (∀ (d : Nat) (l0 l1 l2 : Option AV) (h : Hp), run d 408 33 [l0, l1, l2] [] h = run d 408 34 [l0, l1, l2] [vi (1 : Int32)] h) ∧
  (∀ (d : Nat) (l0 l1 l2 : Option AV) (s0 : Int32) (h : Hp), run d 408 34 [l0, l1, l2] [vi s0] h = run d 408 38 [l0, l1, l2] [vi s0] h) ∧
  (∀ (d : Nat) (l0 l1 l2 : Option AV) (h : Hp), run d 408 37 [l0, l1, l2] [] h = run d 408 38 [l0, l1, l2] [vi (0 : Int32)] h) ∧
  (∀ (d : Nat) (l0 l1 l2 : Option AV) (s0 : Int32) (h : Hp), run d 408 38 [l0, l1, l2] [vi s0] h = if am_isd s0 = true then some (some (vi s0), h) else none) ∧
  (∀ (d : Nat) (l0 l2 : Option AV) (w : Int32) (h : Hp), run d 408 39 [l0, some (vi w), l2] [] h = run d 408 40 [l0, some (vi w), l2] [vi w] h) ∧
  (∀ (d : Nat) (l0 l1 l2 : Option AV) (s0 : Int32) (h : Hp), run d 408 40 [l0, l1, l2] [vi s0] h = run d 408 42 [l0, l1, l2] [vi (47 : Int32), vi s0] h) ∧
  (∀ (d : Nat) (l0 l1 l2 : Option AV) (s0 : Int32) (s1 : Int32) (h : Hp), run d 408 42 [l0, l1, l2] [vi s0, vi s1] h = if s1 = s0 then run d 408 45 [l0, l1, l2] [] h else run d 408 126 [l0, l1, l2] [] h) ∧
  (∀ (d : Nat) (l1 l2 : Option AV) (w : Option Rf) (h : Hp), run d 408 45 [some (vo w), l1, l2] [] h = run d 408 46 [some (vo w), l1, l2] [vo w] h) ∧
  (∀ (d : Nat) (l0 l1 l2 : Option AV) (o z : Nat) (h : Hp), run d 408 46 [l0, l1, l2] [vo (some (o, 4, z))] h = run d 408 49 [l0, l1, l2] [vi (hI h o 3)] h) ∧
  (∀ (d : Nat) (l0 l1 l2 : Option AV) (s0 : Int32) (h : Hp), run d 408 49 [l0, l1, l2] [vi s0] h = if s0 = 0 then run d 408 52 [l0, l1, l2] [] h else run d 408 68 [l0, l1, l2] [] h) ∧
  (∀ (d : Nat) (l1 l2 : Option AV) (w : Option Rf) (h : Hp), run d 408 52 [some (vo w), l1, l2] [] h = run d 408 53 [some (vo w), l1, l2] [vo w] h) ∧
  (∀ (d : Nat) (l0 l1 l2 : Option AV) (o z : Nat) (h : Hp), run d 408 53 [l0, l1, l2] [vo (some (o, 4, z))] h = run d 408 56 [l0, l1, l2] [vi (hI h o 5)] h) ∧
  (∀ (d : Nat) (l0 l1 l2 : Option AV) (s0 : Int32) (h : Hp), run d 408 56 [l0, l1, l2] [vi s0] h = run d 408 57 [l0, l1, l2] [vi (2 : Int32), vi s0] h) ∧
  (∀ (d : Nat) (l0 l1 l2 : Option AV) (s0 : Int32) (s1 : Int32) (h : Hp), run d 408 57 [l0, l1, l2] [vi s0, vi s1] h = if s1 < s0 then run d 408 64 [l0, l1, l2] [] h else run d 408 60 [l0, l1, l2] [] h) ∧
  (∀ (d : Nat) (l0 l1 l2 : Option AV) (h : Hp), run d 408 60 [l0, l1, l2] [] h = run d 408 61 [l0, l1, l2] [vi (1 : Int32)] h) ∧
  (∀ (d : Nat) (l0 l1 l2 : Option AV) (s0 : Int32) (h : Hp), run d 408 61 [l0, l1, l2] [vi s0] h = run d 408 84 [l0, l1, l2] [vi s0] h) ∧
  (∀ (d : Nat) (l0 l1 l2 : Option AV) (h : Hp), run d 408 64 [l0, l1, l2] [] h = run d 408 65 [l0, l1, l2] [vi (0 : Int32)] h) ∧
  (∀ (d : Nat) (l0 l1 l2 : Option AV) (s0 : Int32) (h : Hp), run d 408 65 [l0, l1, l2] [vi s0] h = run d 408 84 [l0, l1, l2] [vi s0] h) ∧
  (∀ (d : Nat) (l1 l2 : Option AV) (w : Option Rf) (h : Hp), run d 408 68 [some (vo w), l1, l2] [] h = run d 408 69 [some (vo w), l1, l2] [vo w] h) ∧
  (∀ (d : Nat) (l0 l1 l2 : Option AV) (o z : Nat) (h : Hp), run d 408 69 [l0, l1, l2] [vo (some (o, 4, z))] h = run d 408 72 [l0, l1, l2] [vi (hI h o 5)] h) ∧
  (∀ (d : Nat) (l1 l2 : Option AV) (s0 : Int32) (w : Option Rf) (h : Hp), run d 408 72 [some (vo w), l1, l2] [vi s0] h = run d 408 73 [some (vo w), l1, l2] [vo w, vi s0] h) ∧
  (∀ (d : Nat) (l0 l1 l2 : Option AV) (s1 : Int32) (o z : Nat) (h : Hp), run d 408 73 [l0, l1, l2] [vo (some (o, 4, z)), vi s1] h = run d 408 76 [l0, l1, l2] [vi (hI h o 4), vi s1] h) ∧
  (∀ (d : Nat) (l0 l1 l2 : Option AV) (s0 : Int32) (s1 : Int32) (h : Hp), run d 408 76 [l0, l1, l2] [vi s0, vi s1] h = if s1 = s0 then run d 408 79 [l0, l1, l2] [] h else run d 408 83 [l0, l1, l2] [] h) ∧
  (∀ (d : Nat) (l0 l1 l2 : Option AV) (h : Hp), run d 408 79 [l0, l1, l2] [] h = run d 408 80 [l0, l1, l2] [vi (1 : Int32)] h) ∧
  (∀ (d : Nat) (l0 l1 l2 : Option AV) (s0 : Int32) (h : Hp), run d 408 80 [l0, l1, l2] [vi s0] h = run d 408 84 [l0, l1, l2] [vi s0] h) ∧
  (∀ (d : Nat) (l0 l1 l2 : Option AV) (h : Hp), run d 408 83 [l0, l1, l2] [] h = run d 408 84 [l0, l1, l2] [vi (0 : Int32)] h) ∧
  (∀ (d : Nat) (l0 l2 : Option AV) (s0 : Int32) (h : Hp), run d 408 84 [l0, none, l2] [vi s0] h = run d 408 85 [l0, none, some (vi s0)] [] h) ∧
  (∀ (d : Nat) (l0 l2 : Option AV) (s0 : Int32) (w1 : Int32) (h : Hp), run d 408 84 [l0, some (vi w1), l2] [vi s0] h = run d 408 85 [l0, some (vi w1), some (vi s0)] [] h) ∧
  (∀ (d : Nat) (l0 l2 : Option AV) (s0 : Int32) (w1 : Option Rf) (h : Hp), run d 408 84 [l0, some (vo w1), l2] [vi s0] h = run d 408 85 [l0, some (vo w1), some (vi s0)] [] h) ∧
  (∀ (d : Nat) (l1 l2 : Option AV) (w : Option Rf) (h : Hp), run d 408 85 [some (vo w), l1, l2] [] h = run d 408 86 [some (vo w), l1, l2] [vo w] h) ∧
  (∀ (d : Nat) (l1 l2 : Option AV) (s0 : Option Rf) (w : Option Rf) (h : Hp), run d 408 86 [some (vo w), l1, l2] [vo s0] h = run d 408 87 [some (vo w), l1, l2] [vo w, vo s0] h) ∧
  (∀ (d : Nat) (l0 l1 l2 : Option AV) (s1 : Option Rf) (o z : Nat) (h : Hp), run d 408 87 [l0, l1, l2] [vo (some (o, 4, z)), vo s1] h = run d 408 90 [l0, l1, l2] [vi (hI h o 5), vo s1] h) ∧
  (∀ (d : Nat) (l0 l1 l2 : Option AV) (s0 : Int32) (o z : Nat) (h : Hp), run d 408 90 [l0, l1, l2] [vi s0, vo (some (o, 4, z))] h = run d 408 93 [l0, l1, l2] [] (hsI h o 4 s0)) ∧
  (∀ (d : Nat) (l1 l2 : Option AV) (w : Option Rf) (h : Hp), run d 408 93 [some (vo w), l1, l2] [] h = run d 408 94 [some (vo w), l1, l2] [vo w] h) ∧
  (∀ (d : Nat) (l0 l1 l2 : Option AV) (s0 : Option Rf) (h : Hp), run d 408 94 [l0, l1, l2] [vo s0] h = run d 408 95 [l0, l1, l2] [vi (0 : Int32), vo s0] h) ∧
  (∀ (d : Nat) (l0 l1 l2 : Option AV) (s0 : Int32) (o z : Nat) (h : Hp), run d 408 95 [l0, l1, l2] [vi s0, vo (some (o, 4, z))] h = run d 408 98 [l0, l1, l2] [] (hsI h o 5 s0)) ∧
  (∀ (d : Nat) (l1 l2 : Option AV) (w : Option Rf) (h : Hp), run d 408 98 [some (vo w), l1, l2] [] h = run d 408 99 [some (vo w), l1, l2] [vo w] h) ∧
  (∀ (d : Nat) (l0 l1 l2 : Option AV) (s0 : Option Rf) (h : Hp), run d 408 99 [l0, l1, l2] [vo s0] h = run d 408 100 [l0, l1, l2] [vo s0, vo s0] h) ∧
  (∀ (d : Nat) (l0 l1 l2 : Option AV) (s1 : Option Rf) (o z : Nat) (h : Hp), run d 408 100 [l0, l1, l2] [vo (some (o, 4, z)), vo s1] h = run d 408 103 [l0, l1, l2] [vi (hI h o 3), vo s1] h) ∧
  (∀ (d : Nat) (l0 l1 l2 : Option AV) (s0 : Int32) (s1 : Option Rf) (h : Hp), run d 408 103 [l0, l1, l2] [vi s0, vo s1] h = run d 408 104 [l0, l1, l2] [vi (1 : Int32), vi s0, vo s1] h) ∧
  (∀ (d : Nat) (l0 l1 l2 : Option AV) (s0 : Int32) (s1 : Int32) (s2 : Option Rf) (h : Hp), run d 408 104 [l0, l1, l2] [vi s0, vi s1, vo s2] h = run d 408 105 [l0, l1, l2] [vi (s1 + s0), vo s2] h) ∧
  (∀ (d : Nat) (l0 l1 l2 : Option AV) (s0 : Int32) (o z : Nat) (h : Hp), run d 408 105 [l0, l1, l2] [vi s0, vo (some (o, 4, z))] h = run d 408 108 [l0, l1, l2] [] (hsI h o 3 s0)) ∧
  (∀ (d : Nat) (l0 l1 : Option AV) (w : Int32) (h : Hp), run d 408 108 [l0, l1, some (vi w)] [] h = run d 408 109 [l0, l1, some (vi w)] [vi w] h) ∧
  (∀ (d : Nat) (l0 l1 l2 : Option AV) (s0 : Int32) (h : Hp), run d 408 109 [l0, l1, l2] [vi s0] h = if s0 = 0 then run d 408 124 [l0, l1, l2] [] h else run d 408 112 [l0, l1, l2] [] h) ∧
  (∀ (d : Nat) (l1 l2 : Option AV) (w : Option Rf) (h : Hp), run d 408 112 [some (vo w), l1, l2] [] h = run d 408 113 [some (vo w), l1, l2] [vo w] h) ∧
  (∀ (d : Nat) (l0 l1 l2 : Option AV) (o z : Nat) (h : Hp), run d 408 113 [l0, l1, l2] [vo (some (o, 4, z))] h = run d 408 116 [l0, l1, l2] [vi (hI h o 3)] h) ∧
  (∀ (d : Nat) (l0 l1 l2 : Option AV) (s0 : Int32) (h : Hp), run d 408 116 [l0, l1, l2] [vi s0] h = run d 408 117 [l0, l1, l2] [vi (5 : Int32), vi s0] h) ∧
  (∀ (d : Nat) (l0 l1 l2 : Option AV) (s0 : Int32) (s1 : Int32) (h : Hp), run d 408 117 [l0, l1, l2] [vi s0, vi s1] h = if s0 ≤ s1 then run d 408 124 [l0, l1, l2] [] h else run d 408 120 [l0, l1, l2] [] h) ∧
  (∀ (d : Nat) (l0 l1 l2 : Option AV) (h : Hp), run d 408 120 [l0, l1, l2] [] h = run d 408 121 [l0, l1, l2] [vi (1 : Int32)] h) ∧
  (∀ (d : Nat) (l0 l1 l2 : Option AV) (s0 : Int32) (h : Hp), run d 408 121 [l0, l1, l2] [vi s0] h = run d 408 125 [l0, l1, l2] [vi s0] h) ∧
  (∀ (d : Nat) (l0 l1 l2 : Option AV) (h : Hp), run d 408 124 [l0, l1, l2] [] h = run d 408 125 [l0, l1, l2] [vi (0 : Int32)] h) ∧
  (∀ (d : Nat) (l0 l1 l2 : Option AV) (s0 : Int32) (h : Hp), run d 408 125 [l0, l1, l2] [vi s0] h = if am_isd s0 = true then some (some (vi s0), h) else none) ∧
  (∀ (d : Nat) (l1 l2 : Option AV) (w : Option Rf) (h : Hp), run d 408 126 [some (vo w), l1, l2] [] h = run d 408 127 [some (vo w), l1, l2] [vo w] h) ∧
  (∀ (d : Nat) (l0 l1 l2 : Option AV) (o z : Nat) (h : Hp), run d 408 127 [l0, l1, l2] [vo (some (o, 4, z))] h = run d 408 130 [l0, l1, l2] [vi (hI h o 3)] h) ∧
  (∀ (d : Nat) (l0 l1 l2 : Option AV) (s0 : Int32) (h : Hp), run d 408 130 [l0, l1, l2] [vi s0] h = if s0 ≤ 0 then run d 408 156 [l0, l1, l2] [] h else run d 408 133 [l0, l1, l2] [] h) ∧
  (∀ (d : Nat) (l1 l2 : Option AV) (w : Option Rf) (h : Hp), run d 408 133 [some (vo w), l1, l2] [] h = run d 408 134 [some (vo w), l1, l2] [vo w] h) ∧
  (∀ (d : Nat) (l0 l1 l2 : Option AV) (o z : Nat) (h : Hp), run d 408 134 [l0, l1, l2] [vo (some (o, 4, z))] h = run d 408 137 [l0, l1, l2] [vi (hI h o 5)] h) ∧
  (∀ (d : Nat) (l1 l2 : Option AV) (s0 : Int32) (w : Option Rf) (h : Hp), run d 408 137 [some (vo w), l1, l2] [vi s0] h = run d 408 138 [some (vo w), l1, l2] [vo w, vi s0] h) ∧
  (∀ (d : Nat) (l0 l1 l2 : Option AV) (s1 : Int32) (o z : Nat) (h : Hp), run d 408 138 [l0, l1, l2] [vo (some (o, 4, z)), vi s1] h = run d 408 141 [l0, l1, l2] [vi (hI h o 4), vi s1] h) ∧
  (∀ (d : Nat) (l0 l1 l2 : Option AV) (s0 : Int32) (s1 : Int32) (h : Hp), run d 408 141 [l0, l1, l2] [vi s0, vi s1] h = if s1 = s0 then run d 408 144 [l0, l1, l2] [] h else run d 408 156 [l0, l1, l2] [] h) ∧
  (∀ (d : Nat) (l1 l2 : Option AV) (w : Option Rf) (h : Hp), run d 408 144 [some (vo w), l1, l2] [] h = run d 408 145 [some (vo w), l1, l2] [vo w] h) ∧
  (∀ (d : Nat) (l0 l2 : Option AV) (s0 : Option Rf) (w : Int32) (h : Hp), run d 408 145 [l0, some (vi w), l2] [vo s0] h = run d 408 146 [l0, some (vi w), l2] [vi w, vo s0] h) ∧
  (∀ (d : Nat) (l0 l1 l2 : Option AV) (s0 : Int32) (o z : Nat) (hd : am_rk 407 [vo (some (o, 4, z)), vi s0] < d) (h : Hp), run d 408 146 [l0, l1, l2] [vi s0, vo (some (o, 4, z))] h = (call 407 [vo (some (o, 4, z)), vi s0] h).bind (fun z => run d 408 149 [l0, l1, l2] (z.1.toList ++ []) z.2)) ∧
  (∀ (d : Nat) (l0 l1 l2 : Option AV) (s0 : Int32) (h : Hp), run d 408 149 [l0, l1, l2] [vi s0] h = if s0 = 0 then run d 408 156 [l0, l1, l2] [] h else run d 408 152 [l0, l1, l2] [] h) ∧
  (∀ (d : Nat) (l0 l1 l2 : Option AV) (h : Hp), run d 408 152 [l0, l1, l2] [] h = run d 408 153 [l0, l1, l2] [vi (1 : Int32)] h) ∧
  (∀ (d : Nat) (l0 l1 l2 : Option AV) (s0 : Int32) (h : Hp), run d 408 153 [l0, l1, l2] [vi s0] h = run d 408 157 [l0, l1, l2] [vi s0] h) ∧
  (∀ (d : Nat) (l0 l1 l2 : Option AV) (h : Hp), run d 408 156 [l0, l1, l2] [] h = run d 408 157 [l0, l1, l2] [vi (0 : Int32)] h) ∧
  (∀ (d : Nat) (l0 l1 l2 : Option AV) (s0 : Int32) (h : Hp), run d 408 157 [l0, l1, l2] [vi s0] h = if am_isd s0 = true then some (some (vi s0), h) else none) := ⟨(fun _ _ _ _ _ => run_next rfl rfl),
  (fun _ _ _ _ s0 _ => run_next rfl rfl),
  (fun _ _ _ _ s0 _ _ => run_if rfl rfl (run_next rfl) (run_next rfl)),
  (fun _ _ _ _ _ => run_next rfl rfl),
  (fun _ _ _ _ s0 _ => run_next rfl rfl),
  (fun _ _ _ _ s0 _ _ => run_if rfl rfl (run_next rfl) (run_next rfl)),
  (fun _ _ _ _ _ => run_next rfl rfl),
  (fun _ _ _ _ s0 _ => run_next rfl rfl),
  (fun _ _ _ _ _ _ _ _ => run_next rfl rfl),
  (fun _ _ _ _ s0 _ _ => run_next rfl rfl),
  (fun _ _ _ _ s0 _ _ _ => run_next rfl rfl),
  (fun _ _ _ _ s0 _ _ _ => run_next rfl rfl),
  (fun _ _ _ _ _ => run_next rfl rfl),
  (fun _ _ _ _ _ _ _ => run_next rfl rfl),
  (fun _ _ _ s0 _ _ => run_next rfl rfl),
  (fun _ _ _ _ _ _ _ _ => run_next rfl rfl),
  (fun _ _ _ _ s0 _ _ => run_if rfl rfl (run_next rfl) (run_next rfl)),
  (fun _ _ _ _ _ => run_next rfl rfl),
  (fun _ _ _ _ s0 _ => run_next rfl rfl),
  (fun _ _ _ _ _ => run_next rfl rfl),
  (fun _ _ _ _ s0 _ => run_ifz rfl rfl (by simp) (run_ret rfl) (run_fail rfl)),
  (fun _ _ _ _ _ => run_next rfl rfl),
  (fun _ _ _ _ s0 _ => run_next rfl rfl),
  (fun _ _ _ _ s0 _ _ => run_if rfl rfl (run_next rfl) (run_next rfl)),
  (fun _ _ _ _ _ => run_next rfl rfl),
  (fun _ _ _ _ _ _ _ => run_next rfl rfl),
  (fun _ _ _ _ s0 _ => run_if rfl rfl (run_next rfl) (run_next rfl)),
  (fun _ _ _ _ _ => run_next rfl rfl),
  (fun _ _ _ _ _ _ _ => run_next rfl rfl),
  (fun _ _ _ _ s0 _ => run_next rfl rfl),
  (fun _ _ _ _ s0 _ _ => run_if rfl rfl (run_next rfl) (run_next rfl)),
  (fun _ _ _ _ _ => run_next rfl rfl),
  (fun _ _ _ _ s0 _ => run_next rfl rfl),
  (fun _ _ _ _ _ => run_next rfl rfl),
  (fun _ _ _ _ s0 _ => run_next rfl rfl),
  (fun _ _ _ _ _ => run_next rfl rfl),
  (fun _ _ _ _ _ _ _ => run_next rfl rfl),
  (fun _ _ _ s0 _ _ => run_next rfl rfl),
  (fun _ _ _ _ _ _ _ _ => run_next rfl rfl),
  (fun _ _ _ _ s0 _ _ => run_if rfl rfl (run_next rfl) (run_next rfl)),
  (fun _ _ _ _ _ => run_next rfl rfl),
  (fun _ _ _ _ s0 _ => run_next rfl rfl),
  (fun _ _ _ _ _ => run_next rfl rfl),
  (fun _ _ _ s0 _ => run_next rfl rfl),
  (fun _ _ _ s0 _ _ => run_next rfl rfl),
  (fun _ _ _ s0 _ _ => run_next rfl rfl),
  (fun _ _ _ _ _ => run_next rfl rfl),
  (fun _ _ _ s0 _ _ => run_next rfl rfl),
  (fun _ _ _ _ _ _ _ _ => run_next rfl rfl),
  (fun _ _ _ _ s0 _ _ _ => run_next rfl rfl),
  (fun _ _ _ _ _ => run_next rfl rfl),
  (fun _ _ _ _ s0 _ => run_next rfl rfl),
  (fun _ _ _ _ s0 _ _ _ => run_next rfl rfl),
  (fun _ _ _ _ _ => run_next rfl rfl),
  (fun _ _ _ _ s0 _ => run_next rfl rfl),
  (fun _ _ _ _ _ _ _ _ => run_next rfl rfl),
  (fun _ _ _ _ s0 _ _ => run_next rfl rfl),
  (fun _ _ _ _ s0 _ _ _ => run_next rfl rfl),
  (fun _ _ _ _ s0 _ _ _ => run_next rfl rfl),
  (fun _ _ _ _ _ => run_next rfl rfl),
  (fun _ _ _ _ s0 _ => run_if rfl rfl (run_next rfl) (run_next rfl)),
  (fun _ _ _ _ _ => run_next rfl rfl),
  (fun _ _ _ _ _ _ _ => run_next rfl rfl),
  (fun _ _ _ _ s0 _ => run_next rfl rfl),
  (fun _ _ _ _ s0 _ _ => run_if rfl rfl (run_next rfl) (run_next rfl)),
  (fun _ _ _ _ _ => run_next rfl rfl),
  (fun _ _ _ _ s0 _ => run_next rfl rfl),
  (fun _ _ _ _ _ => run_next rfl rfl),
  (fun _ _ _ _ s0 _ => run_ifz rfl rfl (by simp) (run_ret rfl) (run_fail rfl)),
  (fun _ _ _ _ _ => run_next rfl rfl),
  (fun _ _ _ _ _ _ _ => run_next rfl rfl),
  (fun _ _ _ _ s0 _ => run_if rfl rfl (run_next rfl) (run_next rfl)),
  (fun _ _ _ _ _ => run_next rfl rfl),
  (fun _ _ _ _ _ _ _ => run_next rfl rfl),
  (fun _ _ _ s0 _ _ => run_next rfl rfl),
  (fun _ _ _ _ _ _ _ _ => run_next rfl rfl),
  (fun _ _ _ _ s0 _ _ => run_if rfl rfl (run_next rfl) (run_next rfl)),
  (fun _ _ _ _ _ => run_next rfl rfl),
  (fun _ _ _ s0 _ _ => run_next rfl rfl),
  (fun _ _ _ _ s0 _ _ hd _ => run_calx rfl rfl hd (Nat.le_of_ble_eq_true rfl) rfl),
  (fun _ _ _ _ s0 _ => run_if rfl rfl (run_next rfl) (run_next rfl)),
  (fun _ _ _ _ _ => run_next rfl rfl),
  (fun _ _ _ _ s0 _ => run_next rfl rfl),
  (fun _ _ _ _ _ => run_next rfl rfl),
  (fun _ _ _ _ s0 _ => run_ifz rfl rfl (by simp) (run_ret rfl) (run_fail rfl))⟩
theorem e_408 (v : Option Rf) (a0 : Int32) (h : Hp) : call 408 [vo v, vi a0] h = run 1 408 0 [some (vo v), some (vi a0), none] [] h := rfl
theorem x_409 : (∀ (d : Nat) (l0 : Option AV) (w : Int32) (h : Hp), run d 409 0 [l0, some (vi w)] [] h = run d 409 1 [l0, some (vi w)] [vi w] h) ∧
  (∀ (d : Nat) (l0 l1 : Option AV) (s0 : Int32) (h : Hp), run d 409 1 [l0, l1] [vi s0] h = run d 409 4 [l0, l1] [vi (am_so s0)] h) ∧
  (∀ (d : Nat) (l0 l1 : Option AV) (s0 : Int32) (h : Hp), run d 409 4 [l0, l1] [vi s0] h = if 0 ≤ s0 then run d 409 13 [l0, l1] [] h else run d 409 7 [l0, l1] [] h) ∧
  (∀ (d : Nat) (l1 : Option AV) (w : Option Rf) (h : Hp), run d 409 7 [some (vo w), l1] [] h = run d 409 8 [some (vo w), l1] [vo w] h) ∧
  (∀ (d : Nat) (l0 : Option AV) (s0 : Option Rf) (w : Int32) (h : Hp), run d 409 8 [l0, some (vi w)] [vo s0] h = run d 409 9 [l0, some (vi w)] [vi w, vo s0] h) ∧
  (∀ (d : Nat) (l0 l1 : Option AV) (s0 : Int32) (o z : Nat) (hd : am_rk 407 [vo (some (o, 4, z)), vi s0] < d) (h : Hp), run d 409 9 [l0, l1] [vi s0, vo (some (o, 4, z))] h = (call 407 [vo (some (o, 4, z)), vi s0] h).bind (fun z => run d 409 12 [l0, l1] (z.1.toList ++ []) z.2)) ∧
  (∀ (d : Nat) (l0 l1 : Option AV) (s0 : Int32) (h : Hp), run d 409 12 [l0, l1] [vi s0] h = if am_isd s0 = true then some (some (vi s0), h) else none) ∧
  (∀ (d : Nat) (l1 : Option AV) (w : Option Rf) (h : Hp), run d 409 13 [some (vo w), l1] [] h = run d 409 14 [some (vo w), l1] [vo w] h) ∧
  (∀ (d : Nat) (l0 l1 : Option AV) (s0 : Option Rf) (h : Hp), run d 409 14 [l0, l1] [vo s0] h = run d 409 16 [l0, l1] [vi (6 : Int32), vo s0] h) ∧
  (∀ (d : Nat) (l0 l1 : Option AV) (s0 : Int32) (o z : Nat) (h : Hp), run d 409 16 [l0, l1] [vi s0, vo (some (o, 4, z))] h = run d 409 19 [l0, l1] [] (hsI h o 2 s0)) ∧
  (∀ (d : Nat) (l1 : Option AV) (w : Option Rf) (h : Hp), run d 409 19 [some (vo w), l1] [] h = run d 409 20 [some (vo w), l1] [vo w] h) ∧
  (∀ (d : Nat) (l0 l1 : Option AV) (s0 : Option Rf) (h : Hp), run d 409 20 [l0, l1] [vo s0] h = run d 409 21 [l0, l1] [vo s0, vo s0] h) ∧
  (∀ (d : Nat) (l0 l1 : Option AV) (s1 : Option Rf) (o z : Nat) (h : Hp), run d 409 21 [l0, l1] [vo (some (o, 4, z)), vo s1] h = run d 409 24 [l0, l1] [vi (hI h o 6), vo s1] h) ∧
  (∀ (d : Nat) (l0 l1 : Option AV) (s0 : Int32) (s1 : Option Rf) (h : Hp), run d 409 24 [l0, l1] [vi s0, vo s1] h = run d 409 25 [l0, l1] [vi (1 : Int32), vi s0, vo s1] h) ∧
  (∀ (d : Nat) (l0 l1 : Option AV) (s0 : Int32) (s1 : Int32) (s2 : Option Rf) (h : Hp), run d 409 25 [l0, l1] [vi s0, vi s1, vo s2] h = run d 409 26 [l0, l1] [vi (s1 + s0), vo s2] h) ∧
  (∀ (d : Nat) (l0 l1 : Option AV) (s0 : Int32) (o z : Nat) (h : Hp), run d 409 26 [l0, l1] [vi s0, vo (some (o, 4, z))] h = run d 409 29 [l0, l1] [] (hsI h o 6 s0)) ∧
  (∀ (d : Nat) (l1 : Option AV) (w : Option Rf) (h : Hp), run d 409 29 [some (vo w), l1] [] h = run d 409 30 [some (vo w), l1] [vo w] h) ∧
  (∀ (d : Nat) (l0 l1 : Option AV) (o z : Nat) (h : Hp), run d 409 30 [l0, l1] [vo (some (o, 4, z))] h = run d 409 33 [l0, l1] [vi (hI h o 6)] h) ∧
  (∀ (d : Nat) (l0 l1 : Option AV) (s0 : Int32) (h : Hp), run d 409 33 [l0, l1] [vi s0] h = run d 409 35 [l0, l1] [vi (6 : Int32), vi s0] h) ∧
  (∀ (d : Nat) (l0 l1 : Option AV) (s0 : Int32) (s1 : Int32) (h : Hp), run d 409 35 [l0, l1] [vi s0, vi s1] h = if s0 < s1 then run d 409 42 [l0, l1] [] h else run d 409 38 [l0, l1] [] h) ∧
  (∀ (d : Nat) (l0 l1 : Option AV) (h : Hp), run d 409 38 [l0, l1] [] h = run d 409 39 [l0, l1] [vi (1 : Int32)] h) ∧
  (∀ (d : Nat) (l0 l1 : Option AV) (s0 : Int32) (h : Hp), run d 409 39 [l0, l1] [vi s0] h = run d 409 43 [l0, l1] [vi s0] h) ∧
  (∀ (d : Nat) (l0 l1 : Option AV) (h : Hp), run d 409 42 [l0, l1] [] h = run d 409 43 [l0, l1] [vi (0 : Int32)] h) ∧
  (∀ (d : Nat) (l0 l1 : Option AV) (s0 : Int32) (h : Hp), run d 409 43 [l0, l1] [vi s0] h = if am_isd s0 = true then some (some (vi s0), h) else none) := ⟨(fun _ _ _ _ => run_next rfl rfl),
  (fun _ _ _ s0 _ => run_next rfl rfl),
  (fun _ _ _ s0 _ => run_if rfl rfl (run_next rfl) (run_next rfl)),
  (fun _ _ _ _ => run_next rfl rfl),
  (fun _ _ s0 _ _ => run_next rfl rfl),
  (fun _ _ _ s0 _ _ hd _ => run_calx rfl rfl hd (Nat.le_of_ble_eq_true rfl) rfl),
  (fun _ _ _ s0 _ => run_ifz rfl rfl (by simp) (run_ret rfl) (run_fail rfl)),
  (fun _ _ _ _ => run_next rfl rfl),
  (fun _ _ _ s0 _ => run_next rfl rfl),
  (fun _ _ _ s0 _ _ _ => run_next rfl rfl),
  (fun _ _ _ _ => run_next rfl rfl),
  (fun _ _ _ s0 _ => run_next rfl rfl),
  (fun _ _ _ _ _ _ _ => run_next rfl rfl),
  (fun _ _ _ s0 _ _ => run_next rfl rfl),
  (fun _ _ _ s0 _ _ _ => run_next rfl rfl),
  (fun _ _ _ s0 _ _ _ => run_next rfl rfl),
  (fun _ _ _ _ => run_next rfl rfl),
  (fun _ _ _ _ _ _ => run_next rfl rfl),
  (fun _ _ _ s0 _ => run_next rfl rfl),
  (fun _ _ _ s0 _ _ => run_if rfl rfl (run_next rfl) (run_next rfl)),
  (fun _ _ _ _ => run_next rfl rfl),
  (fun _ _ _ s0 _ => run_next rfl rfl),
  (fun _ _ _ _ => run_next rfl rfl),
  (fun _ _ _ s0 _ => run_ifz rfl rfl (by simp) (run_ret rfl) (run_fail rfl))⟩
theorem e_409 (v : Option Rf) (a0 : Int32) (h : Hp) : call 409 [vo v, vi a0] h = run 1 409 0 [some (vo v), some (vi a0)] [] h := rfl
theorem x_410 : (∀ (d : Nat) (l0 l2 : Option AV) (w : Int32) (h : Hp), run d 410 0 [l0, some (vi w), l2] [] h = run d 410 1 [l0, some (vi w), l2] [vi w] h) ∧
  (∀ (d : Nat) (l0 l1 l2 : Option AV) (s0 : Int32) (hd : am_rk 411 [vi s0] < d) (h : Hp), run d 410 1 [l0, l1, l2] [vi s0] h = (call 411 [vi s0] h).bind (fun z => run d 410 4 [l0, l1, l2] (z.1.toList ++ []) z.2)) ∧
  (∀ (d : Nat) (l0 l1 l2 : Option AV) (s0 : Int32) (h : Hp), run d 410 4 [l0, l1, l2] [vi s0] h = if s0 = 0 then run d 410 7 [l0, l1, l2] [] h else run d 410 9 [l0, l1, l2] [] h) ∧
  (∀ (d : Nat) (l0 l1 l2 : Option AV) (h : Hp), run d 410 7 [l0, l1, l2] [] h = run d 410 8 [l0, l1, l2] [vi (0 : Int32)] h) ∧
  (∀ (d : Nat) (l0 l1 l2 : Option AV) (s0 : Int32) (h : Hp), run d 410 8 [l0, l1, l2] [vi s0] h = if am_isd s0 = true then some (some (vi s0), h) else none) ∧
  (∀ (d : Nat) (l1 l2 : Option AV) (w : Option Rf) (h : Hp), run d 410 9 [some (vo w), l1, l2] [] h = run d 410 10 [some (vo w), l1, l2] [vo w] h) ∧
  (∀ (d : Nat) (l0 l1 : Option AV) (s0 : Option Rf) (w : Int32) (h : Hp), run d 410 10 [l0, l1, some (vi w)] [vo s0] h = run d 410 11 [l0, l1, some (vi w)] [vi w, vo s0] h) ∧
  (∀ (d : Nat) (l0 l1 l2 : Option AV) (s0 : Int32) (o z : Nat) (h : Hp), run d 410 11 [l0, l1, l2] [vi s0, vo (some (o, 4, z))] h = run d 410 14 [l0, l1, l2] [] (hsI h o 2 s0)) ∧
  (∀ (d : Nat) (l0 l1 l2 : Option AV) (h : Hp), run d 410 14 [l0, l1, l2] [] h = run d 410 15 [l0, l1, l2] [vi (1 : Int32)] h) ∧
  (∀ (d : Nat) (l0 l1 l2 : Option AV) (s0 : Int32) (h : Hp), run d 410 15 [l0, l1, l2] [vi s0] h = if am_isd s0 = true then some (some (vi s0), h) else none) := ⟨(fun _ _ _ _ _ => run_next rfl rfl),
  (fun _ _ _ _ s0 hd _ => run_calx rfl rfl hd (Nat.le_of_ble_eq_true rfl) rfl),
  (fun _ _ _ _ s0 _ => run_if rfl rfl (run_next rfl) (run_next rfl)),
  (fun _ _ _ _ _ => run_next rfl rfl),
  (fun _ _ _ _ s0 _ => run_ifz rfl rfl (by simp) (run_ret rfl) (run_fail rfl)),
  (fun _ _ _ _ _ => run_next rfl rfl),
  (fun _ _ _ s0 _ _ => run_next rfl rfl),
  (fun _ _ _ _ s0 _ _ _ => run_next rfl rfl),
  (fun _ _ _ _ _ => run_next rfl rfl),
  (fun _ _ _ _ s0 _ => run_ifz rfl rfl (by simp) (run_ret rfl) (run_fail rfl))⟩
theorem e_410 (v : Option Rf) (a0 : Int32) (a1 : Int32) (h : Hp) : call 410 [vo v, vi a0, vi a1] h = run 1 410 0 [some (vo v), some (vi a0), some (vi a1)] [] h := rfl
theorem x_411 : (∀ (d : Nat) (w : Int32) (h : Hp), run d 411 0 [some (vi w)] [] h = run d 411 1 [some (vi w)] [vi w] h) ∧
  (∀ (d : Nat) (l0 : Option AV) (s0 : Int32) (h : Hp), run d 411 1 [l0] [vi s0] h = run d 411 3 [l0] [vi (48 : Int32), vi s0] h) ∧
  (∀ (d : Nat) (l0 : Option AV) (s0 : Int32) (s1 : Int32) (h : Hp), run d 411 3 [l0] [vi s0, vi s1] h = if s1 < s0 then run d 411 16 [l0] [] h else run d 411 6 [l0] [] h) ∧
  (∀ (d : Nat) (w : Int32) (h : Hp), run d 411 6 [some (vi w)] [] h = run d 411 7 [some (vi w)] [vi w] h) ∧
  (∀ (d : Nat) (l0 : Option AV) (s0 : Int32) (h : Hp), run d 411 7 [l0] [vi s0] h = run d 411 9 [l0] [vi (57 : Int32), vi s0] h) ∧
  (∀ (d : Nat) (l0 : Option AV) (s0 : Int32) (s1 : Int32) (h : Hp), run d 411 9 [l0] [vi s0, vi s1] h = if s0 < s1 then run d 411 16 [l0] [] h else run d 411 12 [l0] [] h) ∧
  (∀ (d : Nat) (l0 : Option AV) (h : Hp), run d 411 12 [l0] [] h = run d 411 13 [l0] [vi (1 : Int32)] h) ∧
  (∀ (d : Nat) (l0 : Option AV) (s0 : Int32) (h : Hp), run d 411 13 [l0] [vi s0] h = run d 411 17 [l0] [vi s0] h) ∧
  (∀ (d : Nat) (l0 : Option AV) (h : Hp), run d 411 16 [l0] [] h = run d 411 17 [l0] [vi (0 : Int32)] h) ∧
  (∀ (d : Nat) (l0 : Option AV) (s0 : Int32) (h : Hp), run d 411 17 [l0] [vi s0] h = if am_isd s0 = true then some (some (vi s0), h) else none) := ⟨(fun _ _ _ => run_next rfl rfl),
  (fun _ _ s0 _ => run_next rfl rfl),
  (fun _ _ s0 _ _ => run_if rfl rfl (run_next rfl) (run_next rfl)),
  (fun _ _ _ => run_next rfl rfl),
  (fun _ _ s0 _ => run_next rfl rfl),
  (fun _ _ s0 _ _ => run_if rfl rfl (run_next rfl) (run_next rfl)),
  (fun _ _ _ => run_next rfl rfl),
  (fun _ _ s0 _ => run_next rfl rfl),
  (fun _ _ _ => run_next rfl rfl),
  (fun _ _ s0 _ => run_ifz rfl rfl (by simp) (run_ret rfl) (run_fail rfl))⟩
theorem e_411 (a0 : Int32) (h : Hp) : call 411 [vi a0] h = run 0 411 0 [some (vi a0)] [] h := rfl
theorem x_413 : (∀ (d : Nat) (l0 : Option AV) (w : Int32) (h : Hp), run d 413 0 [l0, some (vi w)] [] h = run d 413 1 [l0, some (vi w)] [vi w] h) ∧
  (∀ (d : Nat) (l0 l1 : Option AV) (s0 : Int32) (h : Hp), run d 413 1 [l0, l1] [vi s0] h = if s0 < 0 then run d 413 21 [l0, l1] [] h else run d 413 4 [l0, l1] [] h) ∧
  (∀ (d : Nat) (l0 : Option AV) (w : Int32) (h : Hp), run d 413 4 [l0, some (vi w)] [] h = run d 413 5 [l0, some (vi w)] [vi w] h) ∧
  (∀ (d : Nat) (l1 : Option AV) (s0 : Int32) (w : Option Rf) (h : Hp), run d 413 5 [some (vo w), l1] [vi s0] h = run d 413 6 [some (vo w), l1] [vo w, vi s0] h) ∧
  (∀ (d : Nat) (l0 l1 : Option AV) (s1 : Int32) (o z : Nat) (h : Hp), run d 413 6 [l0, l1] [vo (some (o, 4, z)), vi s1] h = run d 413 9 [l0, l1] [vi (hI h o 0), vi s1] h) ∧
  (∀ (d : Nat) (l0 l1 : Option AV) (s0 : Int32) (s1 : Int32) (h : Hp), run d 413 9 [l0, l1] [vi s0, vi s1] h = if s0 ≤ s1 then run d 413 21 [l0, l1] [] h else run d 413 12 [l0, l1] [] h) ∧
  (∀ (d : Nat) (l1 : Option AV) (w : Option Rf) (h : Hp), run d 413 12 [some (vo w), l1] [] h = run d 413 13 [some (vo w), l1] [vo w] h) ∧
  (∀ (d : Nat) (l0 l1 : Option AV) (o z : Nat) (h : Hp), run d 413 13 [l0, l1] [vo (some (o, 4, z))] h = run d 413 16 [l0, l1] [vo (hR h o 1)] h) ∧
  (∀ (d : Nat) (l0 : Option AV) (s0 : Option Rf) (w : Int32) (h : Hp), run d 413 16 [l0, some (vi w)] [vo s0] h = run d 413 17 [l0, some (vi w)] [vi w, vo s0] h) ∧
  (∀ (d : Nat) (l0 l1 : Option AV) (s0 : Int32) (o z : Nat) (h : Hp), run d 413 17 [l0, l1] [vi s0, vo (some (o, 13, z))] h = if s0 < 0 ∨ z ≤ s0.toNatClampNeg then none else run d 413 18 [l0, l1] [vi (hI h o s0.toNatClampNeg)] h) ∧
  (∀ (d : Nat) (l0 l1 : Option AV) (s0 : Int32) (h : Hp), run d 413 18 [l0, l1] [vi s0] h = run d 413 22 [l0, l1] [vi s0] h) ∧
  (∀ (d : Nat) (l0 l1 : Option AV) (h : Hp), run d 413 21 [l0, l1] [] h = run d 413 22 [l0, l1] [vi (0 : Int32)] h) ∧
  (∀ (d : Nat) (l0 l1 : Option AV) (s0 : Int32) (h : Hp), run d 413 22 [l0, l1] [vi s0] h = some (some (vi s0), h)) := ⟨(fun _ _ _ _ => run_next rfl rfl),
  (fun _ _ _ s0 _ => run_if rfl rfl (run_next rfl) (run_next rfl)),
  (fun _ _ _ _ => run_next rfl rfl),
  (fun _ _ s0 _ _ => run_next rfl rfl),
  (fun _ _ _ _ _ _ _ => run_next rfl rfl),
  (fun _ _ _ s0 _ _ => run_if rfl rfl (run_next rfl) (run_next rfl)),
  (fun _ _ _ _ => run_next rfl rfl),
  (fun _ _ _ _ _ _ => run_next rfl rfl),
  (fun _ _ s0 _ _ => run_next rfl rfl),
  (fun _ _ _ s0 _ _ _ => run_if rfl rfl (run_fail rfl) (run_next rfl)),
  (fun _ _ _ s0 _ => run_next rfl rfl),
  (fun _ _ _ _ => run_next rfl rfl),
  (fun _ _ _ s0 _ => run_ret rfl rfl)⟩
theorem e_413 (v : Option Rf) (a0 : Int32) (h : Hp) : call 413 [vo v, vi a0] h = run 0 413 0 [some (vo v), some (vi a0)] [] h := rfl
theorem x_414 : (∀ (d : Nat) (l1 : Option AV) (w : Option Rf) (h : Hp), run d 414 0 [some (vo w), l1] [] h = run d 414 1 [some (vo w), l1] [vo w] h) ∧
  (∀ (d : Nat) (l0 : Option AV) (s0 : Option Rf) (w : Int32) (h : Hp), run d 414 1 [l0, some (vi w)] [vo s0] h = run d 414 2 [l0, some (vi w)] [vi w, vo s0] h) ∧
  (∀ (d : Nat) (l0 l1 : Option AV) (s0 : Int32) (o z : Nat) (hd : am_rk 413 [vo (some (o, 4, z)), vi s0] < d) (h : Hp), run d 414 2 [l0, l1] [vi s0, vo (some (o, 4, z))] h = (call 413 [vo (some (o, 4, z)), vi s0] h).bind (fun z => run d 414 5 [l0, l1] (z.1.toList ++ []) z.2)) ∧
  (∀ (d : Nat) (l0 l1 : Option AV) (s0 : Int32) (h : Hp), run d 414 5 [l0, l1] [vi s0] h = run d 414 7 [l0, l1] [vi (48 : Int32), vi s0] h) ∧
  (∀ (d : Nat) (l0 l1 : Option AV) (s0 : Int32) (s1 : Int32) (h : Hp), run d 414 7 [l0, l1] [vi s0, vi s1] h = run d 414 8 [l0, l1] [vi (s1 - s0)] h) ∧
  (∀ (d : Nat) (l0 l1 : Option AV) (s0 : Int32) (h : Hp), run d 414 8 [l0, l1] [vi s0] h = some (some (vi s0), h)) := ⟨(fun _ _ _ _ => run_next rfl rfl),
  (fun _ _ s0 _ _ => run_next rfl rfl),
  (fun _ _ _ s0 _ _ hd _ => run_calx rfl rfl hd (Nat.le_of_ble_eq_true rfl) rfl),
  (fun _ _ _ s0 _ => run_next rfl rfl),
  (fun _ _ _ s0 _ _ => run_next rfl rfl),
  (fun _ _ _ s0 _ => run_ret rfl rfl)⟩
theorem e_414 (v : Option Rf) (a0 : Int32) (h : Hp) : call 414 [vo v, vi a0] h = run 1 414 0 [some (vo v), some (vi a0)] [] h := rfl
theorem x_415 : (∀ (d : Nat) (l0 l1 l2 l3 l4 l5 : Option AV) (h : Hp), run d 415 0 [l0, l1, l2, l3, l4, l5] [] h = run d 415 1 [l0, l1, l2, l3, l4, l5] [vi (0 : Int32)] h) ∧
  (∀ (d : Nat) (l0 l2 l3 l4 l5 : Option AV) (s0 : Int32) (h : Hp), run d 415 1 [l0, none, l2, l3, l4, l5] [vi s0] h = run d 415 2 [l0, none, some (vi s0), l3, l4, l5] [] h) ∧
  (∀ (d : Nat) (l0 l2 l3 l4 l5 : Option AV) (s0 : Int32) (w1 : Int32) (h : Hp), run d 415 1 [l0, some (vi w1), l2, l3, l4, l5] [vi s0] h = run d 415 2 [l0, some (vi w1), some (vi s0), l3, l4, l5] [] h) ∧
  (∀ (d : Nat) (l0 l2 l3 l4 l5 : Option AV) (s0 : Int32) (w1 : Option Rf) (h : Hp), run d 415 1 [l0, some (vo w1), l2, l3, l4, l5] [vi s0] h = run d 415 2 [l0, some (vo w1), some (vi s0), l3, l4, l5] [] h) ∧
  (∀ (d : Nat) (l0 l1 l2 l3 l4 l5 : Option AV) (h : Hp), run d 415 2 [l0, l1, l2, l3, l4, l5] [] h = run d 415 3 [l0, l1, l2, l3, l4, l5] [vi (0 : Int32)] h) ∧
  (∀ (d : Nat) (l0 l1 l3 l4 l5 : Option AV) (s0 : Int32) (h : Hp), run d 415 3 [l0, l1, none, l3, l4, l5] [vi s0] h = run d 415 4 [l0, l1, none, some (vi s0), l4, l5] [] h) ∧
  (∀ (d : Nat) (l0 l1 l3 l4 l5 : Option AV) (s0 : Int32) (w1 : Int32) (h : Hp), run d 415 3 [l0, l1, some (vi w1), l3, l4, l5] [vi s0] h = run d 415 4 [l0, l1, some (vi w1), some (vi s0), l4, l5] [] h) ∧
  (∀ (d : Nat) (l0 l1 l3 l4 l5 : Option AV) (s0 : Int32) (w1 : Option Rf) (h : Hp), run d 415 3 [l0, l1, some (vo w1), l3, l4, l5] [vi s0] h = run d 415 4 [l0, l1, some (vo w1), some (vi s0), l4, l5] [] h) ∧
  (∀ (d : Nat) (l0 l1 l2 l3 l4 l5 : Option AV) (h : Hp), run d 415 4 [l0, l1, l2, l3, l4, l5] [] h = run d 415 5 [l0, l1, l2, l3, l4, l5] [vi (0 : Int32)] h) ∧
  (∀ (d : Nat) (l0 l1 l2 l4 l5 : Option AV) (s0 : Int32) (h : Hp), run d 415 5 [l0, l1, l2, none, l4, l5] [vi s0] h = run d 415 7 [l0, l1, l2, none, some (vi s0), l5] [] h) ∧
  (∀ (d : Nat) (l0 l1 l2 l4 l5 : Option AV) (s0 : Int32) (w1 : Int32) (h : Hp), run d 415 5 [l0, l1, l2, some (vi w1), l4, l5] [vi s0] h = run d 415 7 [l0, l1, l2, some (vi w1), some (vi s0), l5] [] h) ∧
  (∀ (d : Nat) (l0 l1 l2 l4 l5 : Option AV) (s0 : Int32) (w1 : Option Rf) (h : Hp), run d 415 5 [l0, l1, l2, some (vo w1), l4, l5] [vi s0] h = run d 415 7 [l0, l1, l2, some (vo w1), some (vi s0), l5] [] h) ∧
  (∀ (d : Nat) (l1 l2 l3 l4 l5 : Option AV) (s0 : Int32) (w : Option Rf) (h : Hp), run d 415 9 [some (vo w), l1, l2, l3, l4, l5] [vi s0] h = run d 415 10 [some (vo w), l1, l2, l3, l4, l5] [vo w, vi s0] h) ∧
  (∀ (d : Nat) (l0 l1 l2 l3 l4 l5 : Option AV) (s1 : Int32) (o z : Nat) (h : Hp), run d 415 10 [l0, l1, l2, l3, l4, l5] [vo (some (o, 4, z)), vi s1] h = run d 415 13 [l0, l1, l2, l3, l4, l5] [vi (hI h o 0), vi s1] h) ∧
  (∀ (d : Nat) (l0 l1 l2 l3 l4 l5 : Option AV) (s0 : Int32) (s1 : Int32) (h : Hp), run d 415 13 [l0, l1, l2, l3, l4, l5] [vi s0, vi s1] h = if s0 ≤ s1 then run d 415 121 [l0, l1, l2, l3, l4, l5] [] h else run d 415 16 [l0, l1, l2, l3, l4, l5] [] h) ∧
  (∀ (d : Nat) (l1 l2 l3 l4 l5 : Option AV) (w : Option Rf) (h : Hp), run d 415 16 [some (vo w), l1, l2, l3, l4, l5] [] h = run d 415 17 [some (vo w), l1, l2, l3, l4, l5] [vo w] h) ∧
  (∀ (d : Nat) (l0 l1 l2 l3 l4 l5 : Option AV) (o z : Nat) (h : Hp), run d 415 17 [l0, l1, l2, l3, l4, l5] [vo (some (o, 4, z))] h = run d 415 20 [l0, l1, l2, l3, l4, l5] [vo (hR h o 1)] h) ∧
  (∀ (d : Nat) (l0 l1 l2 l3 l5 : Option AV) (s0 : Option Rf) (w : Int32) (h : Hp), run d 415 20 [l0, l1, l2, l3, some (vi w), l5] [vo s0] h = run d 415 22 [l0, l1, l2, l3, some (vi w), l5] [vi w, vo s0] h) ∧
  (∀ (d : Nat) (l0 l1 l2 l3 l4 l5 : Option AV) (s0 : Int32) (o z : Nat) (h : Hp), run d 415 22 [l0, l1, l2, l3, l4, l5] [vi s0, vo (some (o, 13, z))] h = if s0 < 0 ∨ z ≤ s0.toNatClampNeg then none else run d 415 23 [l0, l1, l2, l3, l4, l5] [vi (hI h o s0.toNatClampNeg)] h) ∧
  (∀ (d : Nat) (l0 l1 l2 l3 l4 l5 : Option AV) (s0 : Int32) (h : Hp), run d 415 23 [l0, l1, l2, l3, l4, l5] [vi s0] h = run d 415 25 [l0, l1, l2, l3, l4, l5] [vi (59 : Int32), vi s0] h) ∧
  (∀ (d : Nat) (l0 l1 l2 l3 l4 l5 : Option AV) (s0 : Int32) (s1 : Int32) (h : Hp), run d 415 25 [l0, l1, l2, l3, l4, l5] [vi s0, vi s1] h = if s1 = s0 then run d 415 28 [l0, l1, l2, l3, l4, l5] [] h else run d 415 115 [l0, l1, l2, l3, l4, l5] [] h) ∧
  (∀ (d : Nat) (l0 l1 l2 l3 l4 l5 : Option AV) (h : Hp), run d 415 28 [l0, l1, l2, l3, l4, l5] [] h = run d 415 29 [l0, l1, l2, l3, l4, l5] [vi (1 : Int32)] h) ∧
  (∀ (d : Nat) (l0 l1 l2 l3 l5 : Option AV) (s0 : Int32) (h : Hp), run d 415 29 [l0, l1, l2, l3, none, l5] [vi s0] h = run d 415 31 [l0, l1, l2, l3, none, some (vi s0)] [] h) ∧
  (∀ (d : Nat) (l0 l1 l2 l3 l5 : Option AV) (s0 : Int32) (w1 : Int32) (h : Hp), run d 415 29 [l0, l1, l2, l3, some (vi w1), l5] [vi s0] h = run d 415 31 [l0, l1, l2, l3, some (vi w1), some (vi s0)] [] h) ∧
  (∀ (d : Nat) (l0 l1 l2 l3 l5 : Option AV) (s0 : Int32) (w1 : Option Rf) (h : Hp), run d 415 29 [l0, l1, l2, l3, some (vo w1), l5] [vi s0] h = run d 415 31 [l0, l1, l2, l3, some (vo w1), some (vi s0)] [] h) ∧
  (∀ (d : Nat) (l1 l2 l3 l4 l5 : Option AV) (w : Option Rf) (h : Hp), run d 415 31 [some (vo w), l1, l2, l3, l4, l5] [] h = run d 415 32 [some (vo w), l1, l2, l3, l4, l5] [vo w] h) ∧
  (∀ (d : Nat) (l0 l1 l2 l3 l4 l5 : Option AV) (o z : Nat) (h : Hp), run d 415 32 [l0, l1, l2, l3, l4, l5] [vo (some (o, 4, z))] h = run d 415 35 [l0, l1, l2, l3, l4, l5] [vo (hR h o 1)] h) ∧
  (∀ (d : Nat) (l0 l1 l2 l4 l5 : Option AV) (s0 : Option Rf) (w : Int32) (h : Hp), run d 415 35 [l0, l1, l2, some (vi w), l4, l5] [vo s0] h = run d 415 36 [l0, l1, l2, some (vi w), l4, l5] [vi w, vo s0] h) ∧
  (∀ (d : Nat) (l0 l1 l2 l3 l4 l5 : Option AV) (s0 : Int32) (o z : Nat) (h : Hp), run d 415 36 [l0, l1, l2, l3, l4, l5] [vi s0, vo (some (o, 13, z))] h = if s0 < 0 ∨ z ≤ s0.toNatClampNeg then none else run d 415 37 [l0, l1, l2, l3, l4, l5] [vi (hI h o s0.toNatClampNeg)] h) ∧
  (∀ (d : Nat) (l0 l1 l2 l3 l4 l5 : Option AV) (s0 : Int32) (h : Hp), run d 415 37 [l0, l1, l2, l3, l4, l5] [vi s0] h = if s0 = 109 then run d 415 64 [l0, l1, l2, l3, l4, l5] [] h else if s0 = 112 then run d 415 75 [l0, l1, l2, l3, l4, l5] [] h else run d 415 88 [l0, l1, l2, l3, l4, l5] [] h) ∧
  (∀ (d : Nat) (l1 l2 l3 l4 l5 : Option AV) (w : Option Rf) (h : Hp), run d 415 64 [some (vo w), l1, l2, l3, l4, l5] [] h = run d 415 65 [some (vo w), l1, l2, l3, l4, l5] [vo w] h) ∧
  (∀ (d : Nat) (l0 l2 l3 l4 l5 : Option AV) (s0 : Option Rf) (w : Option Rf) (h : Hp), run d 415 65 [l0, some (vo w), l2, l3, l4, l5] [vo s0] h = run d 415 66 [l0, some (vo w), l2, l3, l4, l5] [vo w, vo s0] h) ∧
  (∀ (d : Nat) (l0 l1 l2 l4 l5 : Option AV) (s0 : Option Rf) (s1 : Option Rf) (w : Int32) (h : Hp), run d 415 66 [l0, l1, l2, some (vi w), l4, l5] [vo s0, vo s1] h = run d 415 67 [l0, l1, l2, some (vi w), l4, l5] [vi w, vo s0, vo s1] h) ∧
  (∀ (d : Nat) (l0 l1 l2 l3 l5 : Option AV) (s0 : Int32) (s1 : Option Rf) (s2 : Option Rf) (w : Int32) (h : Hp), run d 415 67 [l0, l1, l2, l3, some (vi w), l5] [vi s0, vo s1, vo s2] h = run d 415 69 [l0, l1, l2, l3, some (vi w), l5] [vi w, vi s0, vo s1, vo s2] h) ∧
  (∀ (d : Nat) (l0 l1 l2 l3 l4 l5 : Option AV) (s0 : Int32) (s1 : Int32) (s2 : Option Rf) (o z : Nat) (hd : am_rk 416 [vo (some (o, 4, z)), vo s2, vi s1, vi s0] < d) (h : Hp), run d 415 69 [l0, l1, l2, l3, l4, l5] [vi s0, vi s1, vo s2, vo (some (o, 4, z))] h = (call 416 [vo (some (o, 4, z)), vo s2, vi s1, vi s0] h).bind (fun z => run d 415 72 [l0, l1, l2, l3, l4, l5] (z.1.toList ++ []) z.2)) ∧
  (∀ (d : Nat) (l0 l1 l2 l3 l4 l5 : Option AV) (h : Hp), run d 415 72 [l0, l1, l2, l3, l4, l5] [] h = run d 415 96 [l0, l1, l2, l3, l4, l5] [] h) ∧
  (∀ (d : Nat) (l1 l2 l3 l4 l5 : Option AV) (w : Option Rf) (h : Hp), run d 415 75 [some (vo w), l1, l2, l3, l4, l5] [] h = run d 415 76 [some (vo w), l1, l2, l3, l4, l5] [vo w] h) ∧
  (∀ (d : Nat) (l0 l2 l3 l4 l5 : Option AV) (s0 : Option Rf) (w : Option Rf) (h : Hp), run d 415 76 [l0, some (vo w), l2, l3, l4, l5] [vo s0] h = run d 415 77 [l0, some (vo w), l2, l3, l4, l5] [vo w, vo s0] h) ∧
  (∀ (d : Nat) (l0 l1 l2 l4 l5 : Option AV) (s0 : Option Rf) (s1 : Option Rf) (w : Int32) (h : Hp), run d 415 77 [l0, l1, l2, some (vi w), l4, l5] [vo s0, vo s1] h = run d 415 78 [l0, l1, l2, some (vi w), l4, l5] [vi w, vo s0, vo s1] h) ∧
  (∀ (d : Nat) (l0 l1 l2 l3 l5 : Option AV) (s0 : Int32) (s1 : Option Rf) (s2 : Option Rf) (w : Int32) (h : Hp), run d 415 78 [l0, l1, l2, l3, some (vi w), l5] [vi s0, vo s1, vo s2] h = run d 415 80 [l0, l1, l2, l3, some (vi w), l5] [vi w, vi s0, vo s1, vo s2] h) ∧
  (∀ (d : Nat) (l0 l1 l2 l3 l4 l5 : Option AV) (s0 : Int32) (s1 : Int32) (s2 : Option Rf) (o z : Nat) (hd : am_rk 417 [vo (some (o, 4, z)), vo s2, vi s1, vi s0] < d) (h : Hp), run d 415 80 [l0, l1, l2, l3, l4, l5] [vi s0, vi s1, vo s2, vo (some (o, 4, z))] h = (call 417 [vo (some (o, 4, z)), vo s2, vi s1, vi s0] h).bind (fun z => run d 415 83 [l0, l1, l2, l3, l4, l5] (z.1.toList ++ []) z.2)) ∧
  (∀ (d : Nat) (l0 l1 l2 l3 l5 : Option AV) (s0 : Int32) (h : Hp), run d 415 83 [l0, l1, l2, l3, none, l5] [vi s0] h = run d 415 85 [l0, l1, l2, l3, none, some (vi s0)] [] h) ∧
  (∀ (d : Nat) (l0 l1 l2 l3 l5 : Option AV) (s0 : Int32) (w1 : Int32) (h : Hp), run d 415 83 [l0, l1, l2, l3, some (vi w1), l5] [vi s0] h = run d 415 85 [l0, l1, l2, l3, some (vi w1), some (vi s0)] [] h) ∧
  (∀ (d : Nat) (l0 l1 l2 l3 l5 : Option AV) (s0 : Int32) (w1 : Option Rf) (h : Hp), run d 415 83 [l0, l1, l2, l3, some (vo w1), l5] [vi s0] h = run d 415 85 [l0, l1, l2, l3, some (vo w1), some (vi s0)] [] h) ∧
  (∀ (d : Nat) (l0 l1 l2 l3 l4 l5 : Option AV) (h : Hp), run d 415 85 [l0, l1, l2, l3, l4, l5] [] h = run d 415 96 [l0, l1, l2, l3, l4, l5] [] h) ∧
  (∀ (d : Nat) (l1 l2 l3 l4 l5 : Option AV) (w : Option Rf) (h : Hp), run d 415 88 [some (vo w), l1, l2, l3, l4, l5] [] h = run d 415 89 [some (vo w), l1, l2, l3, l4, l5] [vo w] h) ∧
  (∀ (d : Nat) (l0 l2 l3 l4 l5 : Option AV) (s0 : Option Rf) (w : Option Rf) (h : Hp), run d 415 89 [l0, some (vo w), l2, l3, l4, l5] [vo s0] h = run d 415 90 [l0, some (vo w), l2, l3, l4, l5] [vo w, vo s0] h) ∧
  (∀ (d : Nat) (l0 l1 l2 l4 l5 : Option AV) (s0 : Option Rf) (s1 : Option Rf) (w : Int32) (h : Hp), run d 415 90 [l0, l1, l2, some (vi w), l4, l5] [vo s0, vo s1] h = run d 415 91 [l0, l1, l2, some (vi w), l4, l5] [vi w, vo s0, vo s1] h) ∧
  (∀ (d : Nat) (l0 l1 l2 l3 l4 l5 : Option AV) (s0 : Int32) (s1 : Option Rf) (o z : Nat) (hd : am_rk 418 [vo (some (o, 4, z)), vo s1, vi s0] < d) (h : Hp), run d 415 91 [l0, l1, l2, l3, l4, l5] [vi s0, vo s1, vo (some (o, 4, z))] h = (call 418 [vo (some (o, 4, z)), vo s1, vi s0] h).bind (fun z => run d 415 94 [l0, l1, l2, l3, l4, l5] (z.1.toList ++ []) z.2)) ∧
  (∀ (d : Nat) (l0 l1 l2 l3 l5 : Option AV) (s0 : Int32) (h : Hp), run d 415 94 [l0, l1, l2, l3, none, l5] [vi s0] h = run d 415 96 [l0, l1, l2, l3, none, some (vi s0)] [] h) ∧
  (∀ (d : Nat) (l0 l1 l2 l3 l5 : Option AV) (s0 : Int32) (w1 : Int32) (h : Hp), run d 415 94 [l0, l1, l2, l3, some (vi w1), l5] [vi s0] h = run d 415 96 [l0, l1, l2, l3, some (vi w1), some (vi s0)] [] h) ∧
  (∀ (d : Nat) (l0 l1 l2 l3 l5 : Option AV) (s0 : Int32) (w1 : Option Rf) (h : Hp), run d 415 94 [l0, l1, l2, l3, some (vo w1), l5] [vi s0] h = run d 415 96 [l0, l1, l2, l3, some (vo w1), some (vi s0)] [] h) ∧
  (∀ (d : Nat) (l0 l1 l2 l3 l4 : Option AV) (w : Int32) (h : Hp), run d 415 96 [l0, l1, l2, l3, l4, some (vi w)] [] h = run d 415 98 [l0, l1, l2, l3, l4, some (vi w)] [vi w] h) ∧
  (∀ (d : Nat) (l0 l1 l2 l3 l4 l5 : Option AV) (s0 : Int32) (h : Hp), run d 415 98 [l0, l1, l2, l3, l4, l5] [vi s0] h = if s0 = 0 then run d 415 101 [l0, l1, l2, l3, l4, l5] [] h else run d 415 107 [l0, l1, l2, l3, l4, l5] [] h) ∧
  (∀ (d : Nat) (l0 l1 l2 l3 l4 l5 : Option AV) (h : Hp), run d 415 101 [l0, l1, l2, l3, l4, l5] [] h = run d 415 104 [l0, l1, l2, l3, l4, l5] [vi (-2000 : Int32)] h) ∧
  (∀ (d : Nat) (l0 l1 l2 l4 l5 : Option AV) (s0 : Int32) (w : Int32) (h : Hp), run d 415 104 [l0, l1, l2, some (vi w), l4, l5] [vi s0] h = run d 415 105 [l0, l1, l2, some (vi w), l4, l5] [vi w, vi s0] h) ∧
  (∀ (d : Nat) (l0 l1 l2 l3 l4 l5 : Option AV) (s0 : Int32) (s1 : Int32) (h : Hp), run d 415 105 [l0, l1, l2, l3, l4, l5] [vi s0, vi s1] h = run d 415 106 [l0, l1, l2, l3, l4, l5] [vi (s1 - s0)] h) ∧
  (∀ (d : Nat) (l0 l1 l2 l3 l4 l5 : Option AV) (s0 : Int32) (h : Hp), run d 415 106 [l0, l1, l2, l3, l4, l5] [vi s0] h = some (some (vi s0), h)) ∧
  (∀ (d : Nat) (l0 l3 l4 l5 : Option AV) (w : Int32) (h : Hp), run d 415 107 [l0, none, some (vi w), l3, l4, l5] [] h = run d 415 110 [l0, none, some (vi (w + (1 : Int32))), l3, l4, l5] [] h) ∧
  (∀ (d : Nat) (l0 l3 l4 l5 : Option AV) (w1 : Int32) (w : Int32) (h : Hp), run d 415 107 [l0, some (vi w1), some (vi w), l3, l4, l5] [] h = run d 415 110 [l0, some (vi w1), some (vi (w + (1 : Int32))), l3, l4, l5] [] h) ∧
  (∀ (d : Nat) (l0 l3 l4 l5 : Option AV) (w1 : Option Rf) (w : Int32) (h : Hp), run d 415 107 [l0, some (vo w1), some (vi w), l3, l4, l5] [] h = run d 415 110 [l0, some (vo w1), some (vi (w + (1 : Int32))), l3, l4, l5] [] h) ∧
  (∀ (d : Nat) (l0 l1 l2 l3 l5 : Option AV) (w : Int32) (h : Hp), run d 415 110 [l0, l1, l2, l3, some (vi w), l5] [] h = run d 415 112 [l0, l1, l2, l3, some (vi w), l5] [vi w] h) ∧
  (∀ (d : Nat) (l0 l1 l2 l3 l4 l5 : Option AV) (s0 : Int32) (h : Hp), run d 415 112 [l0, l1, l2, l3, l4, l5] [vi s0] h = run d 415 113 [l0, l1, l2, l3, l4, l5] [vi (1 : Int32), vi s0] h) ∧
  (∀ (d : Nat) (l0 l1 l2 l3 l4 l5 : Option AV) (s0 : Int32) (s1 : Int32) (h : Hp), run d 415 113 [l0, l1, l2, l3, l4, l5] [vi s0, vi s1] h = run d 415 114 [l0, l1, l2, l3, l4, l5] [vi (s1 + s0)] h) ∧
  (∀ (d : Nat) (l0 l1 l3 l4 l5 : Option AV) (s0 : Int32) (h : Hp), run d 415 114 [l0, l1, none, l3, l4, l5] [vi s0] h = run d 415 115 [l0, l1, none, some (vi s0), l4, l5] [] h) ∧
  (∀ (d : Nat) (l0 l1 l3 l4 l5 : Option AV) (s0 : Int32) (w1 : Int32) (h : Hp), run d 415 114 [l0, l1, some (vi w1), l3, l4, l5] [vi s0] h = run d 415 115 [l0, l1, some (vi w1), some (vi s0), l4, l5] [] h) ∧
  (∀ (d : Nat) (l0 l1 l3 l4 l5 : Option AV) (s0 : Int32) (w1 : Option Rf) (h : Hp), run d 415 114 [l0, l1, some (vo w1), l3, l4, l5] [vi s0] h = run d 415 115 [l0, l1, some (vo w1), some (vi s0), l4, l5] [] h) ∧
  (∀ (d : Nat) (l0 l1 l2 l5 : Option AV) (w : Int32) (h : Hp), run d 415 115 [l0, l1, l2, none, some (vi w), l5] [] h = run d 415 118 [l0, l1, l2, none, some (vi (w + (1 : Int32))), l5] [] h) ∧
  (∀ (d : Nat) (l0 l1 l2 l5 : Option AV) (w1 : Int32) (w : Int32) (h : Hp), run d 415 115 [l0, l1, l2, some (vi w1), some (vi w), l5] [] h = run d 415 118 [l0, l1, l2, some (vi w1), some (vi (w + (1 : Int32))), l5] [] h) ∧
  (∀ (d : Nat) (l0 l1 l2 l5 : Option AV) (w1 : Option Rf) (w : Int32) (h : Hp), run d 415 115 [l0, l1, l2, some (vo w1), some (vi w), l5] [] h = run d 415 118 [l0, l1, l2, some (vo w1), some (vi (w + (1 : Int32))), l5] [] h) ∧
  (∀ (d : Nat) (l0 l1 l2 l3 l4 l5 : Option AV) (h : Hp), run d 415 118 [l0, l1, l2, l3, l4, l5] [] h = run d 415 7 [l0, l1, l2, l3, l4, l5] [] h) ∧
  (∀ (d : Nat) (l0 l1 l3 l4 l5 : Option AV) (w : Int32) (h : Hp), run d 415 121 [l0, l1, some (vi w), l3, l4, l5] [] h = run d 415 122 [l0, l1, some (vi w), l3, l4, l5] [vi w] h) ∧
  (∀ (d : Nat) (l0 l1 l2 l3 l4 l5 : Option AV) (s0 : Int32) (h : Hp), run d 415 122 [l0, l1, l2, l3, l4, l5] [vi s0] h = some (some (vi s0), h)) := ⟨(fun _ _ _ _ _ _ _ _ => run_next rfl rfl),
  (fun _ _ _ _ _ _ s0 _ => run_next rfl rfl),
  (fun _ _ _ _ _ _ s0 _ _ => run_next rfl rfl),
  (fun _ _ _ _ _ _ s0 _ _ => run_next rfl rfl),
  (fun _ _ _ _ _ _ _ _ => run_next rfl rfl),
  (fun _ _ _ _ _ _ s0 _ => run_next rfl rfl),
  (fun _ _ _ _ _ _ s0 _ _ => run_next rfl rfl),
  (fun _ _ _ _ _ _ s0 _ _ => run_next rfl rfl),
  (fun _ _ _ _ _ _ _ _ => run_next rfl rfl),
  (fun _ _ _ _ _ _ s0 _ => run_next rfl rfl),
  (fun _ _ _ _ _ _ s0 _ _ => run_next rfl rfl),
  (fun _ _ _ _ _ _ s0 _ _ => run_next rfl rfl),
  (fun _ _ _ _ _ _ s0 _ _ => run_next rfl rfl),
  (fun _ _ _ _ _ _ _ _ _ _ _ => run_next rfl rfl),
  (fun _ _ _ _ _ _ _ s0 _ _ => run_if rfl rfl (run_next rfl) (run_next rfl)),
  (fun _ _ _ _ _ _ _ _ => run_next rfl rfl),
  (fun _ _ _ _ _ _ _ _ _ _ => run_next rfl rfl),
  (fun _ _ _ _ _ _ s0 _ _ => run_next rfl rfl),
  (fun _ _ _ _ _ _ _ s0 _ _ _ => run_if rfl rfl (run_fail rfl) (run_next rfl)),
  (fun _ _ _ _ _ _ _ s0 _ => run_next rfl rfl),
  (fun _ _ _ _ _ _ _ s0 _ _ => run_if rfl rfl (run_next rfl) (run_next rfl)),
  (fun _ _ _ _ _ _ _ _ => run_next rfl rfl),
  (fun _ _ _ _ _ _ s0 _ => run_next rfl rfl),
  (fun _ _ _ _ _ _ s0 _ _ => run_next rfl rfl),
  (fun _ _ _ _ _ _ s0 _ _ => run_next rfl rfl),
  (fun _ _ _ _ _ _ _ _ => run_next rfl rfl),
  (fun _ _ _ _ _ _ _ _ _ _ => run_next rfl rfl),
  (fun _ _ _ _ _ _ s0 _ _ => run_next rfl rfl),
  (fun _ _ _ _ _ _ _ s0 _ _ _ => run_if rfl rfl (run_fail rfl) (run_next rfl)),
  (fun _ _ _ _ _ _ _ s0 _ => (run_sw (fun e => by subst e; exact run_next rfl rfl) fun n0 => (run_sw (fun e => by subst e; exact run_next rfl rfl) fun n1 => run_lk (off := 51) rfl rfl ((lv_osw n0 (by decide)).trans ((lv_osw n1 (by decide)).trans rfl))))),
  (fun _ _ _ _ _ _ _ _ => run_next rfl rfl),
  (fun _ _ _ _ _ _ s0 _ _ => run_next rfl rfl),
  (fun _ _ _ _ _ _ s0 _ _ _ => run_next rfl rfl),
  (fun _ _ _ _ _ _ s0 _ _ _ _ => run_next rfl rfl),
  (fun _ _ _ _ _ _ _ s0 _ _ _ _ hd _ => run_calx rfl rfl hd (Nat.le_of_ble_eq_true rfl) rfl),
  (fun _ _ _ _ _ _ _ _ => run_next rfl rfl),
  (fun _ _ _ _ _ _ _ _ => run_next rfl rfl),
  (fun _ _ _ _ _ _ s0 _ _ => run_next rfl rfl),
  (fun _ _ _ _ _ _ s0 _ _ _ => run_next rfl rfl),
  (fun _ _ _ _ _ _ s0 _ _ _ _ => run_next rfl rfl),
  (fun _ _ _ _ _ _ _ s0 _ _ _ _ hd _ => run_calx rfl rfl hd (Nat.le_of_ble_eq_true rfl) rfl),
  (fun _ _ _ _ _ _ s0 _ => run_next rfl rfl),
  (fun _ _ _ _ _ _ s0 _ _ => run_next rfl rfl),
  (fun _ _ _ _ _ _ s0 _ _ => run_next rfl rfl),
  (fun _ _ _ _ _ _ _ _ => run_next rfl rfl),
  (fun _ _ _ _ _ _ _ _ => run_next rfl rfl),
  (fun _ _ _ _ _ _ s0 _ _ => run_next rfl rfl),
  (fun _ _ _ _ _ _ s0 _ _ _ => run_next rfl rfl),
  (fun _ _ _ _ _ _ _ s0 _ _ _ hd _ => run_calx rfl rfl hd (Nat.le_of_ble_eq_true rfl) rfl),
  (fun _ _ _ _ _ _ s0 _ => run_next rfl rfl),
  (fun _ _ _ _ _ _ s0 _ _ => run_next rfl rfl),
  (fun _ _ _ _ _ _ s0 _ _ => run_next rfl rfl),
  (fun _ _ _ _ _ _ _ _ => run_next rfl rfl),
  (fun _ _ _ _ _ _ _ s0 _ => run_if rfl rfl (run_next rfl) (run_next rfl)),
  (fun _ _ _ _ _ _ _ _ => run_next rfl rfl),
  (fun _ _ _ _ _ _ s0 _ _ => run_next rfl rfl),
  (fun _ _ _ _ _ _ _ s0 _ _ => run_next rfl rfl),
  (fun _ _ _ _ _ _ _ s0 _ => run_ret rfl rfl),
  (fun _ _ _ _ _ _ _ => run_next rfl rfl),
  (fun _ _ _ _ _ _ _ _ => run_next rfl rfl),
  (fun _ _ _ _ _ _ _ _ => run_next rfl rfl),
  (fun _ _ _ _ _ _ _ _ => run_next rfl rfl),
  (fun _ _ _ _ _ _ _ s0 _ => run_next rfl rfl),
  (fun _ _ _ _ _ _ _ s0 _ _ => run_next rfl rfl),
  (fun _ _ _ _ _ _ s0 _ => run_next rfl rfl),
  (fun _ _ _ _ _ _ s0 _ _ => run_next rfl rfl),
  (fun _ _ _ _ _ _ s0 _ _ => run_next rfl rfl),
  (fun _ _ _ _ _ _ _ => run_next rfl rfl),
  (fun _ _ _ _ _ _ _ _ => run_next rfl rfl),
  (fun _ _ _ _ _ _ _ _ => run_next rfl rfl),
  (fun _ _ _ _ _ _ _ _ => run_next rfl rfl),
  (fun _ _ _ _ _ _ _ _ => run_next rfl rfl),
  (fun _ _ _ _ _ _ _ s0 _ => run_ret rfl rfl)⟩
theorem x_415_7 : (∀ (d : Nat) (l0 l1 l2 l3 l5 : Option AV) (w : Int32) (h : Hp), run d 415 7 [l0, l1, l2, l3, some (vi w), l5] [] h = run d 415 9 [l0, l1, l2, l3, some (vi w), l5] [vi w] h) := (fun _ _ _ _ _ _ _ _ => run_next rfl rfl)
theorem e_415 (v : Option Rf) (a0 : Option Rf) (h : Hp) : call 415 [vo v, vo a0] h = run 5 415 0 [some (vo v), some (vo a0), none, none, none, none] [] h := rfl
theorem x_416 : (∀ (d : Nat) (l0 l1 l2 l3 l4 l5 l6 l7 l8 : Option AV) (h : Hp), run d 416 0 [l0, l1, l2, l3, l4, l5, l6, l7, l8] [] h = run d 416 1 [l0, l1, l2, l3, l4, l5, l6, l7, l8] [vi (1 : Int32)] h) ∧
  (∀ (d : Nat) (l0 l1 l2 l4 l5 l6 l7 l8 : Option AV) (s0 : Int32) (h : Hp), run d 416 1 [l0, l1, l2, none, l4, l5, l6, l7, l8] [vi s0] h = run d 416 3 [l0, l1, l2, none, some (vi s0), l5, l6, l7, l8] [] h) ∧
  (∀ (d : Nat) (l0 l1 l2 l4 l5 l6 l7 l8 : Option AV) (s0 : Int32) (w1 : Int32) (h : Hp), run d 416 1 [l0, l1, l2, some (vi w1), l4, l5, l6, l7, l8] [vi s0] h = run d 416 3 [l0, l1, l2, some (vi w1), some (vi s0), l5, l6, l7, l8] [] h) ∧
  (∀ (d : Nat) (l0 l1 l2 l4 l5 l6 l7 l8 : Option AV) (s0 : Int32) (w1 : Option Rf) (h : Hp), run d 416 1 [l0, l1, l2, some (vo w1), l4, l5, l6, l7, l8] [vi s0] h = run d 416 3 [l0, l1, l2, some (vo w1), some (vi s0), l5, l6, l7, l8] [] h) ∧
  (∀ (d : Nat) (l0 l1 l2 l3 l4 l5 l6 l7 l8 : Option AV) (h : Hp), run d 416 3 [l0, l1, l2, l3, l4, l5, l6, l7, l8] [] h = run d 416 4 [l0, l1, l2, l3, l4, l5, l6, l7, l8] [vi (0 : Int32)] h) ∧
  (∀ (d : Nat) (l0 l1 l2 l3 l5 l6 l7 l8 : Option AV) (s0 : Int32) (h : Hp), run d 416 4 [l0, l1, l2, l3, none, l5, l6, l7, l8] [vi s0] h = run d 416 6 [l0, l1, l2, l3, none, some (vi s0), l6, l7, l8] [] h) ∧
  (∀ (d : Nat) (l0 l1 l2 l3 l5 l6 l7 l8 : Option AV) (s0 : Int32) (w1 : Int32) (h : Hp), run d 416 4 [l0, l1, l2, l3, some (vi w1), l5, l6, l7, l8] [vi s0] h = run d 416 6 [l0, l1, l2, l3, some (vi w1), some (vi s0), l6, l7, l8] [] h) ∧
  (∀ (d : Nat) (l0 l1 l2 l3 l5 l6 l7 l8 : Option AV) (s0 : Int32) (w1 : Option Rf) (h : Hp), run d 416 4 [l0, l1, l2, l3, some (vo w1), l5, l6, l7, l8] [vi s0] h = run d 416 6 [l0, l1, l2, l3, some (vo w1), some (vi s0), l6, l7, l8] [] h) ∧
  (∀ (d : Nat) (l0 l1 l2 l3 l4 l5 l6 l7 l8 : Option AV) (h : Hp), run d 416 6 [l0, l1, l2, l3, l4, l5, l6, l7, l8] [] h = run d 416 7 [l0, l1, l2, l3, l4, l5, l6, l7, l8] [vi (0 : Int32)] h) ∧
  (∀ (d : Nat) (l0 l1 l2 l3 l4 l6 l7 l8 : Option AV) (s0 : Int32) (h : Hp), run d 416 7 [l0, l1, l2, l3, l4, none, l6, l7, l8] [vi s0] h = run d 416 9 [l0, l1, l2, l3, l4, none, some (vi s0), l7, l8] [] h) ∧
  (∀ (d : Nat) (l0 l1 l2 l3 l4 l6 l7 l8 : Option AV) (s0 : Int32) (w1 : Int32) (h : Hp), run d 416 7 [l0, l1, l2, l3, l4, some (vi w1), l6, l7, l8] [vi s0] h = run d 416 9 [l0, l1, l2, l3, l4, some (vi w1), some (vi s0), l7, l8] [] h) ∧
  (∀ (d : Nat) (l0 l1 l2 l3 l4 l6 l7 l8 : Option AV) (s0 : Int32) (w1 : Option Rf) (h : Hp), run d 416 7 [l0, l1, l2, l3, l4, some (vo w1), l6, l7, l8] [vi s0] h = run d 416 9 [l0, l1, l2, l3, l4, some (vo w1), some (vi s0), l7, l8] [] h) ∧
  (∀ (d : Nat) (l0 l1 l2 l3 l4 l5 l6 l7 l8 : Option AV) (h : Hp), run d 416 9 [l0, l1, l2, l3, l4, l5, l6, l7, l8] [] h = run d 416 10 [l0, l1, l2, l3, l4, l5, l6, l7, l8] [vi (0 : Int32)] h) ∧
  (∀ (d : Nat) (l0 l1 l2 l3 l4 l5 l7 l8 : Option AV) (s0 : Int32) (h : Hp), run d 416 10 [l0, l1, l2, l3, l4, l5, none, l7, l8] [vi s0] h = run d 416 12 [l0, l1, l2, l3, l4, l5, none, some (vi s0), l8] [] h) ∧
  (∀ (d : Nat) (l0 l1 l2 l3 l4 l5 l7 l8 : Option AV) (s0 : Int32) (w1 : Int32) (h : Hp), run d 416 10 [l0, l1, l2, l3, l4, l5, some (vi w1), l7, l8] [vi s0] h = run d 416 12 [l0, l1, l2, l3, l4, l5, some (vi w1), some (vi s0), l8] [] h) ∧
  (∀ (d : Nat) (l0 l1 l2 l3 l4 l5 l7 l8 : Option AV) (s0 : Int32) (w1 : Option Rf) (h : Hp), run d 416 10 [l0, l1, l2, l3, l4, l5, some (vo w1), l7, l8] [vi s0] h = run d 416 12 [l0, l1, l2, l3, l4, l5, some (vo w1), some (vi s0), l8] [] h) ∧
  (∀ (d : Nat) (l0 l1 l3 l4 l5 l6 l7 l8 : Option AV) (w : Int32) (h : Hp), run d 416 12 [l0, l1, some (vi w), l3, l4, l5, l6, l7, l8] [] h = run d 416 13 [l0, l1, some (vi w), l3, l4, l5, l6, l7, l8] [vi w] h) ∧
  (∀ (d : Nat) (l0 l1 l2 l3 l4 l5 l6 l7 l8 : Option AV) (s0 : Int32) (h : Hp), run d 416 13 [l0, l1, l2, l3, l4, l5, l6, l7, l8] [vi s0] h = run d 416 14 [l0, l1, l2, l3, l4, l5, l6, l7, l8] [vi (1 : Int32), vi s0] h) ∧
  (∀ (d : Nat) (l0 l1 l2 l3 l4 l5 l6 l7 l8 : Option AV) (s0 : Int32) (s1 : Int32) (h : Hp), run d 416 14 [l0, l1, l2, l3, l4, l5, l6, l7, l8] [vi s0, vi s1] h = run d 416 15 [l0, l1, l2, l3, l4, l5, l6, l7, l8] [vi (s1 + s0)] h) ∧
  (∀ (d : Nat) (l0 l1 l2 l3 l4 l5 l6 l8 : Option AV) (s0 : Int32) (h : Hp), run d 416 15 [l0, l1, l2, l3, l4, l5, l6, none, l8] [vi s0] h = run d 416 17 [l0, l1, l2, l3, l4, l5, l6, none, some (vi s0)] [] h) ∧
  (∀ (d : Nat) (l0 l1 l2 l3 l4 l5 l6 l8 : Option AV) (s0 : Int32) (w1 : Int32) (h : Hp), run d 416 15 [l0, l1, l2, l3, l4, l5, l6, some (vi w1), l8] [vi s0] h = run d 416 17 [l0, l1, l2, l3, l4, l5, l6, some (vi w1), some (vi s0)] [] h) ∧
  (∀ (d : Nat) (l0 l1 l2 l3 l4 l5 l6 l8 : Option AV) (s0 : Int32) (w1 : Option Rf) (h : Hp), run d 416 15 [l0, l1, l2, l3, l4, l5, l6, some (vo w1), l8] [vi s0] h = run d 416 17 [l0, l1, l2, l3, l4, l5, l6, some (vo w1), some (vi s0)] [] h) ∧
  (∀ (d : Nat) (l0 l1 l2 l4 l5 l6 l7 l8 : Option AV) (s0 : Int32) (w : Int32) (h : Hp), run d 416 19 [l0, l1, l2, some (vi w), l4, l5, l6, l7, l8] [vi s0] h = run d 416 20 [l0, l1, l2, some (vi w), l4, l5, l6, l7, l8] [vi w, vi s0] h) ∧
  (∀ (d : Nat) (l0 l1 l2 l3 l4 l5 l6 l7 l8 : Option AV) (s0 : Int32) (s1 : Int32) (h : Hp), run d 416 20 [l0, l1, l2, l3, l4, l5, l6, l7, l8] [vi s0, vi s1] h = if s0 ≤ s1 then run d 416 89 [l0, l1, l2, l3, l4, l5, l6, l7, l8] [] h else run d 416 23 [l0, l1, l2, l3, l4, l5, l6, l7, l8] [] h) ∧
  (∀ (d : Nat) (l1 l2 l3 l4 l5 l6 l7 l8 : Option AV) (w : Option Rf) (h : Hp), run d 416 23 [some (vo w), l1, l2, l3, l4, l5, l6, l7, l8] [] h = run d 416 24 [some (vo w), l1, l2, l3, l4, l5, l6, l7, l8] [vo w] h) ∧
  (∀ (d : Nat) (l0 l1 l2 l3 l4 l5 l6 l7 : Option AV) (s0 : Option Rf) (w : Int32) (h : Hp), run d 416 24 [l0, l1, l2, l3, l4, l5, l6, l7, some (vi w)] [vo s0] h = run d 416 26 [l0, l1, l2, l3, l4, l5, l6, l7, some (vi w)] [vi w, vo s0] h) ∧
  (∀ (d : Nat) (l0 l1 l2 l3 l4 l5 l6 l7 l8 : Option AV) (s0 : Int32) (o z : Nat) (hd : am_rk 413 [vo (some (o, 4, z)), vi s0] < d) (h : Hp), run d 416 26 [l0, l1, l2, l3, l4, l5, l6, l7, l8] [vi s0, vo (some (o, 4, z))] h = (call 413 [vo (some (o, 4, z)), vi s0] h).bind (fun z => run d 416 29 [l0, l1, l2, l3, l4, l5, l6, l7, l8] (z.1.toList ++ []) z.2)) ∧
  (∀ (d : Nat) (l0 l1 l2 l3 l4 l5 l6 l7 l8 : Option AV) (s0 : Int32) (h : Hp), run d 416 29 [l0, l1, l2, l3, l4, l5, l6, l7, l8] [vi s0] h = run d 416 31 [l0, l1, l2, l3, l4, l5, l6, l7, l8] [vi (47 : Int32), vi s0] h) ∧
  (∀ (d : Nat) (l0 l1 l2 l3 l4 l5 l6 l7 l8 : Option AV) (s0 : Int32) (s1 : Int32) (h : Hp), run d 416 31 [l0, l1, l2, l3, l4, l5, l6, l7, l8] [vi s0, vi s1] h = if s1 = s0 then run d 416 34 [l0, l1, l2, l3, l4, l5, l6, l7, l8] [] h else run d 416 40 [l0, l1, l2, l3, l4, l5, l6, l7, l8] [] h) ∧
  (∀ (d : Nat) (l0 l1 l2 l5 l6 l7 l8 : Option AV) (w : Int32) (h : Hp), run d 416 34 [l0, l1, l2, none, some (vi w), l5, l6, l7, l8] [] h = run d 416 37 [l0, l1, l2, none, some (vi (w + (1 : Int32))), l5, l6, l7, l8] [] h) ∧
  (∀ (d : Nat) (l0 l1 l2 l5 l6 l7 l8 : Option AV) (w1 : Int32) (w : Int32) (h : Hp), run d 416 34 [l0, l1, l2, some (vi w1), some (vi w), l5, l6, l7, l8] [] h = run d 416 37 [l0, l1, l2, some (vi w1), some (vi (w + (1 : Int32))), l5, l6, l7, l8] [] h) ∧
  (∀ (d : Nat) (l0 l1 l2 l5 l6 l7 l8 : Option AV) (w1 : Option Rf) (w : Int32) (h : Hp), run d 416 34 [l0, l1, l2, some (vo w1), some (vi w), l5, l6, l7, l8] [] h = run d 416 37 [l0, l1, l2, some (vo w1), some (vi (w + (1 : Int32))), l5, l6, l7, l8] [] h) ∧
  (∀ (d : Nat) (l0 l1 l2 l3 l4 l5 l6 l7 l8 : Option AV) (h : Hp), run d 416 37 [l0, l1, l2, l3, l4, l5, l6, l7, l8] [] h = run d 416 83 [l0, l1, l2, l3, l4, l5, l6, l7, l8] [] h) ∧
  (∀ (d : Nat) (l0 l1 l2 l3 l4 l5 l6 l8 : Option AV) (w : Int32) (h : Hp), run d 416 40 [l0, l1, l2, l3, l4, l5, l6, some (vi w), l8] [] h = run d 416 42 [l0, l1, l2, l3, l4, l5, l6, some (vi w), l8] [vi w] h) ∧
  (∀ (d : Nat) (l1 l2 l3 l4 l5 l6 l7 l8 : Option AV) (s0 : Int32) (w : Option Rf) (h : Hp), run d 416 42 [some (vo w), l1, l2, l3, l4, l5, l6, l7, l8] [vi s0] h = run d 416 43 [some (vo w), l1, l2, l3, l4, l5, l6, l7, l8] [vo w, vi s0] h) ∧
  (∀ (d : Nat) (l0 l1 l2 l3 l4 l5 l6 l7 : Option AV) (s0 : Option Rf) (s1 : Int32) (w : Int32) (h : Hp), run d 416 43 [l0, l1, l2, l3, l4, l5, l6, l7, some (vi w)] [vo s0, vi s1] h = run d 416 45 [l0, l1, l2, l3, l4, l5, l6, l7, some (vi w)] [vi w, vo s0, vi s1] h) ∧
  (∀ (d : Nat) (l0 l1 l2 l3 l4 l5 l6 l7 l8 : Option AV) (s0 : Int32) (s2 : Int32) (o z : Nat) (hd : am_rk 413 [vo (some (o, 4, z)), vi s0] < d) (h : Hp), run d 416 45 [l0, l1, l2, l3, l4, l5, l6, l7, l8] [vi s0, vo (some (o, 4, z)), vi s2] h = (call 413 [vo (some (o, 4, z)), vi s0] h).bind (fun z => run d 416 48 [l0, l1, l2, l3, l4, l5, l6, l7, l8] (z.1.toList ++ [vi s2]) z.2)) ∧
  (∀ (d : Nat) (l0 l1 l2 l3 l4 l5 l6 l7 l8 : Option AV) (s0 : Int32) (s1 : Int32) (h : Hp), run d 416 48 [l0, l1, l2, l3, l4, l5, l6, l7, l8] [vi s0, vi s1] h = run d 416 50 [l0, l1, l2, l3, l4, l5, l6, l7, l8] [vi (35 : Int32), vi s0, vi s1] h) ∧
  (∀ (d : Nat) (l0 l1 l2 l3 l4 l5 l6 l7 l8 : Option AV) (s0 : Int32) (s1 : Int32) (s2 : Int32) (h : Hp), run d 416 50 [l0, l1, l2, l3, l4, l5, l6, l7, l8] [vi s0, vi s1, vi s2] h = if s1 = s0 then run d 416 53 [l0, l1, l2, l3, l4, l5, l6, l7, l8] [vi s2] h else run d 416 60 [l0, l1, l2, l3, l4, l5, l6, l7, l8] [vi s2] h) ∧
  (∀ (d : Nat) (l0 l1 l2 l3 l4 l5 l6 l7 l8 : Option AV) (s0 : Int32) (h : Hp), run d 416 53 [l0, l1, l2, l3, l4, l5, l6, l7, l8] [vi s0] h = run d 416 54 [l0, l1, l2, l3, l4, l5, l6, l7, l8] [vi (1 : Int32), vi s0] h) ∧
  (∀ (d : Nat) (l0 l1 l2 l3 l4 l5 l7 l8 : Option AV) (s0 : Int32) (s1 : Int32) (w : Int32) (h : Hp), run d 416 54 [l0, l1, l2, l3, l4, l5, some (vi w), l7, l8] [vi s0, vi s1] h = run d 416 56 [l0, l1, l2, l3, l4, l5, some (vi w), l7, l8] [vi w, vi s0, vi s1] h) ∧
  (∀ (d : Nat) (l0 l1 l2 l3 l4 l5 l6 l7 l8 : Option AV) (s0 : Int32) (s1 : Int32) (s2 : Int32) (h : Hp), run d 416 56 [l0, l1, l2, l3, l4, l5, l6, l7, l8] [vi s0, vi s1, vi s2] h = run d 416 57 [l0, l1, l2, l3, l4, l5, l6, l7, l8] [vi (s1 <<< (s0 &&& 31)), vi s2] h) ∧
  (∀ (d : Nat) (l0 l1 l2 l3 l4 l5 l6 l7 l8 : Option AV) (s0 : Int32) (s1 : Int32) (h : Hp), run d 416 57 [l0, l1, l2, l3, l4, l5, l6, l7, l8] [vi s0, vi s1] h = run d 416 61 [l0, l1, l2, l3, l4, l5, l6, l7, l8] [vi s0, vi s1] h) ∧
  (∀ (d : Nat) (l0 l1 l2 l3 l4 l5 l6 l7 l8 : Option AV) (s0 : Int32) (h : Hp), run d 416 60 [l0, l1, l2, l3, l4, l5, l6, l7, l8] [vi s0] h = run d 416 61 [l0, l1, l2, l3, l4, l5, l6, l7, l8] [vi (0 : Int32), vi s0] h) ∧
  (∀ (d : Nat) (l0 l1 l2 l3 l4 l5 l6 l7 l8 : Option AV) (s0 : Int32) (s1 : Int32) (h : Hp), run d 416 61 [l0, l1, l2, l3, l4, l5, l6, l7, l8] [vi s0, vi s1] h = run d 416 62 [l0, l1, l2, l3, l4, l5, l6, l7, l8] [vi (s1 ||| s0)] h) ∧
  (∀ (d : Nat) (l0 l1 l2 l3 l4 l5 l7 l8 : Option AV) (s0 : Int32) (h : Hp), run d 416 62 [l0, l1, l2, l3, l4, l5, none, l7, l8] [vi s0] h = run d 416 64 [l0, l1, l2, l3, l4, l5, none, some (vi s0), l8] [] h) ∧
  (∀ (d : Nat) (l0 l1 l2 l3 l4 l5 l7 l8 : Option AV) (s0 : Int32) (w1 : Int32) (h : Hp), run d 416 62 [l0, l1, l2, l3, l4, l5, some (vi w1), l7, l8] [vi s0] h = run d 416 64 [l0, l1, l2, l3, l4, l5, some (vi w1), some (vi s0), l8] [] h) ∧
  (∀ (d : Nat) (l0 l1 l2 l3 l4 l5 l7 l8 : Option AV) (s0 : Int32) (w1 : Option Rf) (h : Hp), run d 416 62 [l0, l1, l2, l3, l4, l5, some (vo w1), l7, l8] [vi s0] h = run d 416 64 [l0, l1, l2, l3, l4, l5, some (vo w1), some (vi s0), l8] [] h) ∧
  (∀ (d : Nat) (l0 l1 l2 l3 l4 l7 l8 : Option AV) (w : Int32) (h : Hp), run d 416 64 [l0, l1, l2, l3, l4, none, some (vi w), l7, l8] [] h = run d 416 67 [l0, l1, l2, l3, l4, none, some (vi (w + (1 : Int32))), l7, l8] [] h) ∧
  (∀ (d : Nat) (l0 l1 l2 l3 l4 l7 l8 : Option AV) (w1 : Int32) (w : Int32) (h : Hp), run d 416 64 [l0, l1, l2, l3, l4, some (vi w1), some (vi w), l7, l8] [] h = run d 416 67 [l0, l1, l2, l3, l4, some (vi w1), some (vi (w + (1 : Int32))), l7, l8] [] h) ∧
  (∀ (d : Nat) (l0 l1 l2 l3 l4 l7 l8 : Option AV) (w1 : Option Rf) (w : Int32) (h : Hp), run d 416 64 [l0, l1, l2, l3, l4, some (vo w1), some (vi w), l7, l8] [] h = run d 416 67 [l0, l1, l2, l3, l4, some (vo w1), some (vi (w + (1 : Int32))), l7, l8] [] h) ∧
  (∀ (d : Nat) (l0 l1 l2 l3 l4 l6 l7 l8 : Option AV) (w : Int32) (h : Hp), run d 416 67 [l0, l1, l2, l3, l4, some (vi w), l6, l7, l8] [] h = run d 416 69 [l0, l1, l2, l3, l4, some (vi w), l6, l7, l8] [vi w] h) ∧
  (∀ (d : Nat) (l0 l1 l2 l3 l5 l6 l7 l8 : Option AV) (s0 : Int32) (w : Int32) (h : Hp), run d 416 69 [l0, l1, l2, l3, some (vi w), l5, l6, l7, l8] [vi s0] h = run d 416 71 [l0, l1, l2, l3, some (vi w), l5, l6, l7, l8] [vi w, vi s0] h) ∧
  (∀ (d : Nat) (l0 l1 l2 l3 l4 l5 l6 l7 l8 : Option AV) (s0 : Int32) (s1 : Int32) (h : Hp), run d 416 71 [l0, l1, l2, l3, l4, l5, l6, l7, l8] [vi s0, vi s1] h = run d 416 72 [l0, l1, l2, l3, l4, l5, l6, l7, l8] [vi (1 : Int32), vi s0, vi s1] h) ∧
  (∀ (d : Nat) (l0 l1 l2 l3 l4 l5 l6 l7 l8 : Option AV) (s0 : Int32) (s1 : Int32) (s2 : Int32) (h : Hp), run d 416 72 [l0, l1, l2, l3, l4, l5, l6, l7, l8] [vi s0, vi s1, vi s2] h = if s1 = s0 then run d 416 75 [l0, l1, l2, l3, l4, l5, l6, l7, l8] [vi s2] h else run d 416 79 [l0, l1, l2, l3, l4, l5, l6, l7, l8] [vi s2] h) ∧
  (∀ (d : Nat) (l0 l1 l2 l3 l4 l5 l6 l7 l8 : Option AV) (s0 : Int32) (h : Hp), run d 416 75 [l0, l1, l2, l3, l4, l5, l6, l7, l8] [vi s0] h = run d 416 76 [l0, l1, l2, l3, l4, l5, l6, l7, l8] [vi (1 : Int32), vi s0] h) ∧
  (∀ (d : Nat) (l0 l1 l2 l3 l4 l5 l6 l7 l8 : Option AV) (s0 : Int32) (s1 : Int32) (h : Hp), run d 416 76 [l0, l1, l2, l3, l4, l5, l6, l7, l8] [vi s0, vi s1] h = run d 416 80 [l0, l1, l2, l3, l4, l5, l6, l7, l8] [vi s0, vi s1] h) ∧
  (∀ (d : Nat) (l0 l1 l2 l3 l4 l5 l6 l7 l8 : Option AV) (s0 : Int32) (h : Hp), run d 416 79 [l0, l1, l2, l3, l4, l5, l6, l7, l8] [vi s0] h = run d 416 80 [l0, l1, l2, l3, l4, l5, l6, l7, l8] [vi (0 : Int32), vi s0] h) ∧
  (∀ (d : Nat) (l0 l1 l2 l3 l4 l5 l6 l7 l8 : Option AV) (s0 : Int32) (s1 : Int32) (h : Hp), run d 416 80 [l0, l1, l2, l3, l4, l5, l6, l7, l8] [vi s0, vi s1] h = run d 416 81 [l0, l1, l2, l3, l4, l5, l6, l7, l8] [vi (s1 + s0)] h) ∧
  (∀ (d : Nat) (l0 l1 l2 l3 l5 l6 l7 l8 : Option AV) (s0 : Int32) (h : Hp), run d 416 81 [l0, l1, l2, l3, none, l5, l6, l7, l8] [vi s0] h = run d 416 83 [l0, l1, l2, l3, none, some (vi s0), l6, l7, l8] [] h) ∧
  (∀ (d : Nat) (l0 l1 l2 l3 l5 l6 l7 l8 : Option AV) (s0 : Int32) (w1 : Int32) (h : Hp), run d 416 81 [l0, l1, l2, l3, some (vi w1), l5, l6, l7, l8] [vi s0] h = run d 416 83 [l0, l1, l2, l3, some (vi w1), some (vi s0), l6, l7, l8] [] h) ∧
  (∀ (d : Nat) (l0 l1 l2 l3 l5 l6 l7 l8 : Option AV) (s0 : Int32) (w1 : Option Rf) (h : Hp), run d 416 81 [l0, l1, l2, l3, some (vo w1), l5, l6, l7, l8] [vi s0] h = run d 416 83 [l0, l1, l2, l3, some (vo w1), some (vi s0), l6, l7, l8] [] h) ∧
  (∀ (d : Nat) (l0 l1 l2 l3 l4 l5 l6 : Option AV) (w : Int32) (h : Hp), run d 416 83 [l0, l1, l2, l3, l4, l5, l6, none, some (vi w)] [] h = run d 416 86 [l0, l1, l2, l3, l4, l5, l6, none, some (vi (w + (1 : Int32)))] [] h) ∧
  (∀ (d : Nat) (l0 l1 l2 l3 l4 l5 l6 : Option AV) (w1 : Int32) (w : Int32) (h : Hp), run d 416 83 [l0, l1, l2, l3, l4, l5, l6, some (vi w1), some (vi w)] [] h = run d 416 86 [l0, l1, l2, l3, l4, l5, l6, some (vi w1), some (vi (w + (1 : Int32)))] [] h) ∧
  (∀ (d : Nat) (l0 l1 l2 l3 l4 l5 l6 : Option AV) (w1 : Option Rf) (w : Int32) (h : Hp), run d 416 83 [l0, l1, l2, l3, l4, l5, l6, some (vo w1), some (vi w)] [] h = run d 416 86 [l0, l1, l2, l3, l4, l5, l6, some (vo w1), some (vi (w + (1 : Int32)))] [] h) ∧
  (∀ (d : Nat) (l0 l1 l2 l3 l4 l5 l6 l7 l8 : Option AV) (h : Hp), run d 416 86 [l0, l1, l2, l3, l4, l5, l6, l7, l8] [] h = run d 416 17 [l0, l1, l2, l3, l4, l5, l6, l7, l8] [] h) ∧
  (∀ (d : Nat) (l0 l2 l3 l4 l5 l6 l7 l8 : Option AV) (w : Option Rf) (h : Hp), run d 416 89 [l0, some (vo w), l2, l3, l4, l5, l6, l7, l8] [] h = run d 416 90 [l0, some (vo w), l2, l3, l4, l5, l6, l7, l8] [vo w] h) ∧
  (∀ (d : Nat) (l0 l1 l2 l3 l4 l5 l6 l7 l8 : Option AV) (s0 : Option Rf) (h : Hp), run d 416 90 [l0, l1, l2, l3, l4, l5, l6, l7, l8] [vo s0] h = run d 416 93 [l0, l1, l2, l3, l4, l5, l6, l7, l8] [vo (some (h.1.1, 5, 0)), vo s0] (hmk h 9)) ∧
  (∀ (d : Nat) (l0 l1 l2 l3 l4 l5 l6 l7 l8 : Option AV) (s0 : Option Rf) (s1 : Option Rf) (h : Hp), run d 416 93 [l0, l1, l2, l3, l4, l5, l6, l7, l8] [vo s0, vo s1] h = run d 416 94 [l0, l1, l2, l3, l4, l5, l6, l7, l8] [vo s0, vo s0, vo s1] h) ∧
  (∀ (d : Nat) (l0 l1 l2 l3 l5 l6 l7 l8 : Option AV) (s0 : Option Rf) (s1 : Option Rf) (s2 : Option Rf) (w : Int32) (h : Hp), run d 416 94 [l0, l1, l2, l3, some (vi w), l5, l6, l7, l8] [vo s0, vo s1, vo s2] h = run d 416 96 [l0, l1, l2, l3, some (vi w), l5, l6, l7, l8] [vi w, vo s0, vo s1, vo s2] h) ∧
  (∀ (d : Nat) (l0 l1 l2 l3 l4 l6 l7 l8 : Option AV) (s0 : Int32) (s1 : Option Rf) (s2 : Option Rf) (s3 : Option Rf) (w : Int32) (h : Hp), run d 416 96 [l0, l1, l2, l3, l4, some (vi w), l6, l7, l8] [vi s0, vo s1, vo s2, vo s3] h = run d 416 98 [l0, l1, l2, l3, l4, some (vi w), l6, l7, l8] [vi w, vi s0, vo s1, vo s2, vo s3] h) ∧
  (∀ (d : Nat) (l0 l1 l2 l3 l4 l5 l6 l8 : Option AV) (s0 : Int32) (s1 : Int32) (s2 : Option Rf) (s3 : Option Rf) (s4 : Option Rf) (w : Int32) (h : Hp), run d 416 98 [l0, l1, l2, l3, l4, l5, l6, some (vi w), l8] [vi s0, vi s1, vo s2, vo s3, vo s4] h = run d 416 100 [l0, l1, l2, l3, l4, l5, l6, some (vi w), l8] [vi w, vi s0, vi s1, vo s2, vo s3, vo s4] h) ∧
  (∀ (d : Nat) (l0 l1 l2 l3 l4 l5 l6 l7 l8 : Option AV) (s0 : Int32) (s1 : Int32) (s2 : Int32) (s4 : Option Rf) (s5 : Option Rf) (o z : Nat) (hd : am_rk 500 [vo (some (o, 5, z)), vi s2, vi s1, vi s0] < d) (h : Hp), run d 416 100 [l0, l1, l2, l3, l4, l5, l6, l7, l8] [vi s0, vi s1, vi s2, vo (some (o, 5, z)), vo s4, vo s5] h = (call 500 [vo (some (o, 5, z)), vi s2, vi s1, vi s0] h).bind (fun z => run d 416 103 [l0, l1, l2, l3, l4, l5, l6, l7, l8] (z.1.toList ++ [vo s4, vo s5]) z.2)) ∧
  (∀ (d : Nat) (l0 l1 l2 l3 l4 l5 l6 l7 l8 : Option AV) (s0 : Option Rf) (o z : Nat) (hd : am_rk 1002 [vo (some (o, 10, z)), vo s0] < d) (h : Hp), run d 416 103 [l0, l1, l2, l3, l4, l5, l6, l7, l8] [vo s0, vo (some (o, 10, z))] h = (call 1002 [vo (some (o, 10, z)), vo s0] h).bind (fun z => run d 416 106 [l0, l1, l2, l3, l4, l5, l6, l7, l8] (z.1.toList ++ []) z.2)) ∧
  (∀ (d : Nat) (l0 l1 l2 l3 l4 l5 l6 l7 l8 : Option AV) (h : Hp), run d 416 106 [l0, l1, l2, l3, l4, l5, l6, l7, l8] [] h = some (none, h)) := ⟨(fun _ _ _ _ _ _ _ _ _ _ _ => run_next rfl rfl),
  (fun _ _ _ _ _ _ _ _ _ s0 _ => run_next rfl rfl),
  (fun _ _ _ _ _ _ _ _ _ s0 _ _ => run_next rfl rfl),
  (fun _ _ _ _ _ _ _ _ _ s0 _ _ => run_next rfl rfl),
  (fun _ _ _ _ _ _ _ _ _ _ _ => run_next rfl rfl),
  (fun _ _ _ _ _ _ _ _ _ s0 _ => run_next rfl rfl),
  (fun _ _ _ _ _ _ _ _ _ s0 _ _ => run_next rfl rfl),
  (fun _ _ _ _ _ _ _ _ _ s0 _ _ => run_next rfl rfl),
  (fun _ _ _ _ _ _ _ _ _ _ _ => run_next rfl rfl),
  (fun _ _ _ _ _ _ _ _ _ s0 _ => run_next rfl rfl),
  (fun _ _ _ _ _ _ _ _ _ s0 _ _ => run_next rfl rfl),
  (fun _ _ _ _ _ _ _ _ _ s0 _ _ => run_next rfl rfl),
  (fun _ _ _ _ _ _ _ _ _ _ _ => run_next rfl rfl),
  (fun _ _ _ _ _ _ _ _ _ s0 _ => run_next rfl rfl),
  (fun _ _ _ _ _ _ _ _ _ s0 _ _ => run_next rfl rfl),
  (fun _ _ _ _ _ _ _ _ _ s0 _ _ => run_next rfl rfl),
  (fun _ _ _ _ _ _ _ _ _ _ _ => run_next rfl rfl),
  (fun _ _ _ _ _ _ _ _ _ _ s0 _ => run_next rfl rfl),
  (fun _ _ _ _ _ _ _ _ _ _ s0 _ _ => run_next rfl rfl),
  (fun _ _ _ _ _ _ _ _ _ s0 _ => run_next rfl rfl),
  (fun _ _ _ _ _ _ _ _ _ s0 _ _ => run_next rfl rfl),
  (fun _ _ _ _ _ _ _ _ _ s0 _ _ => run_next rfl rfl),
  (fun _ _ _ _ _ _ _ _ _ s0 _ _ => run_next rfl rfl),
  (fun _ _ _ _ _ _ _ _ _ _ s0 _ _ => run_if rfl rfl (run_next rfl) (run_next rfl)),
  (fun _ _ _ _ _ _ _ _ _ _ _ => run_next rfl rfl),
  (fun _ _ _ _ _ _ _ _ _ s0 _ _ => run_next rfl rfl),
  (fun _ _ _ _ _ _ _ _ _ _ s0 _ _ hd _ => run_calx rfl rfl hd (Nat.le_of_ble_eq_true rfl) rfl),
  (fun _ _ _ _ _ _ _ _ _ _ s0 _ => run_next rfl rfl),
  (fun _ _ _ _ _ _ _ _ _ _ s0 _ _ => run_if rfl rfl (run_next rfl) (run_next rfl)),
  (fun _ _ _ _ _ _ _ _ _ _ => run_next rfl rfl),
  (fun _ _ _ _ _ _ _ _ _ _ _ => run_next rfl rfl),
  (fun _ _ _ _ _ _ _ _ _ _ _ => run_next rfl rfl),
  (fun _ _ _ _ _ _ _ _ _ _ _ => run_next rfl rfl),
  (fun _ _ _ _ _ _ _ _ _ _ _ => run_next rfl rfl),
  (fun _ _ _ _ _ _ _ _ _ s0 _ _ => run_next rfl rfl),
  (fun _ _ _ _ _ _ _ _ _ s0 _ _ _ => run_next rfl rfl),
  (fun _ _ _ _ _ _ _ _ _ _ s0 _ _ _ hd _ => run_calx rfl rfl hd (Nat.le_of_ble_eq_true rfl) rfl),
  (fun _ _ _ _ _ _ _ _ _ _ s0 _ _ => run_next rfl rfl),
  (fun _ _ _ _ _ _ _ _ _ _ s0 _ _ _ => run_if rfl rfl (run_next rfl) (run_next rfl)),
  (fun _ _ _ _ _ _ _ _ _ _ s0 _ => run_next rfl rfl),
  (fun _ _ _ _ _ _ _ _ _ s0 _ _ _ => run_next rfl rfl),
  (fun _ _ _ _ _ _ _ _ _ _ s0 _ _ _ => run_next rfl rfl),
  (fun _ _ _ _ _ _ _ _ _ _ s0 _ _ => run_next rfl rfl),
  (fun _ _ _ _ _ _ _ _ _ _ s0 _ => run_next rfl rfl),
  (fun _ _ _ _ _ _ _ _ _ _ s0 _ _ => run_next rfl rfl),
  (fun _ _ _ _ _ _ _ _ _ s0 _ => run_next rfl rfl),
  (fun _ _ _ _ _ _ _ _ _ s0 _ _ => run_next rfl rfl),
  (fun _ _ _ _ _ _ _ _ _ s0 _ _ => run_next rfl rfl),
  (fun _ _ _ _ _ _ _ _ _ _ => run_next rfl rfl),
  (fun _ _ _ _ _ _ _ _ _ _ _ => run_next rfl rfl),
  (fun _ _ _ _ _ _ _ _ _ _ _ => run_next rfl rfl),
  (fun _ _ _ _ _ _ _ _ _ _ _ => run_next rfl rfl),
  (fun _ _ _ _ _ _ _ _ _ s0 _ _ => run_next rfl rfl),
  (fun _ _ _ _ _ _ _ _ _ _ s0 _ _ => run_next rfl rfl),
  (fun _ _ _ _ _ _ _ _ _ _ s0 _ _ _ => run_if rfl rfl (run_next rfl) (run_next rfl)),
  (fun _ _ _ _ _ _ _ _ _ _ s0 _ => run_next rfl rfl),
  (fun _ _ _ _ _ _ _ _ _ _ s0 _ _ => run_next rfl rfl),
  (fun _ _ _ _ _ _ _ _ _ _ s0 _ => run_next rfl rfl),
  (fun _ _ _ _ _ _ _ _ _ _ s0 _ _ => run_next rfl rfl),
  (fun _ _ _ _ _ _ _ _ _ s0 _ => run_next rfl rfl),
  (fun _ _ _ _ _ _ _ _ _ s0 _ _ => run_next rfl rfl),
  (fun _ _ _ _ _ _ _ _ _ s0 _ _ => run_next rfl rfl),
  (fun _ _ _ _ _ _ _ _ _ _ => run_next rfl rfl),
  (fun _ _ _ _ _ _ _ _ _ _ _ => run_next rfl rfl),
  (fun _ _ _ _ _ _ _ _ _ _ _ => run_next rfl rfl),
  (fun _ _ _ _ _ _ _ _ _ _ _ => run_next rfl rfl),
  (fun _ _ _ _ _ _ _ _ _ _ _ => run_next rfl rfl),
  (fun _ _ _ _ _ _ _ _ _ _ s0 _ => run_next rfl rfl),
  (fun _ _ _ _ _ _ _ _ _ _ s0 _ _ => run_next rfl rfl),
  (fun _ _ _ _ _ _ _ _ _ s0 _ _ _ _ => run_next rfl rfl),
  (fun _ _ _ _ _ _ _ _ _ s0 _ _ _ _ _ => run_next rfl rfl),
  (fun _ _ _ _ _ _ _ _ _ s0 _ _ _ _ _ _ => run_next rfl rfl),
  (fun _ _ _ _ _ _ _ _ _ _ s0 _ _ _ _ _ _ hd _ => run_calx rfl rfl hd (Nat.le_of_ble_eq_true rfl) rfl),
  (fun _ _ _ _ _ _ _ _ _ _ s0 _ _ hd _ => run_calx rfl rfl hd (Nat.le_of_ble_eq_true rfl) rfl),
  (fun _ _ _ _ _ _ _ _ _ _ _ => run_ret rfl rfl)⟩
theorem x_416_17 : (∀ (d : Nat) (l0 l1 l2 l3 l4 l5 l6 l7 : Option AV) (w : Int32) (h : Hp), run d 416 17 [l0, l1, l2, l3, l4, l5, l6, l7, some (vi w)] [] h = run d 416 19 [l0, l1, l2, l3, l4, l5, l6, l7, some (vi w)] [vi w] h) := (fun _ _ _ _ _ _ _ _ _ _ _ => run_next rfl rfl)
theorem e_416 (v : Option Rf) (a0 : Option Rf) (a1 : Int32) (a2 : Int32) (h : Hp) : call 416 [vo v, vo a0, vi a1, vi a2] h = run 3 416 0 [some (vo v), some (vo a0), some (vi a1), some (vi a2), none, none, none, none, none] [] h := rfl
theorem x_417 : (∀ (d : Nat) (l1 l2 l3 l4 l5 l6 l7 : Option AV) (w : Option Rf) (h : Hp), run d 417 0 [some (vo w), l1, l2, l3, l4, l5, l6, l7] [] h = run d 417 1 [some (vo w), l1, l2, l3, l4, l5, l6, l7] [vo w] h) ∧
  (∀ (d : Nat) (l0 l1 l3 l4 l5 l6 l7 : Option AV) (s0 : Option Rf) (w : Int32) (h : Hp), run d 417 1 [l0, l1, some (vi w), l3, l4, l5, l6, l7] [vo s0] h = run d 417 2 [l0, l1, some (vi w), l3, l4, l5, l6, l7] [vi w, vo s0] h) ∧
  (∀ (d : Nat) (l0 l1 l2 l3 l4 l5 l6 l7 : Option AV) (s0 : Int32) (s1 : Option Rf) (h : Hp), run d 417 2 [l0, l1, l2, l3, l4, l5, l6, l7] [vi s0, vo s1] h = run d 417 3 [l0, l1, l2, l3, l4, l5, l6, l7] [vi (3 : Int32), vi s0, vo s1] h) ∧
  (∀ (d : Nat) (l0 l1 l2 l3 l4 l5 l6 l7 : Option AV) (s0 : Int32) (s1 : Int32) (s2 : Option Rf) (h : Hp), run d 417 3 [l0, l1, l2, l3, l4, l5, l6, l7] [vi s0, vi s1, vo s2] h = run d 417 4 [l0, l1, l2, l3, l4, l5, l6, l7] [vi (s1 + s0), vo s2] h) ∧
  (∀ (d : Nat) (l0 l1 l2 l3 l4 l5 l6 l7 : Option AV) (s0 : Int32) (o z : Nat) (hd : am_rk 414 [vo (some (o, 4, z)), vi s0] < d) (h : Hp), run d 417 4 [l0, l1, l2, l3, l4, l5, l6, l7] [vi s0, vo (some (o, 4, z))] h = (call 414 [vo (some (o, 4, z)), vi s0] h).bind (fun z => run d 417 7 [l0, l1, l2, l3, l4, l5, l6, l7] (z.1.toList ++ []) z.2)) ∧
  (∀ (d : Nat) (l0 l1 l2 l4 l5 l6 l7 : Option AV) (s0 : Int32) (h : Hp), run d 417 7 [l0, l1, l2, none, l4, l5, l6, l7] [vi s0] h = run d 417 9 [l0, l1, l2, none, some (vi s0), l5, l6, l7] [] h) ∧
  (∀ (d : Nat) (l0 l1 l2 l4 l5 l6 l7 : Option AV) (s0 : Int32) (w1 : Int32) (h : Hp), run d 417 7 [l0, l1, l2, some (vi w1), l4, l5, l6, l7] [vi s0] h = run d 417 9 [l0, l1, l2, some (vi w1), some (vi s0), l5, l6, l7] [] h) ∧
  (∀ (d : Nat) (l0 l1 l2 l4 l5 l6 l7 : Option AV) (s0 : Int32) (w1 : Option Rf) (h : Hp), run d 417 7 [l0, l1, l2, some (vo w1), l4, l5, l6, l7] [vi s0] h = run d 417 9 [l0, l1, l2, some (vo w1), some (vi s0), l5, l6, l7] [] h) ∧
  (∀ (d : Nat) (l0 l1 l3 l4 l5 l6 l7 : Option AV) (w : Int32) (h : Hp), run d 417 9 [l0, l1, some (vi w), l3, l4, l5, l6, l7] [] h = run d 417 10 [l0, l1, some (vi w), l3, l4, l5, l6, l7] [vi w] h) ∧
  (∀ (d : Nat) (l0 l1 l2 l3 l4 l5 l6 l7 : Option AV) (s0 : Int32) (h : Hp), run d 417 10 [l0, l1, l2, l3, l4, l5, l6, l7] [vi s0] h = run d 417 11 [l0, l1, l2, l3, l4, l5, l6, l7] [vi (4 : Int32), vi s0] h) ∧
  (∀ (d : Nat) (l0 l1 l2 l3 l4 l5 l6 l7 : Option AV) (s0 : Int32) (s1 : Int32) (h : Hp), run d 417 11 [l0, l1, l2, l3, l4, l5, l6, l7] [vi s0, vi s1] h = run d 417 12 [l0, l1, l2, l3, l4, l5, l6, l7] [vi (s1 + s0)] h) ∧
  (∀ (d : Nat) (l0 l1 l2 l3 l5 l6 l7 : Option AV) (s0 : Int32) (h : Hp), run d 417 12 [l0, l1, l2, l3, none, l5, l6, l7] [vi s0] h = run d 417 14 [l0, l1, l2, l3, none, some (vi s0), l6, l7] [] h) ∧
  (∀ (d : Nat) (l0 l1 l2 l3 l5 l6 l7 : Option AV) (s0 : Int32) (w1 : Int32) (h : Hp), run d 417 12 [l0, l1, l2, l3, some (vi w1), l5, l6, l7] [vi s0] h = run d 417 14 [l0, l1, l2, l3, some (vi w1), some (vi s0), l6, l7] [] h) ∧
  (∀ (d : Nat) (l0 l1 l2 l3 l5 l6 l7 : Option AV) (s0 : Int32) (w1 : Option Rf) (h : Hp), run d 417 12 [l0, l1, l2, l3, some (vo w1), l5, l6, l7] [vi s0] h = run d 417 14 [l0, l1, l2, l3, some (vo w1), some (vi s0), l6, l7] [] h) ∧
  (∀ (d : Nat) (l1 l2 l3 l4 l5 l6 l7 : Option AV) (w : Option Rf) (h : Hp), run d 417 14 [some (vo w), l1, l2, l3, l4, l5, l6, l7] [] h = run d 417 15 [some (vo w), l1, l2, l3, l4, l5, l6, l7] [vo w] h) ∧
  (∀ (d : Nat) (l0 l1 l2 l3 l4 l6 l7 : Option AV) (s0 : Option Rf) (w : Int32) (h : Hp), run d 417 15 [l0, l1, l2, l3, l4, some (vi w), l6, l7] [vo s0] h = run d 417 17 [l0, l1, l2, l3, l4, some (vi w), l6, l7] [vi w, vo s0] h) ∧
  (∀ (d : Nat) (l0 l1 l2 l3 l4 l5 l6 l7 : Option AV) (s0 : Int32) (o z : Nat) (hd : am_rk 413 [vo (some (o, 4, z)), vi s0] < d) (h : Hp), run d 417 17 [l0, l1, l2, l3, l4, l5, l6, l7] [vi s0, vo (some (o, 4, z))] h = (call 413 [vo (some (o, 4, z)), vi s0] h).bind (fun z => run d 417 20 [l0, l1, l2, l3, l4, l5, l6, l7] (z.1.toList ++ []) z.2)) ∧
  (∀ (d : Nat) (l0 l1 l2 l3 l4 l5 l6 l7 : Option AV) (s0 : Int32) (hd : am_rk 411 [vi s0] < d) (h : Hp), run d 417 20 [l0, l1, l2, l3, l4, l5, l6, l7] [vi s0] h = (call 411 [vi s0] h).bind (fun z => run d 417 23 [l0, l1, l2, l3, l4, l5, l6, l7] (z.1.toList ++ []) z.2)) ∧
  (∀ (d : Nat) (l0 l1 l2 l3 l4 l5 l6 l7 : Option AV) (s0 : Int32) (h : Hp), run d 417 23 [l0, l1, l2, l3, l4, l5, l6, l7] [vi s0] h = if s0 = 0 then run d 417 43 [l0, l1, l2, l3, l4, l5, l6, l7] [] h else run d 417 26 [l0, l1, l2, l3, l4, l5, l6, l7] [] h) ∧
  (∀ (d : Nat) (l0 l1 l2 l3 l5 l6 l7 : Option AV) (w : Int32) (h : Hp), run d 417 26 [l0, l1, l2, l3, some (vi w), l5, l6, l7] [] h = run d 417 28 [l0, l1, l2, l3, some (vi w), l5, l6, l7] [vi w] h) ∧
  (∀ (d : Nat) (l0 l1 l2 l3 l4 l5 l6 l7 : Option AV) (s0 : Int32) (h : Hp), run d 417 28 [l0, l1, l2, l3, l4, l5, l6, l7] [vi s0] h = run d 417 30 [l0, l1, l2, l3, l4, l5, l6, l7] [vi (10 : Int32), vi s0] h) ∧
  (∀ (d : Nat) (l0 l1 l2 l3 l4 l5 l6 l7 : Option AV) (s0 : Int32) (s1 : Int32) (h : Hp), run d 417 30 [l0, l1, l2, l3, l4, l5, l6, l7] [vi s0, vi s1] h = run d 417 31 [l0, l1, l2, l3, l4, l5, l6, l7] [vi (s1 * s0)] h) ∧
  (∀ (d : Nat) (l1 l2 l3 l4 l5 l6 l7 : Option AV) (s0 : Int32) (w : Option Rf) (h : Hp), run d 417 31 [some (vo w), l1, l2, l3, l4, l5, l6, l7] [vi s0] h = run d 417 32 [some (vo w), l1, l2, l3, l4, l5, l6, l7] [vo w, vi s0] h) ∧
  (∀ (d : Nat) (l0 l1 l2 l3 l4 l6 l7 : Option AV) (s0 : Option Rf) (s1 : Int32) (w : Int32) (h : Hp), run d 417 32 [l0, l1, l2, l3, l4, some (vi w), l6, l7] [vo s0, vi s1] h = run d 417 34 [l0, l1, l2, l3, l4, some (vi w), l6, l7] [vi w, vo s0, vi s1] h) ∧
  (∀ (d : Nat) (l0 l1 l2 l3 l4 l5 l6 l7 : Option AV) (s0 : Int32) (s2 : Int32) (o z : Nat) (hd : am_rk 414 [vo (some (o, 4, z)), vi s0] < d) (h : Hp), run d 417 34 [l0, l1, l2, l3, l4, l5, l6, l7] [vi s0, vo (some (o, 4, z)), vi s2] h = (call 414 [vo (some (o, 4, z)), vi s0] h).bind (fun z => run d 417 37 [l0, l1, l2, l3, l4, l5, l6, l7] (z.1.toList ++ [vi s2]) z.2)) ∧
  (∀ (d : Nat) (l0 l1 l2 l3 l4 l5 l6 l7 : Option AV) (s0 : Int32) (s1 : Int32) (h : Hp), run d 417 37 [l0, l1, l2, l3, l4, l5, l6, l7] [vi s0, vi s1] h = run d 417 38 [l0, l1, l2, l3, l4, l5, l6, l7] [vi (s1 + s0)] h) ∧
  (∀ (d : Nat) (l0 l1 l2 l4 l5 l6 l7 : Option AV) (s0 : Int32) (h : Hp), run d 417 38 [l0, l1, l2, none, l4, l5, l6, l7] [vi s0] h = run d 417 40 [l0, l1, l2, none, some (vi s0), l5, l6, l7] [] h) ∧
  (∀ (d : Nat) (l0 l1 l2 l4 l5 l6 l7 : Option AV) (s0 : Int32) (w1 : Int32) (h : Hp), run d 417 38 [l0, l1, l2, some (vi w1), l4, l5, l6, l7] [vi s0] h = run d 417 40 [l0, l1, l2, some (vi w1), some (vi s0), l5, l6, l7] [] h) ∧
  (∀ (d : Nat) (l0 l1 l2 l4 l5 l6 l7 : Option AV) (s0 : Int32) (w1 : Option Rf) (h : Hp), run d 417 38 [l0, l1, l2, some (vo w1), l4, l5, l6, l7] [vi s0] h = run d 417 40 [l0, l1, l2, some (vo w1), some (vi s0), l5, l6, l7] [] h) ∧
  (∀ (d : Nat) (l0 l1 l2 l3 l6 l7 : Option AV) (w : Int32) (h : Hp), run d 417 40 [l0, l1, l2, l3, none, some (vi w), l6, l7] [] h = run d 417 43 [l0, l1, l2, l3, none, some (vi (w + (1 : Int32))), l6, l7] [] h) ∧
  (∀ (d : Nat) (l0 l1 l2 l3 l6 l7 : Option AV) (w1 : Int32) (w : Int32) (h : Hp), run d 417 40 [l0, l1, l2, l3, some (vi w1), some (vi w), l6, l7] [] h = run d 417 43 [l0, l1, l2, l3, some (vi w1), some (vi (w + (1 : Int32))), l6, l7] [] h) ∧
  (∀ (d : Nat) (l0 l1 l2 l3 l6 l7 : Option AV) (w1 : Option Rf) (w : Int32) (h : Hp), run d 417 40 [l0, l1, l2, l3, some (vo w1), some (vi w), l6, l7] [] h = run d 417 43 [l0, l1, l2, l3, some (vo w1), some (vi (w + (1 : Int32))), l6, l7] [] h) ∧
  (∀ (d : Nat) (l0 l1 l2 l3 l4 l5 l6 l7 : Option AV) (h : Hp), run d 417 43 [l0, l1, l2, l3, l4, l5, l6, l7] [] h = run d 417 44 [l0, l1, l2, l3, l4, l5, l6, l7] [vi (0 : Int32)] h) ∧
  (∀ (d : Nat) (l0 l1 l2 l4 l5 l6 l7 : Option AV) (s0 : Int32) (w : Int32) (h : Hp), run d 417 44 [l0, l1, l2, some (vi w), l4, l5, l6, l7] [vi s0] h = run d 417 45 [l0, l1, l2, some (vi w), l4, l5, l6, l7] [vi w, vi s0] h) ∧
  (∀ (d : Nat) (l0 l1 l2 l3 l4 l6 l7 : Option AV) (s0 : Int32) (s1 : Int32) (w : Int32) (h : Hp), run d 417 45 [l0, l1, l2, l3, l4, some (vi w), l6, l7] [vi s0, vi s1] h = run d 417 47 [l0, l1, l2, l3, l4, some (vi w), l6, l7] [vi w, vi s0, vi s1] h) ∧
  (∀ (d : Nat) (l0 l1 l2 l3 l4 l5 l6 l7 : Option AV) (s0 : Int32) (s1 : Int32) (s2 : Int32) (h : Hp), run d 417 47 [l0, l1, l2, l3, l4, l5, l6, l7] [vi s0, vi s1, vi s2] h = run d 417 48 [l0, l1, l2, l3, l4, l5, l6, l7] [vi (s1 - s0), vi s2] h) ∧
  (∀ (d : Nat) (l0 l1 l2 l3 l4 l5 l6 l7 : Option AV) (s0 : Int32) (s1 : Int32) (h : Hp), run d 417 48 [l0, l1, l2, l3, l4, l5, l6, l7] [vi s0, vi s1] h = run d 417 51 [l0, l1, l2, l3, l4, l5, l6, l7] [vi (if s1 < s0 then s0 else s1)] h) ∧
  (∀ (d : Nat) (l0 l1 l2 l3 l4 l5 l6 l7 : Option AV) (s0 : Int32) (h : Hp), run d 417 51 [l0, l1, l2, l3, l4, l5, l6, l7] [vi s0] h = if s0 < 0 ∨ 100000 ≤ s0.toNatClampNeg then none else run d 417 53 [l0, l1, l2, l3, l4, l5, l6, l7] [vo (some (h.1.1, 13, s0.toNatClampNeg))] (hmk h s0.toNatClampNeg)) ∧
  (∀ (d : Nat) (l0 l1 l2 l3 l4 l6 l7 : Option AV) (s0 : Option Rf) (h : Hp), run d 417 53 [l0, l1, l2, l3, l4, none, l6, l7] [vo s0] h = run d 417 55 [l0, l1, l2, l3, l4, none, some (vo s0), l7] [] h) ∧
  (∀ (d : Nat) (l0 l1 l2 l3 l4 l6 l7 : Option AV) (s0 : Option Rf) (w1 : Int32) (h : Hp), run d 417 53 [l0, l1, l2, l3, l4, some (vi w1), l6, l7] [vo s0] h = run d 417 55 [l0, l1, l2, l3, l4, some (vi w1), some (vo s0), l7] [] h) ∧
  (∀ (d : Nat) (l0 l1 l2 l3 l4 l6 l7 : Option AV) (s0 : Option Rf) (w1 : Option Rf) (h : Hp), run d 417 53 [l0, l1, l2, l3, l4, some (vo w1), l6, l7] [vo s0] h = run d 417 55 [l0, l1, l2, l3, l4, some (vo w1), some (vo s0), l7] [] h) ∧
  (∀ (d : Nat) (l0 l1 l2 l3 l4 l5 l6 l7 : Option AV) (h : Hp), run d 417 55 [l0, l1, l2, l3, l4, l5, l6, l7] [] h = run d 417 56 [l0, l1, l2, l3, l4, l5, l6, l7] [vi (0 : Int32)] h) ∧
  (∀ (d : Nat) (l0 l1 l2 l3 l4 l5 l7 : Option AV) (s0 : Int32) (h : Hp), run d 417 56 [l0, l1, l2, l3, l4, l5, none, l7] [vi s0] h = run d 417 58 [l0, l1, l2, l3, l4, l5, none, some (vi s0)] [] h) ∧
  (∀ (d : Nat) (l0 l1 l2 l3 l4 l5 l7 : Option AV) (s0 : Int32) (w1 : Int32) (h : Hp), run d 417 56 [l0, l1, l2, l3, l4, l5, some (vi w1), l7] [vi s0] h = run d 417 58 [l0, l1, l2, l3, l4, l5, some (vi w1), some (vi s0)] [] h) ∧
  (∀ (d : Nat) (l0 l1 l2 l3 l4 l5 l7 : Option AV) (s0 : Int32) (w1 : Option Rf) (h : Hp), run d 417 56 [l0, l1, l2, l3, l4, l5, some (vo w1), l7] [vi s0] h = run d 417 58 [l0, l1, l2, l3, l4, l5, some (vo w1), some (vi s0)] [] h) ∧
  (∀ (d : Nat) (l0 l1 l2 l3 l4 l5 l7 : Option AV) (s0 : Int32) (w : Option Rf) (h : Hp), run d 417 60 [l0, l1, l2, l3, l4, l5, some (vo w), l7] [vi s0] h = run d 417 62 [l0, l1, l2, l3, l4, l5, some (vo w), l7] [vo w, vi s0] h) ∧
  (∀ (d : Nat) (l0 l1 l2 l3 l4 l5 l6 l7 : Option AV) (s1 : Int32) (o z : Nat) (h : Hp), run d 417 62 [l0, l1, l2, l3, l4, l5, l6, l7] [vo (some (o, 13, z)), vi s1] h = run d 417 63 [l0, l1, l2, l3, l4, l5, l6, l7] [vi (Int32.ofNat z), vi s1] h) ∧
  (∀ (d : Nat) (l0 l1 l2 l3 l4 l5 l6 l7 : Option AV) (s1 : Int32) (o z : Nat) (h : Hp), run d 417 62 [l0, l1, l2, l3, l4, l5, l6, l7] [vo (some (o, 14, z)), vi s1] h = run d 417 63 [l0, l1, l2, l3, l4, l5, l6, l7] [vi (Int32.ofNat z), vi s1] h) ∧
  (∀ (d : Nat) (l0 l1 l2 l3 l4 l5 l6 l7 : Option AV) (s1 : Int32) (o z : Nat) (h : Hp), run d 417 62 [l0, l1, l2, l3, l4, l5, l6, l7] [vo (some (o, 15, z)), vi s1] h = run d 417 63 [l0, l1, l2, l3, l4, l5, l6, l7] [vi (Int32.ofNat z), vi s1] h) ∧
  (∀ (d : Nat) (l0 l1 l2 l3 l4 l5 l6 l7 : Option AV) (s0 : Int32) (s1 : Int32) (h : Hp), run d 417 63 [l0, l1, l2, l3, l4, l5, l6, l7] [vi s0, vi s1] h = if s0 ≤ s1 then run d 417 89 [l0, l1, l2, l3, l4, l5, l6, l7] [] h else run d 417 66 [l0, l1, l2, l3, l4, l5, l6, l7] [] h) ∧
  (∀ (d : Nat) (l0 l1 l2 l3 l4 l5 l7 : Option AV) (w : Option Rf) (h : Hp), run d 417 66 [l0, l1, l2, l3, l4, l5, some (vo w), l7] [] h = run d 417 68 [l0, l1, l2, l3, l4, l5, some (vo w), l7] [vo w] h) ∧
  (∀ (d : Nat) (l0 l1 l2 l3 l4 l5 l6 : Option AV) (s0 : Option Rf) (w : Int32) (h : Hp), run d 417 68 [l0, l1, l2, l3, l4, l5, l6, some (vi w)] [vo s0] h = run d 417 70 [l0, l1, l2, l3, l4, l5, l6, some (vi w)] [vi w, vo s0] h) ∧
  (∀ (d : Nat) (l1 l2 l3 l4 l5 l6 l7 : Option AV) (s0 : Int32) (s1 : Option Rf) (w : Option Rf) (h : Hp), run d 417 70 [some (vo w), l1, l2, l3, l4, l5, l6, l7] [vi s0, vo s1] h = run d 417 71 [some (vo w), l1, l2, l3, l4, l5, l6, l7] [vo w, vi s0, vo s1] h) ∧
  (∀ (d : Nat) (l0 l1 l2 l3 l4 l6 l7 : Option AV) (s0 : Option Rf) (s1 : Int32) (s2 : Option Rf) (w : Int32) (h : Hp), run d 417 71 [l0, l1, l2, l3, l4, some (vi w), l6, l7] [vo s0, vi s1, vo s2] h = run d 417 73 [l0, l1, l2, l3, l4, some (vi w), l6, l7] [vi w, vo s0, vi s1, vo s2] h) ∧
  (∀ (d : Nat) (l0 l1 l2 l3 l4 l5 l6 : Option AV) (s0 : Int32) (s1 : Option Rf) (s2 : Int32) (s3 : Option Rf) (w : Int32) (h : Hp), run d 417 73 [l0, l1, l2, l3, l4, l5, l6, some (vi w)] [vi s0, vo s1, vi s2, vo s3] h = run d 417 75 [l0, l1, l2, l3, l4, l5, l6, some (vi w)] [vi w, vi s0, vo s1, vi s2, vo s3] h) ∧
  (∀ (d : Nat) (l0 l1 l2 l3 l4 l5 l6 l7 : Option AV) (s0 : Int32) (s1 : Int32) (s2 : Option Rf) (s3 : Int32) (s4 : Option Rf) (h : Hp), run d 417 75 [l0, l1, l2, l3, l4, l5, l6, l7] [vi s0, vi s1, vo s2, vi s3, vo s4] h = run d 417 76 [l0, l1, l2, l3, l4, l5, l6, l7] [vi (s1 + s0), vo s2, vi s3, vo s4] h) ∧
  (∀ (d : Nat) (l0 l1 l2 l3 l4 l5 l6 l7 : Option AV) (s0 : Int32) (s2 : Int32) (s3 : Option Rf) (o z : Nat) (hd : am_rk 413 [vo (some (o, 4, z)), vi s0] < d) (h : Hp), run d 417 76 [l0, l1, l2, l3, l4, l5, l6, l7] [vi s0, vo (some (o, 4, z)), vi s2, vo s3] h = (call 413 [vo (some (o, 4, z)), vi s0] h).bind (fun z => run d 417 79 [l0, l1, l2, l3, l4, l5, l6, l7] (z.1.toList ++ [vi s2, vo s3]) z.2)) ∧
  (∀ (d : Nat) (l0 l1 l2 l3 l4 l5 l6 l7 : Option AV) (s0 : Int32) (s1 : Int32) (s2 : Option Rf) (h : Hp), run d 417 79 [l0, l1, l2, l3, l4, l5, l6, l7] [vi s0, vi s1, vo s2] h = run d 417 82 [l0, l1, l2, l3, l4, l5, l6, l7] [vi (am_so s0), vi s1, vo s2] h) ∧
  (∀ (d : Nat) (l0 l1 l2 l3 l4 l5 l6 l7 : Option AV) (s0 : Int32) (s1 : Int32) (o z : Nat) (h : Hp), run d 417 82 [l0, l1, l2, l3, l4, l5, l6, l7] [vi s0, vi s1, vo (some (o, 13, z))] h = if s1 < 0 ∨ z ≤ s1.toNatClampNeg then none else run d 417 83 [l0, l1, l2, l3, l4, l5, l6, l7] [] (hsI h o s1.toNatClampNeg s0)) ∧
  (∀ (d : Nat) (l0 l1 l2 l3 l4 l5 : Option AV) (w : Int32) (h : Hp), run d 417 83 [l0, l1, l2, l3, l4, l5, none, some (vi w)] [] h = run d 417 86 [l0, l1, l2, l3, l4, l5, none, some (vi (w + (1 : Int32)))] [] h) ∧
  (∀ (d : Nat) (l0 l1 l2 l3 l4 l5 : Option AV) (w1 : Int32) (w : Int32) (h : Hp), run d 417 83 [l0, l1, l2, l3, l4, l5, some (vi w1), some (vi w)] [] h = run d 417 86 [l0, l1, l2, l3, l4, l5, some (vi w1), some (vi (w + (1 : Int32)))] [] h) ∧
  (∀ (d : Nat) (l0 l1 l2 l3 l4 l5 : Option AV) (w1 : Option Rf) (w : Int32) (h : Hp), run d 417 83 [l0, l1, l2, l3, l4, l5, some (vo w1), some (vi w)] [] h = run d 417 86 [l0, l1, l2, l3, l4, l5, some (vo w1), some (vi (w + (1 : Int32)))] [] h) ∧
  (∀ (d : Nat) (l0 l1 l2 l3 l4 l5 l6 l7 : Option AV) (h : Hp), run d 417 86 [l0, l1, l2, l3, l4, l5, l6, l7] [] h = run d 417 58 [l0, l1, l2, l3, l4, l5, l6, l7] [] h) ∧
  (∀ (d : Nat) (l0 l2 l3 l4 l5 l6 l7 : Option AV) (w : Option Rf) (h : Hp), run d 417 89 [l0, some (vo w), l2, l3, l4, l5, l6, l7] [] h = run d 417 90 [l0, some (vo w), l2, l3, l4, l5, l6, l7] [vo w] h) ∧
  (∀ (d : Nat) (l1 l2 l3 l4 l5 l6 l7 : Option AV) (s0 : Option Rf) (w : Option Rf) (h : Hp), run d 417 90 [some (vo w), l1, l2, l3, l4, l5, l6, l7] [vo s0] h = run d 417 91 [some (vo w), l1, l2, l3, l4, l5, l6, l7] [vo w, vo s0] h) ∧
  (∀ (d : Nat) (l0 l1 l3 l4 l5 l6 l7 : Option AV) (s0 : Option Rf) (s1 : Option Rf) (w : Int32) (h : Hp), run d 417 91 [l0, l1, some (vi w), l3, l4, l5, l6, l7] [vo s0, vo s1] h = run d 417 92 [l0, l1, some (vi w), l3, l4, l5, l6, l7] [vi w, vo s0, vo s1] h) ∧
  (∀ (d : Nat) (l0 l1 l2 l3 l4 l5 l6 l7 : Option AV) (s0 : Int32) (s1 : Option Rf) (s2 : Option Rf) (h : Hp), run d 417 92 [l0, l1, l2, l3, l4, l5, l6, l7] [vi s0, vo s1, vo s2] h = run d 417 93 [l0, l1, l2, l3, l4, l5, l6, l7] [vi (1 : Int32), vi s0, vo s1, vo s2] h) ∧
  (∀ (d : Nat) (l0 l1 l2 l3 l4 l5 l6 l7 : Option AV) (s0 : Int32) (s1 : Int32) (s2 : Option Rf) (s3 : Option Rf) (h : Hp), run d 417 93 [l0, l1, l2, l3, l4, l5, l6, l7] [vi s0, vi s1, vo s2, vo s3] h = run d 417 94 [l0, l1, l2, l3, l4, l5, l6, l7] [vi (s1 + s0), vo s2, vo s3] h) ∧
  (∀ (d : Nat) (l0 l1 l2 l3 l4 l5 l6 l7 : Option AV) (s0 : Int32) (s2 : Option Rf) (o z : Nat) (hd : am_rk 414 [vo (some (o, 4, z)), vi s0] < d) (h : Hp), run d 417 94 [l0, l1, l2, l3, l4, l5, l6, l7] [vi s0, vo (some (o, 4, z)), vo s2] h = (call 414 [vo (some (o, 4, z)), vi s0] h).bind (fun z => run d 417 97 [l0, l1, l2, l3, l4, l5, l6, l7] (z.1.toList ++ [vo s2]) z.2)) ∧
  (∀ (d : Nat) (l1 l2 l3 l4 l5 l6 l7 : Option AV) (s0 : Int32) (s1 : Option Rf) (w : Option Rf) (h : Hp), run d 417 97 [some (vo w), l1, l2, l3, l4, l5, l6, l7] [vi s0, vo s1] h = run d 417 98 [some (vo w), l1, l2, l3, l4, l5, l6, l7] [vo w, vi s0, vo s1] h) ∧
  (∀ (d : Nat) (l0 l1 l3 l4 l5 l6 l7 : Option AV) (s0 : Option Rf) (s1 : Int32) (s2 : Option Rf) (w : Int32) (h : Hp), run d 417 98 [l0, l1, some (vi w), l3, l4, l5, l6, l7] [vo s0, vi s1, vo s2] h = run d 417 99 [l0, l1, some (vi w), l3, l4, l5, l6, l7] [vi w, vo s0, vi s1, vo s2] h) ∧
  (∀ (d : Nat) (l0 l1 l2 l3 l4 l5 l6 l7 : Option AV) (s0 : Int32) (s1 : Option Rf) (s2 : Int32) (s3 : Option Rf) (h : Hp), run d 417 99 [l0, l1, l2, l3, l4, l5, l6, l7] [vi s0, vo s1, vi s2, vo s3] h = run d 417 100 [l0, l1, l2, l3, l4, l5, l6, l7] [vi (2 : Int32), vi s0, vo s1, vi s2, vo s3] h) ∧
  (∀ (d : Nat) (l0 l1 l2 l3 l4 l5 l6 l7 : Option AV) (s0 : Int32) (s1 : Int32) (s2 : Option Rf) (s3 : Int32) (s4 : Option Rf) (h : Hp), run d 417 100 [l0, l1, l2, l3, l4, l5, l6, l7] [vi s0, vi s1, vo s2, vi s3, vo s4] h = run d 417 101 [l0, l1, l2, l3, l4, l5, l6, l7] [vi (s1 + s0), vo s2, vi s3, vo s4] h) ∧
  (∀ (d : Nat) (l0 l1 l2 l3 l4 l5 l6 l7 : Option AV) (s0 : Int32) (s2 : Int32) (s3 : Option Rf) (o z : Nat) (hd : am_rk 414 [vo (some (o, 4, z)), vi s0] < d) (h : Hp), run d 417 101 [l0, l1, l2, l3, l4, l5, l6, l7] [vi s0, vo (some (o, 4, z)), vi s2, vo s3] h = (call 414 [vo (some (o, 4, z)), vi s0] h).bind (fun z => run d 417 104 [l0, l1, l2, l3, l4, l5, l6, l7] (z.1.toList ++ [vi s2, vo s3]) z.2)) ∧
  (∀ (d : Nat) (l0 l1 l2 l3 l4 l5 l7 : Option AV) (s0 : Int32) (s1 : Int32) (s2 : Option Rf) (w : Option Rf) (h : Hp), run d 417 104 [l0, l1, l2, l3, l4, l5, some (vo w), l7] [vi s0, vi s1, vo s2] h = run d 417 106 [l0, l1, l2, l3, l4, l5, some (vo w), l7] [vo w, vi s0, vi s1, vo s2] h) ∧
  (∀ (d : Nat) (l0 l1 l2 l3 l4 l5 l6 l7 : Option AV) (s0 : Option Rf) (s1 : Int32) (s2 : Int32) (s3 : Option Rf) (hd : am_rk 901 [vi s2, vi s1, vo s0] < d) (h : Hp), run d 417 106 [l0, l1, l2, l3, l4, l5, l6, l7] [vo s0, vi s1, vi s2, vo s3] h = (call 901 [vi s2, vi s1, vo s0] h).bind (fun z => run d 417 109 [l0, l1, l2, l3, l4, l5, l6, l7] (z.1.toList ++ [vo s3]) z.2)) ∧
  (∀ (d : Nat) (l0 l1 l2 l3 l5 l6 l7 : Option AV) (s0 : Option Rf) (s1 : Option Rf) (w : Int32) (h : Hp), run d 417 109 [l0, l1, l2, l3, some (vi w), l5, l6, l7] [vo s0, vo s1] h = run d 417 111 [l0, l1, l2, l3, some (vi w), l5, l6, l7] [vi w, vo s0, vo s1] h) ∧
  (∀ (d : Nat) (l0 l1 l2 l3 l4 l5 l6 l7 : Option AV) (s0 : Int32) (s1 : Option Rf) (o z : Nat) (hd : am_rk 1003 [vo (some (o, 10, z)), vo s1, vi s0] < d) (h : Hp), run d 417 111 [l0, l1, l2, l3, l4, l5, l6, l7] [vi s0, vo s1, vo (some (o, 10, z))] h = (call 1003 [vo (some (o, 10, z)), vo s1, vi s0] h).bind (fun z => run d 417 114 [l0, l1, l2, l3, l4, l5, l6, l7] (z.1.toList ++ []) z.2)) ∧
  (∀ (d : Nat) (l0 l1 l2 l3 l4 l5 l6 l7 : Option AV) (s0 : Int32) (h : Hp), run d 417 114 [l0, l1, l2, l3, l4, l5, l6, l7] [vi s0] h = if am_isd s0 = true then some (some (vi s0), h) else none) := ⟨(fun _ _ _ _ _ _ _ _ _ _ => run_next rfl rfl),
  (fun _ _ _ _ _ _ _ _ s0 _ _ => run_next rfl rfl),
  (fun _ _ _ _ _ _ _ _ _ s0 _ _ => run_next rfl rfl),
  (fun _ _ _ _ _ _ _ _ _ s0 _ _ _ => run_next rfl rfl),
  (fun _ _ _ _ _ _ _ _ _ s0 _ _ hd _ => run_calx rfl rfl hd (Nat.le_of_ble_eq_true rfl) rfl),
  (fun _ _ _ _ _ _ _ _ s0 _ => run_next rfl rfl),
  (fun _ _ _ _ _ _ _ _ s0 _ _ => run_next rfl rfl),
  (fun _ _ _ _ _ _ _ _ s0 _ _ => run_next rfl rfl),
  (fun _ _ _ _ _ _ _ _ _ _ => run_next rfl rfl),
  (fun _ _ _ _ _ _ _ _ _ s0 _ => run_next rfl rfl),
  (fun _ _ _ _ _ _ _ _ _ s0 _ _ => run_next rfl rfl),
  (fun _ _ _ _ _ _ _ _ s0 _ => run_next rfl rfl),
  (fun _ _ _ _ _ _ _ _ s0 _ _ => run_next rfl rfl),
  (fun _ _ _ _ _ _ _ _ s0 _ _ => run_next rfl rfl),
  (fun _ _ _ _ _ _ _ _ _ _ => run_next rfl rfl),
  (fun _ _ _ _ _ _ _ _ s0 _ _ => run_next rfl rfl),
  (fun _ _ _ _ _ _ _ _ _ s0 _ _ hd _ => run_calx rfl rfl hd (Nat.le_of_ble_eq_true rfl) rfl),
  (fun _ _ _ _ _ _ _ _ _ s0 hd _ => run_calx rfl rfl hd (Nat.le_of_ble_eq_true rfl) rfl),
  (fun _ _ _ _ _ _ _ _ _ s0 _ => run_if rfl rfl (run_next rfl) (run_next rfl)),
  (fun _ _ _ _ _ _ _ _ _ _ => run_next rfl rfl),
  (fun _ _ _ _ _ _ _ _ _ s0 _ => run_next rfl rfl),
  (fun _ _ _ _ _ _ _ _ _ s0 _ _ => run_next rfl rfl),
  (fun _ _ _ _ _ _ _ _ s0 _ _ => run_next rfl rfl),
  (fun _ _ _ _ _ _ _ _ s0 _ _ _ => run_next rfl rfl),
  (fun _ _ _ _ _ _ _ _ _ s0 _ _ _ hd _ => run_calx rfl rfl hd (Nat.le_of_ble_eq_true rfl) rfl),
  (fun _ _ _ _ _ _ _ _ _ s0 _ _ => run_next rfl rfl),
  (fun _ _ _ _ _ _ _ _ s0 _ => run_next rfl rfl),
  (fun _ _ _ _ _ _ _ _ s0 _ _ => run_next rfl rfl),
  (fun _ _ _ _ _ _ _ _ s0 _ _ => run_next rfl rfl),
  (fun _ _ _ _ _ _ _ _ _ => run_next rfl rfl),
  (fun _ _ _ _ _ _ _ _ _ _ => run_next rfl rfl),
  (fun _ _ _ _ _ _ _ _ _ _ => run_next rfl rfl),
  (fun _ _ _ _ _ _ _ _ _ _ => run_next rfl rfl),
  (fun _ _ _ _ _ _ _ _ s0 _ _ => run_next rfl rfl),
  (fun _ _ _ _ _ _ _ _ s0 _ _ _ => run_next rfl rfl),
  (fun _ _ _ _ _ _ _ _ _ s0 _ _ _ => run_next rfl rfl),
  (fun _ _ _ _ _ _ _ _ _ s0 _ _ => run_next rfl rfl),
  (fun _ _ _ _ _ _ _ _ _ s0 _ => run_if rfl rfl (run_fail rfl) (run_next rfl)),
  (fun _ _ _ _ _ _ _ _ s0 _ => run_next rfl rfl),
  (fun _ _ _ _ _ _ _ _ s0 _ _ => run_next rfl rfl),
  (fun _ _ _ _ _ _ _ _ s0 _ _ => run_next rfl rfl),
  (fun _ _ _ _ _ _ _ _ _ _ => run_next rfl rfl),
  (fun _ _ _ _ _ _ _ _ s0 _ => run_next rfl rfl),
  (fun _ _ _ _ _ _ _ _ s0 _ _ => run_next rfl rfl),
  (fun _ _ _ _ _ _ _ _ s0 _ _ => run_next rfl rfl),
  (fun _ _ _ _ _ _ _ _ s0 _ _ => run_next rfl rfl),
  (fun _ _ _ _ _ _ _ _ _ _ _ _ _ => run_next rfl rfl),
  (fun _ _ _ _ _ _ _ _ _ _ _ _ _ => run_next rfl rfl),
  (fun _ _ _ _ _ _ _ _ _ _ _ _ _ => run_next rfl rfl),
  (fun _ _ _ _ _ _ _ _ _ s0 _ _ => run_if rfl rfl (run_next rfl) (run_next rfl)),
  (fun _ _ _ _ _ _ _ _ _ _ => run_next rfl rfl),
  (fun _ _ _ _ _ _ _ _ s0 _ _ => run_next rfl rfl),
  (fun _ _ _ _ _ _ _ _ s0 _ _ _ => run_next rfl rfl),
  (fun _ _ _ _ _ _ _ _ s0 _ _ _ _ => run_next rfl rfl),
  (fun _ _ _ _ _ _ _ _ s0 _ _ _ _ _ => run_next rfl rfl),
  (fun _ _ _ _ _ _ _ _ _ s0 _ _ _ _ _ => run_next rfl rfl),
  (fun _ _ _ _ _ _ _ _ _ s0 _ _ _ _ hd _ => run_calx rfl rfl hd (Nat.le_of_ble_eq_true rfl) rfl),
  (fun _ _ _ _ _ _ _ _ _ s0 _ _ _ => run_next rfl rfl),
  (fun _ _ _ _ _ _ _ _ _ s0 _ _ _ _ => run_if rfl rfl (run_fail rfl) (run_next rfl)),
  (fun _ _ _ _ _ _ _ _ _ => run_next rfl rfl),
  (fun _ _ _ _ _ _ _ _ _ _ => run_next rfl rfl),
  (fun _ _ _ _ _ _ _ _ _ _ => run_next rfl rfl),
  (fun _ _ _ _ _ _ _ _ _ _ => run_next rfl rfl),
  (fun _ _ _ _ _ _ _ _ _ _ => run_next rfl rfl),
  (fun _ _ _ _ _ _ _ _ s0 _ _ => run_next rfl rfl),
  (fun _ _ _ _ _ _ _ _ s0 _ _ _ => run_next rfl rfl),
  (fun _ _ _ _ _ _ _ _ _ s0 _ _ _ => run_next rfl rfl),
  (fun _ _ _ _ _ _ _ _ _ s0 _ _ _ _ => run_next rfl rfl),
  (fun _ _ _ _ _ _ _ _ _ s0 _ _ _ hd _ => run_calx rfl rfl hd (Nat.le_of_ble_eq_true rfl) rfl),
  (fun _ _ _ _ _ _ _ _ s0 _ _ _ => run_next rfl rfl),
  (fun _ _ _ _ _ _ _ _ s0 _ _ _ _ => run_next rfl rfl),
  (fun _ _ _ _ _ _ _ _ _ s0 _ _ _ _ => run_next rfl rfl),
  (fun _ _ _ _ _ _ _ _ _ s0 _ _ _ _ _ => run_next rfl rfl),
  (fun _ _ _ _ _ _ _ _ _ s0 _ _ _ _ hd _ => run_calx rfl rfl hd (Nat.le_of_ble_eq_true rfl) rfl),
  (fun _ _ _ _ _ _ _ _ s0 _ _ _ _ => run_next rfl rfl),
  (fun _ _ _ _ _ _ _ _ _ s0 _ _ _ hd _ => run_calx rfl rfl hd (Nat.le_of_ble_eq_true rfl) rfl),
  (fun _ _ _ _ _ _ _ _ s0 _ _ _ => run_next rfl rfl),
  (fun _ _ _ _ _ _ _ _ _ s0 _ _ _ hd _ => run_calx rfl rfl hd (Nat.le_of_ble_eq_true rfl) rfl),
  (fun _ _ _ _ _ _ _ _ _ s0 _ => run_ifz rfl rfl (by simp) (run_ret rfl) (run_fail rfl))⟩
theorem x_417_58 : (∀ (d : Nat) (l0 l1 l2 l3 l4 l5 l6 : Option AV) (w : Int32) (h : Hp), run d 417 58 [l0, l1, l2, l3, l4, l5, l6, some (vi w)] [] h = run d 417 60 [l0, l1, l2, l3, l4, l5, l6, some (vi w)] [vi w] h) := (fun _ _ _ _ _ _ _ _ _ _ => run_next rfl rfl)
theorem e_417 (v : Option Rf) (a0 : Option Rf) (a1 : Int32) (a2 : Int32) (h : Hp) : call 417 [vo v, vo a0, vi a1, vi a2] h = run 4 417 0 [some (vo v), some (vo a0), some (vi a1), some (vi a2), none, none, none, none] [] h := rfl
theorem x_418 : (∀ (d : Nat) (l1 l2 l3 : Option AV) (w : Option Rf) (h : Hp), run d 418 0 [some (vo w), l1, l2, l3] [] h = run d 418 1 [some (vo w), l1, l2, l3] [vo w] h) ∧
  (∀ (d : Nat) (l0 l1 l3 : Option AV) (s0 : Option Rf) (w : Int32) (h : Hp), run d 418 1 [l0, l1, some (vi w), l3] [vo s0] h = run d 418 2 [l0, l1, some (vi w), l3] [vi w, vo s0] h) ∧
  (∀ (d : Nat) (l0 l1 l2 l3 : Option AV) (s0 : Int32) (s1 : Option Rf) (h : Hp), run d 418 2 [l0, l1, l2, l3] [vi s0, vo s1] h = run d 418 3 [l0, l1, l2, l3] [vi (1 : Int32), vi s0, vo s1] h) ∧
  (∀ (d : Nat) (l0 l1 l2 l3 : Option AV) (s0 : Int32) (s1 : Int32) (s2 : Option Rf) (h : Hp), run d 418 3 [l0, l1, l2, l3] [vi s0, vi s1, vo s2] h = run d 418 4 [l0, l1, l2, l3] [vi (s1 + s0), vo s2] h) ∧
  (∀ (d : Nat) (l0 l1 l2 l3 : Option AV) (s0 : Int32) (o z : Nat) (hd : am_rk 414 [vo (some (o, 4, z)), vi s0] < d) (h : Hp), run d 418 4 [l0, l1, l2, l3] [vi s0, vo (some (o, 4, z))] h = (call 414 [vo (some (o, 4, z)), vi s0] h).bind (fun z => run d 418 7 [l0, l1, l2, l3] (z.1.toList ++ []) z.2)) ∧
  (∀ (d : Nat) (l0 l1 l3 : Option AV) (s0 : Int32) (h : Hp), run d 418 7 [l0, l1, none, l3] [vi s0] h = run d 418 8 [l0, l1, none, some (vi s0)] [] h) ∧
  (∀ (d : Nat) (l0 l1 l3 : Option AV) (s0 : Int32) (w1 : Int32) (h : Hp), run d 418 7 [l0, l1, some (vi w1), l3] [vi s0] h = run d 418 8 [l0, l1, some (vi w1), some (vi s0)] [] h) ∧
  (∀ (d : Nat) (l0 l1 l3 : Option AV) (s0 : Int32) (w1 : Option Rf) (h : Hp), run d 418 7 [l0, l1, some (vo w1), l3] [vi s0] h = run d 418 8 [l0, l1, some (vo w1), some (vi s0)] [] h) ∧
  (∀ (d : Nat) (l0 l1 l2 : Option AV) (w : Int32) (h : Hp), run d 418 8 [l0, l1, l2, some (vi w)] [] h = run d 418 9 [l0, l1, l2, some (vi w)] [vi w] h) ∧
  (∀ (d : Nat) (l0 l1 l2 l3 : Option AV) (s0 : Int32) (h : Hp), run d 418 9 [l0, l1, l2, l3] [vi s0] h = if s0 < 0 then run d 418 17 [l0, l1, l2, l3] [] h else run d 418 12 [l0, l1, l2, l3] [] h) ∧
  (∀ (d : Nat) (l0 l1 l2 : Option AV) (w : Int32) (h : Hp), run d 418 12 [l0, l1, l2, some (vi w)] [] h = run d 418 13 [l0, l1, l2, some (vi w)] [vi w] h) ∧
  (∀ (d : Nat) (l0 l1 l2 l3 : Option AV) (s0 : Int32) (h : Hp), run d 418 13 [l0, l1, l2, l3] [vi s0] h = run d 418 14 [l0, l1, l2, l3] [vi (3 : Int32), vi s0] h) ∧
  (∀ (d : Nat) (l0 l1 l2 l3 : Option AV) (s0 : Int32) (s1 : Int32) (h : Hp), run d 418 14 [l0, l1, l2, l3] [vi s0, vi s1] h = if s1 ≤ s0 then run d 418 19 [l0, l1, l2, l3] [] h else run d 418 17 [l0, l1, l2, l3] [] h) ∧
  (∀ (d : Nat) (l0 l1 l2 l3 : Option AV) (h : Hp), run d 418 17 [l0, l1, l2, l3] [] h = run d 418 18 [l0, l1, l2, l3] [vi (0 : Int32)] h) ∧
  (∀ (d : Nat) (l0 l1 l2 l3 : Option AV) (s0 : Int32) (h : Hp), run d 418 18 [l0, l1, l2, l3] [vi s0] h = if am_isd s0 = true then some (some (vi s0), h) else none) ∧
  (∀ (d : Nat) (l0 l2 l3 : Option AV) (w : Option Rf) (h : Hp), run d 418 19 [l0, some (vo w), l2, l3] [] h = run d 418 20 [l0, some (vo w), l2, l3] [vo w] h) ∧
  (∀ (d : Nat) (l0 l1 l2 : Option AV) (s0 : Option Rf) (w : Int32) (h : Hp), run d 418 20 [l0, l1, l2, some (vi w)] [vo s0] h = run d 418 21 [l0, l1, l2, some (vi w)] [vi w, vo s0] h) ∧
  (∀ (d : Nat) (l0 l1 l2 l3 : Option AV) (s0 : Int32) (o z : Nat) (h : Hp), run d 418 21 [l0, l1, l2, l3] [vi s0, vo (some (o, 10, z))] h = run d 418 24 [l0, l1, l2, l3] [] (hsI h o 1 s0)) ∧
  (∀ (d : Nat) (l0 l1 l2 l3 : Option AV) (h : Hp), run d 418 24 [l0, l1, l2, l3] [] h = run d 418 25 [l0, l1, l2, l3] [vi (1 : Int32)] h) ∧
  (∀ (d : Nat) (l0 l1 l2 l3 : Option AV) (s0 : Int32) (h : Hp), run d 418 25 [l0, l1, l2, l3] [vi s0] h = if am_isd s0 = true then some (some (vi s0), h) else none) := ⟨(fun _ _ _ _ _ _ => run_next rfl rfl),
  (fun _ _ _ _ s0 _ _ => run_next rfl rfl),
  (fun _ _ _ _ _ s0 _ _ => run_next rfl rfl),
  (fun _ _ _ _ _ s0 _ _ _ => run_next rfl rfl),
  (fun _ _ _ _ _ s0 _ _ hd _ => run_calx rfl rfl hd (Nat.le_of_ble_eq_true rfl) rfl),
  (fun _ _ _ _ s0 _ => run_next rfl rfl),
  (fun _ _ _ _ s0 _ _ => run_next rfl rfl),
  (fun _ _ _ _ s0 _ _ => run_next rfl rfl),
  (fun _ _ _ _ _ _ => run_next rfl rfl),
  (fun _ _ _ _ _ s0 _ => run_if rfl rfl (run_next rfl) (run_next rfl)),
  (fun _ _ _ _ _ _ => run_next rfl rfl),
  (fun _ _ _ _ _ s0 _ => run_next rfl rfl),
  (fun _ _ _ _ _ s0 _ _ => run_if rfl rfl (run_next rfl) (run_next rfl)),
  (fun _ _ _ _ _ _ => run_next rfl rfl),
  (fun _ _ _ _ _ s0 _ => run_ifz rfl rfl (by simp) (run_ret rfl) (run_fail rfl)),
  (fun _ _ _ _ _ _ => run_next rfl rfl),
  (fun _ _ _ _ s0 _ _ => run_next rfl rfl),
  (fun _ _ _ _ _ s0 _ _ _ => run_next rfl rfl),
  (fun _ _ _ _ _ _ => run_next rfl rfl),
  (fun _ _ _ _ _ s0 _ => run_ifz rfl rfl (by simp) (run_ret rfl) (run_fail rfl))⟩
theorem e_418 (v : Option Rf) (a0 : Option Rf) (a1 : Int32) (h : Hp) : call 418 [vo v, vo a0, vi a1] h = run 2 418 0 [some (vo v), some (vo a0), some (vi a1), none] [] h := rfl
