set_option maxRecDepth 20000 in
theorem x_1000 : (∀ (l1 : Option AV) (w : Option Rf) (h : Hp), run 0 1000 0 [some (vo w), l1] [] h = run 0 1000 1 [some (vo w), l1] [vo w] h) ∧
  (∀ (l0 l1 : Option AV) (w : Rf) (h : Hp), run 0 1000 1 [l0, l1] [vo (some w)] h = run 0 1000 4 [l0, l1] [] h) ∧
  (∀ (l1 : Option AV) (w : Option Rf) (h : Hp), run 0 1000 4 [some (vo w), l1] [] h = run 0 1000 5 [some (vo w), l1] [vo w] h) ∧
  (∀ (l0 : Option AV) (s0 : Option Rf) (w : Option Rf) (h : Hp), run 0 1000 5 [l0, some (vo w)] [vo s0] h = run 0 1000 6 [l0, some (vo w)] [vo w, vo s0] h) ∧
  (∀ (l0 l1 : Option AV) (s0 : Option Rf) (o z : Nat) (h : Hp), run 0 1000 6 [l0, l1] [vo s0, vo (some (o, 10, z))] h = run 0 1000 9 [l0, l1] [] (hsR h o 0 s0)) ∧
  (∀ (l1 : Option AV) (w : Option Rf) (h : Hp), run 0 1000 9 [some (vo w), l1] [] h = run 0 1000 10 [some (vo w), l1] [vo w] h) ∧
  (∀ (l0 l1 : Option AV) (s0 : Option Rf) (h : Hp), run 0 1000 10 [l0, l1] [vo s0] h = run 0 1000 11 [l0, l1] [vi (1 : Int32), vo s0] h) ∧
  (∀ (l0 l1 : Option AV) (s0 : Int32) (o z : Nat) (h : Hp), run 0 1000 11 [l0, l1] [vi s0, vo (some (o, 10, z))] h = run 0 1000 14 [l0, l1] [] (hsI h o 1 s0)) ∧
  (∀ (l1 : Option AV) (w : Option Rf) (h : Hp), run 0 1000 14 [some (vo w), l1] [] h = run 0 1000 15 [some (vo w), l1] [vo w] h) ∧
  (∀ (l0 l1 : Option AV) (s0 : Option Rf) (h : Hp), run 0 1000 15 [l0, l1] [vo s0] h = run 0 1000 16 [l0, l1] [vi (0 : Int32), vo s0] h) ∧
  (∀ (l0 l1 : Option AV) (s0 : Int32) (o z : Nat) (h : Hp), run 0 1000 16 [l0, l1] [vi s0, vo (some (o, 10, z))] h = run 0 1000 19 [l0, l1] [] (hsI h o 2 s0)) ∧
  (∀ (l1 : Option AV) (w : Option Rf) (h : Hp), run 0 1000 19 [some (vo w), l1] [] h = run 0 1000 20 [some (vo w), l1] [vo w] h) ∧
  (∀ (l0 l1 : Option AV) (s0 : Option Rf) (h : Hp), run 0 1000 20 [l0, l1] [vo s0] h = run 0 1000 21 [l0, l1] [vi (0 : Int32), vo s0] h) ∧
  (∀ (l0 l1 : Option AV) (s0 : Int32) (o z : Nat) (h : Hp), run 0 1000 21 [l0, l1] [vi s0, vo (some (o, 10, z))] h = run 0 1000 24 [l0, l1] [] (hsI h o 3 s0)) ∧
  (∀ (l1 : Option AV) (w : Option Rf) (h : Hp), run 0 1000 24 [some (vo w), l1] [] h = run 0 1000 25 [some (vo w), l1] [vo w] h) ∧
  (∀ (l0 l1 : Option AV) (s0 : Option Rf) (h : Hp), run 0 1000 25 [l0, l1] [vo s0] h = run 0 1000 26 [l0, l1] [vi (5 : Int32), vo s0] h) ∧
  (∀ (l0 l1 : Option AV) (s0 : Int32) (s1 : Option Rf) (h : Hp), run 0 1000 26 [l0, l1] [vi s0, vo s1] h = if s0 < 0 ∨ 100000 ≤ s0.toNatClampNeg then none else run 0 1000 29 [l0, l1] [vo (some (h.1.1, 14, s0.toNatClampNeg)), vo s1] (hmk h s0.toNatClampNeg)) ∧
  (∀ (l0 l1 : Option AV) (s0 : Option Rf) (o z : Nat) (h : Hp), run 0 1000 29 [l0, l1] [vo s0, vo (some (o, 10, z))] h = run 0 1000 32 [l0, l1] [] (hsR h o 4 s0)) ∧
  (∀ (l1 : Option AV) (w : Option Rf) (h : Hp), run 0 1000 32 [some (vo w), l1] [] h = run 0 1000 33 [some (vo w), l1] [vo w] h) ∧
  (∀ (l0 l1 : Option AV) (s0 : Option Rf) (h : Hp), run 0 1000 33 [l0, l1] [vo s0] h = run 0 1000 34 [l0, l1] [vi (5 : Int32), vo s0] h) ∧
  (∀ (l0 l1 : Option AV) (s0 : Int32) (s1 : Option Rf) (h : Hp), run 0 1000 34 [l0, l1] [vi s0, vo s1] h = run 0 1000 36 [l0, l1] [vi (121 : Int32), vi s0, vo s1] h) ∧
  (∀ (l0 l1 : Option AV) (s0 : Int32) (s1 : Int32) (s2 : Option Rf) (h : Hp), run 0 1000 36 [l0, l1] [vi s0, vi s1, vo s2] h = if s0 < 0 ∨ 1000 ≤ s0.toNatClampNeg ∨ s1 < 0 ∨ 1000 ≤ s1.toNatClampNeg then none else run 0 1000 40 [l0, l1] [vo (some (h.1.1, 15, s1.toNatClampNeg)), vo s2] (hmm h s1.toNatClampNeg s0.toNatClampNeg)) ∧
  (∀ (l0 l1 : Option AV) (s0 : Option Rf) (o z : Nat) (h : Hp), run 0 1000 40 [l0, l1] [vo s0, vo (some (o, 10, z))] h = run 0 1000 43 [l0, l1] [] (hsR h o 5 s0)) ∧
  (∀ (l0 l1 : Option AV) (h : Hp), run 0 1000 43 [l0, l1] [] h = some (none, h)) := ⟨(fun _ _ _ => run_next rfl rfl),
  (fun _ _ _ _ => run_next rfl rfl),
  (fun _ _ _ => run_next rfl rfl),
  (fun _ s0 _ _ => run_next rfl rfl),
  (fun _ _ s0 _ _ _ => run_next rfl rfl),
  (fun _ _ _ => run_next rfl rfl),
  (fun _ _ s0 _ => run_next rfl rfl),
  (fun _ _ s0 _ _ _ => run_next rfl rfl),
  (fun _ _ _ => run_next rfl rfl),
  (fun _ _ s0 _ => run_next rfl rfl),
  (fun _ _ s0 _ _ _ => run_next rfl rfl),
  (fun _ _ _ => run_next rfl rfl),
  (fun _ _ s0 _ => run_next rfl rfl),
  (fun _ _ s0 _ _ _ => run_next rfl rfl),
  (fun _ _ _ => run_next rfl rfl),
  (fun _ _ s0 _ => run_next rfl rfl),
  (fun _ _ s0 _ _ => run_if rfl rfl (run_fail rfl) (run_next rfl)),
  (fun _ _ s0 _ _ _ => run_next rfl rfl),
  (fun _ _ _ => run_next rfl rfl),
  (fun _ _ s0 _ => run_next rfl rfl),
  (fun _ _ s0 _ _ => run_next rfl rfl),
  (fun _ _ s0 _ _ _ => run_if rfl rfl (run_fail rfl) (run_next rfl)),
  (fun _ _ s0 _ _ _ => run_next rfl rfl),
  (fun _ _ _ => run_ret rfl rfl)⟩
theorem e_1000 (v : Option Rf) (a0 : Option Rf) (h : Hp) : call 1000 [vo v, vo a0] h = run 0 1000 0 [some (vo v), some (vo a0)] [] h := rfl
set_option maxRecDepth 20000 in
theorem x_1001 : (∀ (l1 l2 : Option AV) (w : Option Rf) (h : Hp), run 0 1001 0 [some (vo w), l1, l2] [] h = run 0 1001 1 [some (vo w), l1, l2] [vo w] h) ∧
  (∀ (l0 l2 : Option AV) (s0 : Option Rf) (w : Option Rf) (h : Hp), run 0 1001 1 [l0, some (vo w), l2] [vo s0] h = run 0 1001 2 [l0, some (vo w), l2] [vo w, vo s0] h) ∧
  (∀ (l0 l1 l2 : Option AV) (s1 : Option Rf) (o z : Nat) (h : Hp), run 0 1001 2 [l0, l1, l2] [vo (some (o, 10, z)), vo s1] h = run 0 1001 5 [l0, l1, l2] [vo (hR h o 0), vo s1] h) ∧
  (∀ (l0 l1 l2 : Option AV) (s0 : Option Rf) (o z : Nat) (h : Hp), run 0 1001 5 [l0, l1, l2] [vo s0, vo (some (o, 10, z))] h = run 0 1001 8 [l0, l1, l2] [] (hsR h o 0 s0)) ∧
  (∀ (l1 l2 : Option AV) (w : Option Rf) (h : Hp), run 0 1001 8 [some (vo w), l1, l2] [] h = run 0 1001 9 [some (vo w), l1, l2] [vo w] h) ∧
  (∀ (l0 l2 : Option AV) (s0 : Option Rf) (w : Option Rf) (h : Hp), run 0 1001 9 [l0, some (vo w), l2] [vo s0] h = run 0 1001 10 [l0, some (vo w), l2] [vo w, vo s0] h) ∧
  (∀ (l0 l1 l2 : Option AV) (s1 : Option Rf) (o z : Nat) (h : Hp), run 0 1001 10 [l0, l1, l2] [vo (some (o, 10, z)), vo s1] h = run 0 1001 13 [l0, l1, l2] [vi (hI h o 1), vo s1] h) ∧
  (∀ (l0 l1 l2 : Option AV) (s0 : Int32) (o z : Nat) (h : Hp), run 0 1001 13 [l0, l1, l2] [vi s0, vo (some (o, 10, z))] h = run 0 1001 16 [l0, l1, l2] [] (hsI h o 1 s0)) ∧
  (∀ (l1 l2 : Option AV) (w : Option Rf) (h : Hp), run 0 1001 16 [some (vo w), l1, l2] [] h = run 0 1001 17 [some (vo w), l1, l2] [vo w] h) ∧
  (∀ (l0 l2 : Option AV) (s0 : Option Rf) (w : Option Rf) (h : Hp), run 0 1001 17 [l0, some (vo w), l2] [vo s0] h = run 0 1001 18 [l0, some (vo w), l2] [vo w, vo s0] h) ∧
  (∀ (l0 l1 l2 : Option AV) (s1 : Option Rf) (o z : Nat) (h : Hp), run 0 1001 18 [l0, l1, l2] [vo (some (o, 10, z)), vo s1] h = run 0 1001 21 [l0, l1, l2] [vi (hI h o 2), vo s1] h) ∧
  (∀ (l0 l1 l2 : Option AV) (s0 : Int32) (o z : Nat) (h : Hp), run 0 1001 21 [l0, l1, l2] [vi s0, vo (some (o, 10, z))] h = run 0 1001 24 [l0, l1, l2] [] (hsI h o 2 s0)) ∧
  (∀ (l1 l2 : Option AV) (w : Option Rf) (h : Hp), run 0 1001 24 [some (vo w), l1, l2] [] h = run 0 1001 25 [some (vo w), l1, l2] [vo w] h) ∧
  (∀ (l0 l2 : Option AV) (s0 : Option Rf) (w : Option Rf) (h : Hp), run 0 1001 25 [l0, some (vo w), l2] [vo s0] h = run 0 1001 26 [l0, some (vo w), l2] [vo w, vo s0] h) ∧
  (∀ (l0 l1 l2 : Option AV) (s1 : Option Rf) (o z : Nat) (h : Hp), run 0 1001 26 [l0, l1, l2] [vo (some (o, 10, z)), vo s1] h = run 0 1001 29 [l0, l1, l2] [vi (hI h o 3), vo s1] h) ∧
  (∀ (l0 l1 l2 : Option AV) (s0 : Int32) (o z : Nat) (h : Hp), run 0 1001 29 [l0, l1, l2] [vi s0, vo (some (o, 10, z))] h = run 0 1001 32 [l0, l1, l2] [] (hsI h o 3 s0)) ∧
  (∀ (l0 l1 l2 : Option AV) (h : Hp), run 0 1001 32 [l0, l1, l2] [] h = run 0 1001 33 [l0, l1, l2] [vi (0 : Int32)] h) ∧
  (∀ (l0 l2 : Option AV) (s0 : Int32) (h : Hp), run 0 1001 33 [l0, none, l2] [vi s0] h = run 0 1001 34 [l0, none, some (vi s0)] [] h) ∧
  (∀ (l0 l2 : Option AV) (s0 : Int32) (w1 : Int32) (h : Hp), run 0 1001 33 [l0, some (vi w1), l2] [vi s0] h = run 0 1001 34 [l0, some (vi w1), some (vi s0)] [] h) ∧
  (∀ (l0 l2 : Option AV) (s0 : Int32) (w1 : Option Rf) (h : Hp), run 0 1001 33 [l0, some (vo w1), l2] [vi s0] h = run 0 1001 34 [l0, some (vo w1), some (vi s0)] [] h) ∧
  (∀ (l0 l1 l2 : Option AV) (s0 : Int32) (h : Hp), run 0 1001 35 [l0, l1, l2] [vi s0] h = run 0 1001 36 [l0, l1, l2] [vi (5 : Int32), vi s0] h) ∧
  (∀ (l0 l1 l2 : Option AV) (s0 : Int32) (s1 : Int32) (h : Hp), run 0 1001 36 [l0, l1, l2] [vi s0, vi s1] h = if s0 ≤ s1 then run 0 1001 76 [l0, l1, l2] [] h else run 0 1001 39 [l0, l1, l2] [] h) ∧
  (∀ (l1 l2 : Option AV) (w : Option Rf) (h : Hp), run 0 1001 39 [some (vo w), l1, l2] [] h = run 0 1001 40 [some (vo w), l1, l2] [vo w] h) ∧
  (∀ (l0 l1 l2 : Option AV) (o z : Nat) (h : Hp), run 0 1001 40 [l0, l1, l2] [vo (some (o, 10, z))] h = run 0 1001 43 [l0, l1, l2] [vo (hR h o 4)] h) ∧
  (∀ (l0 l1 : Option AV) (s0 : Option Rf) (w : Int32) (h : Hp), run 0 1001 43 [l0, l1, some (vi w)] [vo s0] h = run 0 1001 44 [l0, l1, some (vi w)] [vi w, vo s0] h) ∧
  (∀ (l0 l2 : Option AV) (s0 : Int32) (s1 : Option Rf) (w : Option Rf) (h : Hp), run 0 1001 44 [l0, some (vo w), l2] [vi s0, vo s1] h = run 0 1001 45 [l0, some (vo w), l2] [vo w, vi s0, vo s1] h) ∧
  (∀ (l0 l1 l2 : Option AV) (s1 : Int32) (s2 : Option Rf) (o z : Nat) (h : Hp), run 0 1001 45 [l0, l1, l2] [vo (some (o, 10, z)), vi s1, vo s2] h = run 0 1001 48 [l0, l1, l2] [vo (hR h o 4), vi s1, vo s2] h) ∧
  (∀ (l0 l1 : Option AV) (s0 : Option Rf) (s1 : Int32) (s2 : Option Rf) (w : Int32) (h : Hp), run 0 1001 48 [l0, l1, some (vi w)] [vo s0, vi s1, vo s2] h = run 0 1001 49 [l0, l1, some (vi w)] [vi w, vo s0, vi s1, vo s2] h) ∧
  (∀ (l0 l1 l2 : Option AV) (s0 : Int32) (s2 : Int32) (s3 : Option Rf) (o z : Nat) (h : Hp), run 0 1001 49 [l0, l1, l2] [vi s0, vo (some (o, 14, z)), vi s2, vo s3] h = if s0 < 0 ∨ z ≤ s0.toNatClampNeg then none else run 0 1001 50 [l0, l1, l2] [vo (hR h o s0.toNatClampNeg), vi s2, vo s3] h) ∧
  (∀ (l0 l1 l2 : Option AV) (s0 : Int32) (s2 : Int32) (s3 : Option Rf) (o z : Nat) (h : Hp), run 0 1001 49 [l0, l1, l2] [vi s0, vo (some (o, 15, z)), vi s2, vo s3] h = if s0 < 0 ∨ z ≤ s0.toNatClampNeg then none else run 0 1001 50 [l0, l1, l2] [vo (hR h o s0.toNatClampNeg), vi s2, vo s3] h) ∧
  (∀ (l0 l1 l2 : Option AV) (s1 : Int32) (o z : Nat) (h : Hp), run 0 1001 50 [l0, l1, l2] [vo none, vi s1, vo (some (o, 14, z))] h = if s1 < 0 ∨ z ≤ s1.toNatClampNeg then none else run 0 1001 51 [l0, l1, l2] [] (hsR h o s1.toNatClampNeg none)) ∧
  (∀ (l0 l1 l2 : Option AV) (s1 : Int32) (o z x k y : Nat) (h : Hp), run 0 1001 50 [l0, l1, l2] [vo (some (x, k, y)), vi s1, vo (some (o, 14, z))] h = if s1 < 0 ∨ z ≤ s1.toNatClampNeg ∨ am_sub k 9 = false then none else run 0 1001 51 [l0, l1, l2] [] (hsR h o s1.toNatClampNeg (some (x, k, y)))) ∧
  (∀ (l0 l2 : Option AV) (w : Option Rf) (h : Hp), run 0 1001 51 [l0, some (vo w), l2] [] h = run 0 1001 52 [l0, some (vo w), l2] [vo w] h) ∧
  (∀ (l0 l1 l2 : Option AV) (o z : Nat) (h : Hp), run 0 1001 52 [l0, l1, l2] [vo (some (o, 10, z))] h = run 0 1001 55 [l0, l1, l2] [vo (hR h o 5)] h) ∧
  (∀ (l0 l1 : Option AV) (s0 : Option Rf) (w : Int32) (h : Hp), run 0 1001 55 [l0, l1, some (vi w)] [vo s0] h = run 0 1001 56 [l0, l1, some (vi w)] [vi w, vo s0] h) ∧
  (∀ (l0 l1 l2 : Option AV) (s0 : Int32) (o z : Nat) (h : Hp), run 0 1001 56 [l0, l1, l2] [vi s0, vo (some (o, 14, z))] h = if s0 < 0 ∨ z ≤ s0.toNatClampNeg then none else run 0 1001 57 [l0, l1, l2] [vo (hR h o s0.toNatClampNeg)] h) ∧
  (∀ (l0 l1 l2 : Option AV) (s0 : Int32) (o z : Nat) (h : Hp), run 0 1001 56 [l0, l1, l2] [vi s0, vo (some (o, 15, z))] h = if s0 < 0 ∨ z ≤ s0.toNatClampNeg then none else run 0 1001 57 [l0, l1, l2] [vo (hR h o s0.toNatClampNeg)] h) ∧
  (∀ (l0 l1 l2 : Option AV) (s0 : Option Rf) (h : Hp), run 0 1001 57 [l0, l1, l2] [vo s0] h = run 0 1001 58 [l0, l1, l2] [vi (0 : Int32), vo s0] h) ∧
  (∀ (l1 l2 : Option AV) (s0 : Int32) (s1 : Option Rf) (w : Option Rf) (h : Hp), run 0 1001 58 [some (vo w), l1, l2] [vi s0, vo s1] h = run 0 1001 59 [some (vo w), l1, l2] [vo w, vi s0, vo s1] h) ∧
  (∀ (l0 l1 l2 : Option AV) (s1 : Int32) (s2 : Option Rf) (o z : Nat) (h : Hp), run 0 1001 59 [l0, l1, l2] [vo (some (o, 10, z)), vi s1, vo s2] h = run 0 1001 62 [l0, l1, l2] [vo (hR h o 5), vi s1, vo s2] h) ∧
  (∀ (l0 l1 : Option AV) (s0 : Option Rf) (s1 : Int32) (s2 : Option Rf) (w : Int32) (h : Hp), run 0 1001 62 [l0, l1, some (vi w)] [vo s0, vi s1, vo s2] h = run 0 1001 63 [l0, l1, some (vi w)] [vi w, vo s0, vi s1, vo s2] h) ∧
  (∀ (l0 l1 l2 : Option AV) (s0 : Int32) (s2 : Int32) (s3 : Option Rf) (o z : Nat) (h : Hp), run 0 1001 63 [l0, l1, l2] [vi s0, vo (some (o, 14, z)), vi s2, vo s3] h = if s0 < 0 ∨ z ≤ s0.toNatClampNeg then none else run 0 1001 64 [l0, l1, l2] [vo (hR h o s0.toNatClampNeg), vi s2, vo s3] h) ∧
  (∀ (l0 l1 l2 : Option AV) (s0 : Int32) (s2 : Int32) (s3 : Option Rf) (o z : Nat) (h : Hp), run 0 1001 63 [l0, l1, l2] [vi s0, vo (some (o, 15, z)), vi s2, vo s3] h = if s0 < 0 ∨ z ≤ s0.toNatClampNeg then none else run 0 1001 64 [l0, l1, l2] [vo (hR h o s0.toNatClampNeg), vi s2, vo s3] h) ∧
  (∀ (l0 l1 l2 : Option AV) (s0 : Option Rf) (s1 : Int32) (s2 : Option Rf) (h : Hp), run 0 1001 64 [l0, l1, l2] [vo s0, vi s1, vo s2] h = run 0 1001 65 [l0, l1, l2] [vi (0 : Int32), vo s0, vi s1, vo s2] h) ∧
  (∀ (l0 l1 l2 : Option AV) (s0 : Int32) (s1 : Option Rf) (s2 : Int32) (s3 : Option Rf) (h : Hp), run 0 1001 65 [l0, l1, l2] [vi s0, vo s1, vi s2, vo s3] h = run 0 1001 67 [l0, l1, l2] [vi (61 : Int32), vi s0, vo s1, vi s2, vo s3] h) ∧
  (∀ (l0 l1 l2 : Option AV) (s0 : Int32) (s1 : Int32) (s3 : Int32) (o1 n1 o0 n0 : Nat) (h : Hp), run 0 1001 67 [l0, l1, l2] [vi s0, vi s1, vo (some (o1, 13, n1)), vi s3, vo (some (o0, 13, n0))] h = if s3 < 0 ∨ s1 < 0 ∨ s0 < 0 ∨ n0 < s3.toNatClampNeg + s0.toNatClampNeg ∨ n1 < s1.toNatClampNeg + s0.toNatClampNeg then none else run 0 1001 70 [l0, l1, l2] [] (hcp h o0 s3.toNatClampNeg o1 s1.toNatClampNeg s0.toNatClampNeg)) ∧
  (∀ (l0 : Option AV) (w : Int32) (h : Hp), run 0 1001 70 [l0, none, some (vi w)] [] h = run 0 1001 73 [l0, none, some (vi (w + (1 : Int32)))] [] h) ∧
  (∀ (l0 : Option AV) (w1 : Int32) (w : Int32) (h : Hp), run 0 1001 70 [l0, some (vi w1), some (vi w)] [] h = run 0 1001 73 [l0, some (vi w1), some (vi (w + (1 : Int32)))] [] h) ∧
  (∀ (l0 : Option AV) (w1 : Option Rf) (w : Int32) (h : Hp), run 0 1001 70 [l0, some (vo w1), some (vi w)] [] h = run 0 1001 73 [l0, some (vo w1), some (vi (w + (1 : Int32)))] [] h) ∧
  (∀ (l0 l1 l2 : Option AV) (h : Hp), run 0 1001 73 [l0, l1, l2] [] h = run 0 1001 34 [l0, l1, l2] [] h) ∧
  (∀ (l0 l1 l2 : Option AV) (h : Hp), run 0 1001 76 [l0, l1, l2] [] h = some (none, h)) := ⟨(fun _ _ _ _ => run_next rfl rfl),
  (fun _ _ s0 _ _ => run_next rfl rfl),
  (fun _ _ _ _ _ _ _ => run_next rfl rfl),
  (fun _ _ _ s0 _ _ _ => run_next rfl rfl),
  (fun _ _ _ _ => run_next rfl rfl),
  (fun _ _ s0 _ _ => run_next rfl rfl),
  (fun _ _ _ _ _ _ _ => run_next rfl rfl),
  (fun _ _ _ s0 _ _ _ => run_next rfl rfl),
  (fun _ _ _ _ => run_next rfl rfl),
  (fun _ _ s0 _ _ => run_next rfl rfl),
  (fun _ _ _ _ _ _ _ => run_next rfl rfl),
  (fun _ _ _ s0 _ _ _ => run_next rfl rfl),
  (fun _ _ _ _ => run_next rfl rfl),
  (fun _ _ s0 _ _ => run_next rfl rfl),
  (fun _ _ _ _ _ _ _ => run_next rfl rfl),
  (fun _ _ _ s0 _ _ _ => run_next rfl rfl),
  (fun _ _ _ _ => run_next rfl rfl),
  (fun _ _ s0 _ => run_next rfl rfl),
  (fun _ _ s0 _ _ => run_next rfl rfl),
  (fun _ _ s0 _ _ => run_next rfl rfl),
  (fun _ _ _ s0 _ => run_next rfl rfl),
  (fun _ _ _ s0 _ _ => run_if rfl rfl (run_next rfl) (run_next rfl)),
  (fun _ _ _ _ => run_next rfl rfl),
  (fun _ _ _ _ _ _ => run_next rfl rfl),
  (fun _ _ s0 _ _ => run_next rfl rfl),
  (fun _ _ s0 _ _ _ => run_next rfl rfl),
  (fun _ _ _ _ _ _ _ _ => run_next rfl rfl),
  (fun _ _ s0 _ _ _ _ => run_next rfl rfl),
  (fun _ _ _ s0 _ _ _ _ _ => run_if rfl rfl (run_fail rfl) (run_next rfl)),
  (fun _ _ _ s0 _ _ _ _ _ => run_if rfl rfl (run_fail rfl) (run_next rfl)),
  (fun _ _ _ _ _ _ _ => run_if rfl rfl (run_fail rfl) (run_next rfl)),
  (fun _ _ _ _ _ _ _ _ _ _ => run_if rfl rfl (run_fail rfl) (run_next rfl)),
  (fun _ _ _ _ => run_next rfl rfl),
  (fun _ _ _ _ _ _ => run_next rfl rfl),
  (fun _ _ s0 _ _ => run_next rfl rfl),
  (fun _ _ _ s0 _ _ _ => run_if rfl rfl (run_fail rfl) (run_next rfl)),
  (fun _ _ _ s0 _ _ _ => run_if rfl rfl (run_fail rfl) (run_next rfl)),
  (fun _ _ _ s0 _ => run_next rfl rfl),
  (fun _ _ s0 _ _ _ => run_next rfl rfl),
  (fun _ _ _ _ _ _ _ _ => run_next rfl rfl),
  (fun _ _ s0 _ _ _ _ => run_next rfl rfl),
  (fun _ _ _ s0 _ _ _ _ _ => run_if rfl rfl (run_fail rfl) (run_next rfl)),
  (fun _ _ _ s0 _ _ _ _ _ => run_if rfl rfl (run_fail rfl) (run_next rfl)),
  (fun _ _ _ s0 _ _ _ => run_next rfl rfl),
  (fun _ _ _ s0 _ _ _ _ => run_next rfl rfl),
  (fun _ _ _ s0 _ _ _ _ _ _ _ => run_ifc rfl rfl (by simp) (run_fail rfl) (run_next rfl)),
  (fun _ _ _ => run_next rfl rfl),
  (fun _ _ _ _ => run_next rfl rfl),
  (fun _ _ _ _ => run_next rfl rfl),
  (fun _ _ _ _ => run_next rfl rfl),
  (fun _ _ _ _ => run_ret rfl rfl)⟩
set_option maxRecDepth 20000 in
theorem x_1001_34 : (∀ (l0 l1 : Option AV) (w : Int32) (h : Hp), run 0 1001 34 [l0, l1, some (vi w)] [] h = run 0 1001 35 [l0, l1, some (vi w)] [vi w] h) := (fun _ _ _ _ => run_next rfl rfl)
theorem e_1001 (v : Option Rf) (a0 : Option Rf) (h : Hp) : call 1001 [vo v, vo a0] h = run 0 1001 0 [some (vo v), some (vo a0), none] [] h := rfl
set_option maxRecDepth 20000 in
theorem x_1002 : (∀ (l1 : Option AV) (w : Option Rf) (h : Hp), run 0 1002 0 [some (vo w), l1] [] h = run 0 1002 1 [some (vo w), l1] [vo w] h) ∧
  (∀ (l0 : Option AV) (s0 : Option Rf) (w : Option Rf) (h : Hp), run 0 1002 1 [l0, some (vo w)] [vo s0] h = run 0 1002 2 [l0, some (vo w)] [vo w, vo s0] h) ∧
  (∀ (l0 l1 : Option AV) (s0 : Option Rf) (o z : Nat) (h : Hp), run 0 1002 2 [l0, l1] [vo s0, vo (some (o, 10, z))] h = run 0 1002 5 [l0, l1] [] (hsR h o 0 s0)) ∧
  (∀ (l1 : Option AV) (w : Option Rf) (h : Hp), run 0 1002 5 [some (vo w), l1] [] h = run 0 1002 6 [some (vo w), l1] [vo w] h) ∧
  (∀ (l0 l1 : Option AV) (s0 : Option Rf) (h : Hp), run 0 1002 6 [l0, l1] [vo s0] h = run 0 1002 7 [l0, l1] [vi (0 : Int32), vo s0] h) ∧
  (∀ (l0 l1 : Option AV) (s0 : Int32) (o z : Nat) (h : Hp), run 0 1002 7 [l0, l1] [vi s0, vo (some (o, 10, z))] h = run 0 1002 10 [l0, l1] [] (hsI h o 2 s0)) ∧
  (∀ (l1 : Option AV) (w : Option Rf) (h : Hp), run 0 1002 10 [some (vo w), l1] [] h = run 0 1002 11 [some (vo w), l1] [vo w] h) ∧
  (∀ (l0 l1 : Option AV) (s0 : Option Rf) (h : Hp), run 0 1002 11 [l0, l1] [vo s0] h = run 0 1002 12 [l0, l1] [vi (0 : Int32), vo s0] h) ∧
  (∀ (l0 l1 : Option AV) (s0 : Int32) (o z : Nat) (h : Hp), run 0 1002 12 [l0, l1] [vi s0, vo (some (o, 10, z))] h = run 0 1002 15 [l0, l1] [] (hsI h o 3 s0)) ∧
  (∀ (l0 l1 : Option AV) (h : Hp), run 0 1002 15 [l0, l1] [] h = some (none, h)) := ⟨(fun _ _ _ => run_next rfl rfl),
  (fun _ s0 _ _ => run_next rfl rfl),
  (fun _ _ s0 _ _ _ => run_next rfl rfl),
  (fun _ _ _ => run_next rfl rfl),
  (fun _ _ s0 _ => run_next rfl rfl),
  (fun _ _ s0 _ _ _ => run_next rfl rfl),
  (fun _ _ _ => run_next rfl rfl),
  (fun _ _ s0 _ => run_next rfl rfl),
  (fun _ _ s0 _ _ _ => run_next rfl rfl),
  (fun _ _ _ => run_ret rfl rfl)⟩
theorem e_1002 (v : Option Rf) (a0 : Option Rf) (h : Hp) : call 1002 [vo v, vo a0] h = run 0 1002 0 [some (vo v), some (vo a0)] [] h := rfl
set_option maxRecDepth 20000 in
theorem x_1003 : (∀ (l0 l2 : Option AV) (w : Option Rf) (h : Hp), run 1 1003 0 [l0, some (vo w), l2] [] h = run 1 1003 1 [l0, some (vo w), l2] [vo w] h) ∧
  (∀ (l0 l1 l2 : Option AV) (h : Hp), run 1 1003 1 [l0, l1, l2] [vo none] h = run 1 1003 23 [l0, l1, l2] [] h) ∧
  (∀ (l0 l1 l2 : Option AV) (w : Rf) (h : Hp), run 1 1003 1 [l0, l1, l2] [vo (some w)] h = run 1 1003 4 [l0, l1, l2] [] h) ∧
  (∀ (l1 l2 : Option AV) (w : Option Rf) (h : Hp), run 1 1003 4 [some (vo w), l1, l2] [] h = run 1 1003 5 [some (vo w), l1, l2] [vo w] h) ∧
  (∀ (l0 l1 l2 : Option AV) (o z : Nat) (h : Hp), run 1 1003 5 [l0, l1, l2] [vo (some (o, 10, z))] h = run 1 1003 8 [l0, l1, l2] [vi (hI h o 3)] h) ∧
  (∀ (l0 l1 l2 : Option AV) (s0 : Int32) (h : Hp), run 1 1003 8 [l0, l1, l2] [vi s0] h = run 1 1003 9 [l0, l1, l2] [vi (5 : Int32), vi s0] h) ∧
  (∀ (l0 l1 l2 : Option AV) (s0 : Int32) (s1 : Int32) (h : Hp), run 1 1003 9 [l0, l1, l2] [vi s0, vi s1] h = if s0 ≤ s1 then run 1 1003 23 [l0, l1, l2] [] h else run 1 1003 12 [l0, l1, l2] [] h) ∧
  (∀ (l1 l2 : Option AV) (w : Option Rf) (h : Hp), run 1 1003 12 [some (vo w), l1, l2] [] h = run 1 1003 13 [some (vo w), l1, l2] [vo w] h) ∧
  (∀ (l0 l1 l2 : Option AV) (o z : Nat) (h : Hp), run 1 1003 13 [l0, l1, l2] [vo (some (o, 10, z))] h = run 1 1003 16 [l0, l1, l2] [vo (hR h o 0)] h) ∧
  (∀ (l0 l1 : Option AV) (s0 : Option Rf) (w : Int32) (h : Hp), run 1 1003 16 [l0, l1, some (vi w)] [vo s0] h = run 1 1003 17 [l0, l1, some (vi w)] [vi w, vo s0] h) ∧
  (∀ (l0 l1 l2 : Option AV) (s0 : Int32) (o z : Nat) (h : Hp), run 1 1003 17 [l0, l1, l2] [vi s0, vo (some (o, 5, z))] h = (call 504 [vo (some (o, 5, z)), vi s0] h).bind (fun z => run 1 1003 20 [l0, l1, l2] (z.1.toList ++ []) z.2)) ∧
  (∀ (l0 l1 l2 : Option AV) (s0 : Int32) (h : Hp), run 1 1003 20 [l0, l1, l2] [vi s0] h = if s0 = 0 then run 1 1003 23 [l0, l1, l2] [] h else run 1 1003 25 [l0, l1, l2] [] h) ∧
  (∀ (l0 l1 l2 : Option AV) (h : Hp), run 1 1003 23 [l0, l1, l2] [] h = run 1 1003 24 [l0, l1, l2] [vi (0 : Int32)] h) ∧
  (∀ (l0 l1 l2 : Option AV) (s0 : Int32) (h : Hp), run 1 1003 24 [l0, l1, l2] [vi s0] h = if am_isd s0 = true then some (some (vi s0), h) else none) ∧
  (∀ (l1 l2 : Option AV) (w : Option Rf) (h : Hp), run 1 1003 25 [some (vo w), l1, l2] [] h = run 1 1003 26 [some (vo w), l1, l2] [vo w] h) ∧
  (∀ (l0 l1 l2 : Option AV) (o z : Nat) (h : Hp), run 1 1003 26 [l0, l1, l2] [vo (some (o, 10, z))] h = run 1 1003 29 [l0, l1, l2] [vo (hR h o 4)] h) ∧
  (∀ (l1 l2 : Option AV) (s0 : Option Rf) (w : Option Rf) (h : Hp), run 1 1003 29 [some (vo w), l1, l2] [vo s0] h = run 1 1003 30 [some (vo w), l1, l2] [vo w, vo s0] h) ∧
  (∀ (l0 l1 l2 : Option AV) (s1 : Option Rf) (o z : Nat) (h : Hp), run 1 1003 30 [l0, l1, l2] [vo (some (o, 10, z)), vo s1] h = run 1 1003 33 [l0, l1, l2] [vi (hI h o 3), vo s1] h) ∧
  (∀ (l0 l2 : Option AV) (s0 : Int32) (s1 : Option Rf) (w : Option Rf) (h : Hp), run 1 1003 33 [l0, some (vo w), l2] [vi s0, vo s1] h = run 1 1003 34 [l0, some (vo w), l2] [vo w, vi s0, vo s1] h) ∧
  (∀ (l0 l1 l2 : Option AV) (s1 : Int32) (o z : Nat) (h : Hp), run 1 1003 34 [l0, l1, l2] [vo none, vi s1, vo (some (o, 14, z))] h = if s1 < 0 ∨ z ≤ s1.toNatClampNeg then none else run 1 1003 35 [l0, l1, l2] [] (hsR h o s1.toNatClampNeg none)) ∧
  (∀ (l0 l1 l2 : Option AV) (s1 : Int32) (o z x k y : Nat) (h : Hp), run 1 1003 34 [l0, l1, l2] [vo (some (x, k, y)), vi s1, vo (some (o, 14, z))] h = if s1 < 0 ∨ z ≤ s1.toNatClampNeg ∨ am_sub k 9 = false then none else run 1 1003 35 [l0, l1, l2] [] (hsR h o s1.toNatClampNeg (some (x, k, y)))) ∧
  (∀ (l1 l2 : Option AV) (w : Option Rf) (h : Hp), run 1 1003 35 [some (vo w), l1, l2] [] h = run 1 1003 36 [some (vo w), l1, l2] [vo w] h) ∧
  (∀ (l0 l1 l2 : Option AV) (o z : Nat) (h : Hp), run 1 1003 36 [l0, l1, l2] [vo (some (o, 10, z))] h = run 1 1003 39 [l0, l1, l2] [vo (hR h o 5)] h) ∧
  (∀ (l1 l2 : Option AV) (s0 : Option Rf) (w : Option Rf) (h : Hp), run 1 1003 39 [some (vo w), l1, l2] [vo s0] h = run 1 1003 40 [some (vo w), l1, l2] [vo w, vo s0] h) ∧
  (∀ (l0 l1 l2 : Option AV) (s1 : Option Rf) (o z : Nat) (h : Hp), run 1 1003 40 [l0, l1, l2] [vo (some (o, 10, z)), vo s1] h = run 1 1003 43 [l0, l1, l2] [vi (hI h o 3), vo s1] h) ∧
  (∀ (l0 l1 l2 : Option AV) (s0 : Int32) (o z : Nat) (h : Hp), run 1 1003 43 [l0, l1, l2] [vi s0, vo (some (o, 14, z))] h = if s0 < 0 ∨ z ≤ s0.toNatClampNeg then none else run 1 1003 44 [l0, l1, l2] [vo (hR h o s0.toNatClampNeg)] h) ∧
  (∀ (l0 l1 l2 : Option AV) (s0 : Int32) (o z : Nat) (h : Hp), run 1 1003 43 [l0, l1, l2] [vi s0, vo (some (o, 15, z))] h = if s0 < 0 ∨ z ≤ s0.toNatClampNeg then none else run 1 1003 44 [l0, l1, l2] [vo (hR h o s0.toNatClampNeg)] h) ∧
  (∀ (l0 l1 : Option AV) (s0 : Option Rf) (w : Int32) (h : Hp), run 1 1003 44 [l0, l1, some (vi w)] [vo s0] h = run 1 1003 45 [l0, l1, some (vi w)] [vi w, vo s0] h) ∧
  (∀ (l0 l1 l2 : Option AV) (s0 : Int32) (s1 : Option Rf) (h : Hp), run 1 1003 45 [l0, l1, l2] [vi s0, vo s1] h = (call 1400 [vo s1, vi s0] h).bind (fun z => run 1 1003 48 [l0, l1, l2] (z.1.toList ++ []) z.2)) ∧
  (∀ (l1 l2 : Option AV) (w : Option Rf) (h : Hp), run 1 1003 48 [some (vo w), l1, l2] [] h = run 1 1003 49 [some (vo w), l1, l2] [vo w] h) ∧
  (∀ (l0 l1 l2 : Option AV) (s0 : Option Rf) (h : Hp), run 1 1003 49 [l0, l1, l2] [vo s0] h = run 1 1003 50 [l0, l1, l2] [vo s0, vo s0] h) ∧
  (∀ (l0 l1 l2 : Option AV) (s1 : Option Rf) (o z : Nat) (h : Hp), run 1 1003 50 [l0, l1, l2] [vo (some (o, 10, z)), vo s1] h = run 1 1003 53 [l0, l1, l2] [vi (hI h o 3), vo s1] h) ∧
  (∀ (l0 l1 l2 : Option AV) (s0 : Int32) (s1 : Option Rf) (h : Hp), run 1 1003 53 [l0, l1, l2] [vi s0, vo s1] h = run 1 1003 54 [l0, l1, l2] [vi (1 : Int32), vi s0, vo s1] h) ∧
  (∀ (l0 l1 l2 : Option AV) (s0 : Int32) (s1 : Int32) (s2 : Option Rf) (h : Hp), run 1 1003 54 [l0, l1, l2] [vi s0, vi s1, vo s2] h = run 1 1003 55 [l0, l1, l2] [vi (s1 + s0), vo s2] h) ∧
  (∀ (l0 l1 l2 : Option AV) (s0 : Int32) (o z : Nat) (h : Hp), run 1 1003 55 [l0, l1, l2] [vi s0, vo (some (o, 10, z))] h = run 1 1003 58 [l0, l1, l2] [] (hsI h o 3 s0)) ∧
  (∀ (l0 l1 l2 : Option AV) (h : Hp), run 1 1003 58 [l0, l1, l2] [] h = run 1 1003 59 [l0, l1, l2] [vi (1 : Int32)] h) ∧
  (∀ (l0 l1 l2 : Option AV) (s0 : Int32) (h : Hp), run 1 1003 59 [l0, l1, l2] [vi s0] h = if am_isd s0 = true then some (some (vi s0), h) else none) := ⟨(fun _ _ _ _ => run_next rfl rfl),
  (fun _ _ _ _ => run_next rfl rfl),
  (fun _ _ _ _ _ => run_next rfl rfl),
  (fun _ _ _ _ => run_next rfl rfl),
  (fun _ _ _ _ _ _ => run_next rfl rfl),
  (fun _ _ _ s0 _ => run_next rfl rfl),
  (fun _ _ _ s0 _ _ => run_if rfl rfl (run_next rfl) (run_next rfl)),
  (fun _ _ _ _ => run_next rfl rfl),
  (fun _ _ _ _ _ _ => run_next rfl rfl),
  (fun _ _ s0 _ _ => run_next rfl rfl),
  (fun _ _ _ s0 _ _ _ => run_calx rfl rfl (Nat.le_of_ble_eq_true rfl) (Nat.le_of_ble_eq_true rfl) rfl),
  (fun _ _ _ s0 _ => run_if rfl rfl (run_next rfl) (run_next rfl)),
  (fun _ _ _ _ => run_next rfl rfl),
  (fun _ _ _ s0 _ => run_ifz rfl rfl (by simp) (run_ret rfl) (run_fail rfl)),
  (fun _ _ _ _ => run_next rfl rfl),
  (fun _ _ _ _ _ _ => run_next rfl rfl),
  (fun _ _ s0 _ _ => run_next rfl rfl),
  (fun _ _ _ _ _ _ _ => run_next rfl rfl),
  (fun _ _ s0 _ _ _ => run_next rfl rfl),
  (fun _ _ _ _ _ _ _ => run_if rfl rfl (run_fail rfl) (run_next rfl)),
  (fun _ _ _ _ _ _ _ _ _ _ => run_if rfl rfl (run_fail rfl) (run_next rfl)),
  (fun _ _ _ _ => run_next rfl rfl),
  (fun _ _ _ _ _ _ => run_next rfl rfl),
  (fun _ _ s0 _ _ => run_next rfl rfl),
  (fun _ _ _ _ _ _ _ => run_next rfl rfl),
  (fun _ _ _ s0 _ _ _ => run_if rfl rfl (run_fail rfl) (run_next rfl)),
  (fun _ _ _ s0 _ _ _ => run_if rfl rfl (run_fail rfl) (run_next rfl)),
  (fun _ _ s0 _ _ => run_next rfl rfl),
  (fun _ _ _ s0 _ _ => run_calx rfl rfl (Nat.le_of_ble_eq_true rfl) (Nat.le_of_ble_eq_true rfl) rfl),
  (fun _ _ _ _ => run_next rfl rfl),
  (fun _ _ _ s0 _ => run_next rfl rfl),
  (fun _ _ _ _ _ _ _ => run_next rfl rfl),
  (fun _ _ _ s0 _ _ => run_next rfl rfl),
  (fun _ _ _ s0 _ _ _ => run_next rfl rfl),
  (fun _ _ _ s0 _ _ _ => run_next rfl rfl),
  (fun _ _ _ _ => run_next rfl rfl),
  (fun _ _ _ s0 _ => run_ifz rfl rfl (by simp) (run_ret rfl) (run_fail rfl))⟩
theorem e_1003 (v : Option Rf) (a0 : Option Rf) (a1 : Int32) (h : Hp) : call 1003 [vo v, vo a0, vi a1] h = run 1 1003 0 [some (vo v), some (vo a0), some (vi a1)] [] h := rfl
set_option maxRecDepth 20000 in
theorem x_1004 : (∀ (l0 : Option AV) (w : Int32) (h : Hp), run 0 1004 0 [l0, some (vi w)] [] h = run 0 1004 1 [l0, some (vi w)] [vi w] h) ∧
  (∀ (l0 l1 : Option AV) (s0 : Int32) (h : Hp), run 0 1004 1 [l0, l1] [vi s0] h = if s0 < 0 then run 0 1004 21 [l0, l1] [] h else run 0 1004 4 [l0, l1] [] h) ∧
  (∀ (l0 : Option AV) (w : Int32) (h : Hp), run 0 1004 4 [l0, some (vi w)] [] h = run 0 1004 5 [l0, some (vi w)] [vi w] h) ∧
  (∀ (l1 : Option AV) (s0 : Int32) (w : Option Rf) (h : Hp), run 0 1004 5 [some (vo w), l1] [vi s0] h = run 0 1004 6 [some (vo w), l1] [vo w, vi s0] h) ∧
  (∀ (l0 l1 : Option AV) (s1 : Int32) (o z : Nat) (h : Hp), run 0 1004 6 [l0, l1] [vo (some (o, 10, z)), vi s1] h = run 0 1004 9 [l0, l1] [vi (hI h o 3), vi s1] h) ∧
  (∀ (l0 l1 : Option AV) (s0 : Int32) (s1 : Int32) (h : Hp), run 0 1004 9 [l0, l1] [vi s0, vi s1] h = if s0 ≤ s1 then run 0 1004 21 [l0, l1] [] h else run 0 1004 12 [l0, l1] [] h) ∧
  (∀ (l1 : Option AV) (w : Option Rf) (h : Hp), run 0 1004 12 [some (vo w), l1] [] h = run 0 1004 13 [some (vo w), l1] [vo w] h) ∧
  (∀ (l0 l1 : Option AV) (o z : Nat) (h : Hp), run 0 1004 13 [l0, l1] [vo (some (o, 10, z))] h = run 0 1004 16 [l0, l1] [vo (hR h o 4)] h) ∧
  (∀ (l0 : Option AV) (s0 : Option Rf) (w : Int32) (h : Hp), run 0 1004 16 [l0, some (vi w)] [vo s0] h = run 0 1004 17 [l0, some (vi w)] [vi w, vo s0] h) ∧
  (∀ (l0 l1 : Option AV) (s0 : Int32) (o z : Nat) (h : Hp), run 0 1004 17 [l0, l1] [vi s0, vo (some (o, 14, z))] h = if s0 < 0 ∨ z ≤ s0.toNatClampNeg then none else run 0 1004 18 [l0, l1] [vo (hR h o s0.toNatClampNeg)] h) ∧
  (∀ (l0 l1 : Option AV) (s0 : Int32) (o z : Nat) (h : Hp), run 0 1004 17 [l0, l1] [vi s0, vo (some (o, 15, z))] h = if s0 < 0 ∨ z ≤ s0.toNatClampNeg then none else run 0 1004 18 [l0, l1] [vo (hR h o s0.toNatClampNeg)] h) ∧
  (∀ (l0 l1 : Option AV) (s0 : Option Rf) (h : Hp), run 0 1004 18 [l0, l1] [vo s0] h = run 0 1004 22 [l0, l1] [vo s0] h) ∧
  (∀ (l0 l1 : Option AV) (h : Hp), run 0 1004 21 [l0, l1] [] h = run 0 1004 22 [l0, l1] [vo none] h) ∧
  (∀ (l0 l1 : Option AV) (s0 : Option Rf) (h : Hp), run 0 1004 22 [l0, l1] [vo s0] h = some (some (vo s0), h)) := ⟨(fun _ _ _ => run_next rfl rfl),
  (fun _ _ s0 _ => run_if rfl rfl (run_next rfl) (run_next rfl)),
  (fun _ _ _ => run_next rfl rfl),
  (fun _ s0 _ _ => run_next rfl rfl),
  (fun _ _ _ _ _ _ => run_next rfl rfl),
  (fun _ _ s0 _ _ => run_if rfl rfl (run_next rfl) (run_next rfl)),
  (fun _ _ _ => run_next rfl rfl),
  (fun _ _ _ _ _ => run_next rfl rfl),
  (fun _ s0 _ _ => run_next rfl rfl),
  (fun _ _ s0 _ _ _ => run_if rfl rfl (run_fail rfl) (run_next rfl)),
  (fun _ _ s0 _ _ _ => run_if rfl rfl (run_fail rfl) (run_next rfl)),
  (fun _ _ s0 _ => run_next rfl rfl),
  (fun _ _ _ => run_next rfl rfl),
  (fun _ _ s0 _ => run_ret rfl rfl)⟩
theorem e_1004 (v : Option Rf) (a0 : Int32) (h : Hp) : call 1004 [vo v, vi a0] h = run 0 1004 0 [some (vo v), some (vi a0)] [] h := rfl
set_option maxRecDepth 20000 in
theorem x_1005 : (∀ (l1 l2 l3 : Option AV) (w : Option Rf) (h : Hp), run 4 1005 0 [some (vo w), l1, l2, l3] [] h = run 4 1005 1 [some (vo w), l1, l2, l3] [vo w] h) ∧
  (∀ (l0 l2 l3 : Option AV) (s0 : Option Rf) (w : Int32) (h : Hp), run 4 1005 1 [l0, some (vi w), l2, l3] [vo s0] h = run 4 1005 2 [l0, some (vi w), l2, l3] [vi w, vo s0] h) ∧
  (∀ (l0 l1 l2 l3 : Option AV) (s0 : Int32) (o z : Nat) (h : Hp), run 4 1005 2 [l0, l1, l2, l3] [vi s0, vo (some (o, 10, z))] h = (call 1004 [vo (some (o, 10, z)), vi s0] h).bind (fun z => run 4 1005 5 [l0, l1, l2, l3] (z.1.toList ++ []) z.2)) ∧
  (∀ (l0 l1 l3 : Option AV) (s0 : Option Rf) (h : Hp), run 4 1005 5 [l0, l1, none, l3] [vo s0] h = run 4 1005 6 [l0, l1, none, some (vo s0)] [] h) ∧
  (∀ (l0 l1 l3 : Option AV) (s0 : Option Rf) (w1 : Int32) (h : Hp), run 4 1005 5 [l0, l1, some (vi w1), l3] [vo s0] h = run 4 1005 6 [l0, l1, some (vi w1), some (vo s0)] [] h) ∧
  (∀ (l0 l1 l3 : Option AV) (s0 : Option Rf) (w1 : Option Rf) (h : Hp), run 4 1005 5 [l0, l1, some (vo w1), l3] [vo s0] h = run 4 1005 6 [l0, l1, some (vo w1), some (vo s0)] [] h) ∧
  (∀ (l0 l1 l2 : Option AV) (w : Option Rf) (h : Hp), run 4 1005 6 [l0, l1, l2, some (vo w)] [] h = run 4 1005 7 [l0, l1, l2, some (vo w)] [vo w] h) ∧
  (∀ (l0 l1 l2 l3 : Option AV) (h : Hp), run 4 1005 7 [l0, l1, l2, l3] [vo none] h = run 4 1005 10 [l0, l1, l2, l3] [] h) ∧
  (∀ (l0 l1 l2 l3 : Option AV) (w : Rf) (h : Hp), run 4 1005 7 [l0, l1, l2, l3] [vo (some w)] h = run 4 1005 12 [l0, l1, l2, l3] [] h) ∧
  (∀ (l0 l1 l2 l3 : Option AV) (h : Hp), run 4 1005 10 [l0, l1, l2, l3] [] h = run 4 1005 11 [l0, l1, l2, l3] [vi (-1 : Int32)] h) ∧
  (∀ (l0 l1 l2 l3 : Option AV) (s0 : Int32) (h : Hp), run 4 1005 11 [l0, l1, l2, l3] [vi s0] h = some (some (vi s0), h)) ∧
  (∀ (l0 l1 l3 : Option AV) (w : Int32) (h : Hp), run 4 1005 12 [l0, l1, some (vi w), l3] [] h = run 4 1005 13 [l0, l1, some (vi w), l3] [vi w] h) ∧
  (∀ (l0 l1 l2 l3 : Option AV) (s0 : Int32) (h : Hp), run 4 1005 13 [l0, l1, l2, l3] [vi s0] h = if s0 = 0 then run 4 1005 44 [l0, l1, l2, l3] [] h else if s0 = 1 then run 4 1005 49 [l0, l1, l2, l3] [] h else if s0 = 2 then run 4 1005 54 [l0, l1, l2, l3] [] h else if s0 = 3 then run 4 1005 64 [l0, l1, l2, l3] [] h else run 4 1005 70 [l0, l1, l2, l3] [] h) ∧
  (∀ (l0 l1 l2 : Option AV) (w : Option Rf) (h : Hp), run 4 1005 44 [l0, l1, l2, some (vo w)] [] h = run 4 1005 45 [l0, l1, l2, some (vo w)] [vo w] h) ∧
  (∀ (l0 l1 l2 l3 : Option AV) (o z : Nat) (h : Hp), run 4 1005 45 [l0, l1, l2, l3] [vo (some (o, 9, z))] h = (call 902 [vo (some (o, 9, z))] h).bind (fun z => run 4 1005 48 [l0, l1, l2, l3] (z.1.toList ++ []) z.2)) ∧
  (∀ (l0 l1 l2 l3 : Option AV) (o z : Nat) (h : Hp), run 4 1005 45 [l0, l1, l2, l3] [vo (some (o, 3, z))] h = (call 301 [vo (some (o, 3, z))] h).bind (fun z => run 4 1005 48 [l0, l1, l2, l3] (z.1.toList ++ []) z.2)) ∧
  (∀ (l0 l1 l2 l3 : Option AV) (o z : Nat) (h : Hp), run 4 1005 45 [l0, l1, l2, l3] [vo (some (o, 2, z))] h = (call 201 [vo (some (o, 2, z))] h).bind (fun z => run 4 1005 48 [l0, l1, l2, l3] (z.1.toList ++ []) z.2)) ∧
  (∀ (l0 l1 l2 l3 : Option AV) (o z : Nat) (h : Hp), run 4 1005 45 [l0, l1, l2, l3] [vo (some (o, 1, z))] h = (call 101 [vo (some (o, 1, z))] h).bind (fun z => run 4 1005 48 [l0, l1, l2, l3] (z.1.toList ++ []) z.2)) ∧
  (∀ (l0 l1 l2 l3 : Option AV) (o z : Nat) (h : Hp), run 4 1005 45 [l0, l1, l2, l3] [vo (some (o, 8, z))] h = (call 801 [vo (some (o, 8, z))] h).bind (fun z => run 4 1005 48 [l0, l1, l2, l3] (z.1.toList ++ []) z.2)) ∧
  (∀ (l0 l1 l2 l3 : Option AV) (o z : Nat) (h : Hp), run 4 1005 45 [l0, l1, l2, l3] [vo (some (o, 6, z))] h = (call 601 [vo (some (o, 6, z))] h).bind (fun z => run 4 1005 48 [l0, l1, l2, l3] (z.1.toList ++ []) z.2)) ∧
  (∀ (l0 l1 l2 l3 : Option AV) (s0 : Int32) (h : Hp), run 4 1005 48 [l0, l1, l2, l3] [vi s0] h = some (some (vi s0), h)) ∧
  (∀ (l0 l1 l2 : Option AV) (w : Option Rf) (h : Hp), run 4 1005 49 [l0, l1, l2, some (vo w)] [] h = run 4 1005 50 [l0, l1, l2, some (vo w)] [vo w] h) ∧
  (∀ (l0 l1 l2 l3 : Option AV) (o z : Nat) (h : Hp), run 4 1005 50 [l0, l1, l2, l3] [vo (some (o, 9, z))] h = run 4 1005 53 [l0, l1, l2, l3] [vi (hI h o 0)] h) ∧
  (∀ (l0 l1 l2 l3 : Option AV) (o z : Nat) (h : Hp), run 4 1005 50 [l0, l1, l2, l3] [vo (some (o, 3, z))] h = run 4 1005 53 [l0, l1, l2, l3] [vi (hI h o 0)] h) ∧
  (∀ (l0 l1 l2 l3 : Option AV) (o z : Nat) (h : Hp), run 4 1005 50 [l0, l1, l2, l3] [vo (some (o, 2, z))] h = run 4 1005 53 [l0, l1, l2, l3] [vi (hI h o 0)] h) ∧
  (∀ (l0 l1 l2 l3 : Option AV) (o z : Nat) (h : Hp), run 4 1005 50 [l0, l1, l2, l3] [vo (some (o, 1, z))] h = run 4 1005 53 [l0, l1, l2, l3] [vi (hI h o 0)] h) ∧
  (∀ (l0 l1 l2 l3 : Option AV) (o z : Nat) (h : Hp), run 4 1005 50 [l0, l1, l2, l3] [vo (some (o, 8, z))] h = run 4 1005 53 [l0, l1, l2, l3] [vi (hI h o 0)] h) ∧
  (∀ (l0 l1 l2 l3 : Option AV) (o z : Nat) (h : Hp), run 4 1005 50 [l0, l1, l2, l3] [vo (some (o, 6, z))] h = run 4 1005 53 [l0, l1, l2, l3] [vi (hI h o 0)] h) ∧
  (∀ (l0 l1 l2 l3 : Option AV) (s0 : Int32) (h : Hp), run 4 1005 53 [l0, l1, l2, l3] [vi s0] h = some (some (vi s0), h)) ∧
  (∀ (l1 l2 l3 : Option AV) (w : Option Rf) (h : Hp), run 4 1005 54 [some (vo w), l1, l2, l3] [] h = run 4 1005 55 [some (vo w), l1, l2, l3] [vo w] h) ∧
  (∀ (l0 l2 l3 : Option AV) (s0 : Option Rf) (w : Int32) (h : Hp), run 4 1005 55 [l0, some (vi w), l2, l3] [vo s0] h = run 4 1005 56 [l0, some (vi w), l2, l3] [vi w, vo s0] h) ∧
  (∀ (l1 l2 l3 : Option AV) (s0 : Int32) (s1 : Option Rf) (w : Option Rf) (h : Hp), run 4 1005 56 [some (vo w), l1, l2, l3] [vi s0, vo s1] h = run 4 1005 57 [some (vo w), l1, l2, l3] [vo w, vi s0, vo s1] h) ∧
  (∀ (l0 l1 l2 l3 : Option AV) (s1 : Int32) (s2 : Option Rf) (o z : Nat) (h : Hp), run 4 1005 57 [l0, l1, l2, l3] [vo (some (o, 10, z)), vi s1, vo s2] h = run 4 1005 60 [l0, l1, l2, l3] [vi (hI h o 2), vi s1, vo s2] h) ∧
  (∀ (l0 l1 l2 l3 : Option AV) (s0 : Int32) (s1 : Int32) (o z : Nat) (h : Hp), run 4 1005 60 [l0, l1, l2, l3] [vi s0, vi s1, vo (some (o, 10, z))] h = (call 1006 [vo (some (o, 10, z)), vi s1, vi s0] h).bind (fun z => run 4 1005 63 [l0, l1, l2, l3] (z.1.toList ++ []) z.2)) ∧
  (∀ (l0 l1 l2 l3 : Option AV) (s0 : Int32) (h : Hp), run 4 1005 63 [l0, l1, l2, l3] [vi s0] h = some (some (vi s0), h)) ∧
  (∀ (l0 l1 l2 : Option AV) (w : Option Rf) (h : Hp), run 4 1005 64 [l0, l1, l2, some (vo w)] [] h = run 4 1005 65 [l0, l1, l2, some (vo w)] [vo w] h) ∧
  (∀ (l0 l1 l2 l3 : Option AV) (o z : Nat) (h : Hp), run 4 1005 65 [l0, l1, l2, l3] [vo (some (o, 9, z))] h = run 4 1005 68 [l0, l1, l2, l3] [vo (hR h o 1)] h) ∧
  (∀ (l0 l1 l2 l3 : Option AV) (o z : Nat) (h : Hp), run 4 1005 65 [l0, l1, l2, l3] [vo (some (o, 3, z))] h = run 4 1005 68 [l0, l1, l2, l3] [vo (hR h o 1)] h) ∧
  (∀ (l0 l1 l2 l3 : Option AV) (o z : Nat) (h : Hp), run 4 1005 65 [l0, l1, l2, l3] [vo (some (o, 2, z))] h = run 4 1005 68 [l0, l1, l2, l3] [vo (hR h o 1)] h) ∧
  (∀ (l0 l1 l2 l3 : Option AV) (o z : Nat) (h : Hp), run 4 1005 65 [l0, l1, l2, l3] [vo (some (o, 1, z))] h = run 4 1005 68 [l0, l1, l2, l3] [vo (hR h o 1)] h) ∧
  (∀ (l0 l1 l2 l3 : Option AV) (o z : Nat) (h : Hp), run 4 1005 65 [l0, l1, l2, l3] [vo (some (o, 8, z))] h = run 4 1005 68 [l0, l1, l2, l3] [vo (hR h o 1)] h) ∧
  (∀ (l0 l1 l2 l3 : Option AV) (o z : Nat) (h : Hp), run 4 1005 65 [l0, l1, l2, l3] [vo (some (o, 6, z))] h = run 4 1005 68 [l0, l1, l2, l3] [vo (hR h o 1)] h) ∧
  (∀ (l0 l1 l2 l3 : Option AV) (o z : Nat) (h : Hp), run 4 1005 68 [l0, l1, l2, l3] [vo (some (o, 13, z))] h = run 4 1005 69 [l0, l1, l2, l3] [vi (Int32.ofNat z)] h) ∧
  (∀ (l0 l1 l2 l3 : Option AV) (o z : Nat) (h : Hp), run 4 1005 68 [l0, l1, l2, l3] [vo (some (o, 14, z))] h = run 4 1005 69 [l0, l1, l2, l3] [vi (Int32.ofNat z)] h) ∧
  (∀ (l0 l1 l2 l3 : Option AV) (o z : Nat) (h : Hp), run 4 1005 68 [l0, l1, l2, l3] [vo (some (o, 15, z))] h = run 4 1005 69 [l0, l1, l2, l3] [vi (Int32.ofNat z)] h) ∧
  (∀ (l0 l1 l2 l3 : Option AV) (s0 : Int32) (h : Hp), run 4 1005 69 [l0, l1, l2, l3] [vi s0] h = some (some (vi s0), h)) ∧
  (∀ (l0 l1 l2 : Option AV) (w : Option Rf) (h : Hp), run 4 1005 70 [l0, l1, l2, some (vo w)] [] h = run 4 1005 71 [l0, l1, l2, some (vo w)] [vo w] h) ∧
  (∀ (l1 l2 l3 : Option AV) (s0 : Option Rf) (w : Option Rf) (h : Hp), run 4 1005 71 [some (vo w), l1, l2, l3] [vo s0] h = run 4 1005 72 [some (vo w), l1, l2, l3] [vo w, vo s0] h) ∧
  (∀ (l0 l2 l3 : Option AV) (s0 : Option Rf) (s1 : Option Rf) (w : Int32) (h : Hp), run 4 1005 72 [l0, some (vi w), l2, l3] [vo s0, vo s1] h = run 4 1005 73 [l0, some (vi w), l2, l3] [vi w, vo s0, vo s1] h) ∧
  (∀ (l1 l2 l3 : Option AV) (s0 : Int32) (s1 : Option Rf) (s2 : Option Rf) (w : Option Rf) (h : Hp), run 4 1005 73 [some (vo w), l1, l2, l3] [vi s0, vo s1, vo s2] h = run 4 1005 74 [some (vo w), l1, l2, l3] [vo w, vi s0, vo s1, vo s2] h) ∧
  (∀ (l0 l1 l2 l3 : Option AV) (s1 : Int32) (s2 : Option Rf) (s3 : Option Rf) (o z : Nat) (h : Hp), run 4 1005 74 [l0, l1, l2, l3] [vo (some (o, 10, z)), vi s1, vo s2, vo s3] h = run 4 1005 77 [l0, l1, l2, l3] [vi (hI h o 2), vi s1, vo s2, vo s3] h) ∧
  (∀ (l0 l1 l2 l3 : Option AV) (s0 : Int32) (s1 : Int32) (s2 : Option Rf) (o z : Nat) (h : Hp), run 4 1005 77 [l0, l1, l2, l3] [vi s0, vi s1, vo s2, vo (some (o, 9, z))] h = (call 903 [vo (some (o, 9, z)), vo s2, vi s1, vi s0] h).bind (fun z => run 4 1005 80 [l0, l1, l2, l3] (z.1.toList ++ []) z.2)) ∧
  (∀ (l0 l1 l2 l3 : Option AV) (s0 : Int32) (s1 : Int32) (s2 : Option Rf) (o z : Nat) (h : Hp), run 4 1005 77 [l0, l1, l2, l3] [vi s0, vi s1, vo s2, vo (some (o, 3, z))] h = (call 302 [vo (some (o, 3, z)), vo s2, vi s1, vi s0] h).bind (fun z => run 4 1005 80 [l0, l1, l2, l3] (z.1.toList ++ []) z.2)) ∧
  (∀ (l0 l1 l2 l3 : Option AV) (s0 : Int32) (s1 : Int32) (s2 : Option Rf) (o z : Nat) (h : Hp), run 4 1005 77 [l0, l1, l2, l3] [vi s0, vi s1, vo s2, vo (some (o, 2, z))] h = (call 202 [vo (some (o, 2, z)), vo s2, vi s1, vi s0] h).bind (fun z => run 4 1005 80 [l0, l1, l2, l3] (z.1.toList ++ []) z.2)) ∧
  (∀ (l0 l1 l2 l3 : Option AV) (s0 : Int32) (s1 : Int32) (s2 : Option Rf) (o z : Nat) (h : Hp), run 4 1005 77 [l0, l1, l2, l3] [vi s0, vi s1, vo s2, vo (some (o, 1, z))] h = (call 302 [vo (some (o, 1, z)), vo s2, vi s1, vi s0] h).bind (fun z => run 4 1005 80 [l0, l1, l2, l3] (z.1.toList ++ []) z.2)) ∧
  (∀ (l0 l1 l2 l3 : Option AV) (s0 : Int32) (s1 : Int32) (s2 : Option Rf) (o z : Nat) (h : Hp), run 4 1005 77 [l0, l1, l2, l3] [vi s0, vi s1, vo s2, vo (some (o, 8, z))] h = (call 802 [vo (some (o, 8, z)), vo s2, vi s1, vi s0] h).bind (fun z => run 4 1005 80 [l0, l1, l2, l3] (z.1.toList ++ []) z.2)) ∧
  (∀ (l0 l1 l2 l3 : Option AV) (s0 : Int32) (s1 : Int32) (s2 : Option Rf) (o z : Nat) (h : Hp), run 4 1005 77 [l0, l1, l2, l3] [vi s0, vi s1, vo s2, vo (some (o, 6, z))] h = (call 302 [vo (some (o, 6, z)), vo s2, vi s1, vi s0] h).bind (fun z => run 4 1005 80 [l0, l1, l2, l3] (z.1.toList ++ []) z.2)) ∧
  (∀ (l0 l1 l2 l3 : Option AV) (s0 : Int32) (h : Hp), run 4 1005 80 [l0, l1, l2, l3] [vi s0] h = some (some (vi s0), h)) := ⟨(fun _ _ _ _ _ => run_next rfl rfl),
  (fun _ _ _ s0 _ _ => run_next rfl rfl),
  (fun _ _ _ _ s0 _ _ _ => run_calx rfl rfl (Nat.le_of_ble_eq_true rfl) (Nat.le_of_ble_eq_true rfl) rfl),
  (fun _ _ _ s0 _ => run_next rfl rfl),
  (fun _ _ _ s0 _ _ => run_next rfl rfl),
  (fun _ _ _ s0 _ _ => run_next rfl rfl),
  (fun _ _ _ _ _ => run_next rfl rfl),
  (fun _ _ _ _ _ => run_next rfl rfl),
  (fun _ _ _ _ _ _ => run_next rfl rfl),
  (fun _ _ _ _ _ => run_next rfl rfl),
  (fun _ _ _ _ s0 _ => run_ret rfl rfl),
  (fun _ _ _ _ _ => run_next rfl rfl),
  (fun _ _ _ _ s0 _ => (run_sw (fun e => by subst e; exact run_next rfl rfl) fun n0 => (run_sw (fun e => by subst e; exact run_next rfl rfl) fun n1 => (run_sw (fun e => by subst e; exact run_next rfl rfl) fun n2 => (run_sw (fun e => by subst e; exact run_next rfl rfl) fun n3 => run_swd 4 rfl rfl (sw_out4 n0 n1 n2 n3)))))),
  (fun _ _ _ _ _ => run_next rfl rfl),
  (fun _ _ _ _ _ _ _ => run_calx rfl rfl (Nat.le_of_ble_eq_true rfl) (Nat.le_of_ble_eq_true rfl) rfl),
  (fun _ _ _ _ _ _ _ => run_calx rfl rfl (Nat.le_of_ble_eq_true rfl) (Nat.le_of_ble_eq_true rfl) rfl),
  (fun _ _ _ _ _ _ _ => run_calx rfl rfl (Nat.le_of_ble_eq_true rfl) (Nat.le_of_ble_eq_true rfl) rfl),
  (fun _ _ _ _ _ _ _ => run_calx rfl rfl (Nat.le_of_ble_eq_true rfl) (Nat.le_of_ble_eq_true rfl) rfl),
  (fun _ _ _ _ _ _ _ => run_calx rfl rfl (Nat.le_of_ble_eq_true rfl) (Nat.le_of_ble_eq_true rfl) rfl),
  (fun _ _ _ _ _ _ _ => run_calx rfl rfl (Nat.le_of_ble_eq_true rfl) (Nat.le_of_ble_eq_true rfl) rfl),
  (fun _ _ _ _ s0 _ => run_ret rfl rfl),
  (fun _ _ _ _ _ => run_next rfl rfl),
  (fun _ _ _ _ _ _ _ => run_next rfl rfl),
  (fun _ _ _ _ _ _ _ => run_next rfl rfl),
  (fun _ _ _ _ _ _ _ => run_next rfl rfl),
  (fun _ _ _ _ _ _ _ => run_next rfl rfl),
  (fun _ _ _ _ _ _ _ => run_next rfl rfl),
  (fun _ _ _ _ _ _ _ => run_next rfl rfl),
  (fun _ _ _ _ s0 _ => run_ret rfl rfl),
  (fun _ _ _ _ _ => run_next rfl rfl),
  (fun _ _ _ s0 _ _ => run_next rfl rfl),
  (fun _ _ _ s0 _ _ _ => run_next rfl rfl),
  (fun _ _ _ _ _ _ _ _ _ => run_next rfl rfl),
  (fun _ _ _ _ s0 _ _ _ _ => run_calx rfl rfl (Nat.le_of_ble_eq_true rfl) (Nat.le_of_ble_eq_true rfl) rfl),
  (fun _ _ _ _ s0 _ => run_ret rfl rfl),
  (fun _ _ _ _ _ => run_next rfl rfl),
  (fun _ _ _ _ _ _ _ => run_next rfl rfl),
  (fun _ _ _ _ _ _ _ => run_next rfl rfl),
  (fun _ _ _ _ _ _ _ => run_next rfl rfl),
  (fun _ _ _ _ _ _ _ => run_next rfl rfl),
  (fun _ _ _ _ _ _ _ => run_next rfl rfl),
  (fun _ _ _ _ _ _ _ => run_next rfl rfl),
  (fun _ _ _ _ _ _ _ => run_next rfl rfl),
  (fun _ _ _ _ _ _ _ => run_next rfl rfl),
  (fun _ _ _ _ _ _ _ => run_next rfl rfl),
  (fun _ _ _ _ s0 _ => run_ret rfl rfl),
  (fun _ _ _ _ _ => run_next rfl rfl),
  (fun _ _ _ s0 _ _ => run_next rfl rfl),
  (fun _ _ _ s0 _ _ _ => run_next rfl rfl),
  (fun _ _ _ s0 _ _ _ _ => run_next rfl rfl),
  (fun _ _ _ _ _ _ _ _ _ _ => run_next rfl rfl),
  (fun _ _ _ _ s0 _ _ _ _ _ => run_calx rfl rfl (Nat.le_of_ble_eq_true rfl) (Nat.le_of_ble_eq_true rfl) rfl),
  (fun _ _ _ _ s0 _ _ _ _ _ => run_calx rfl rfl (Nat.le_of_ble_eq_true rfl) (Nat.le_of_ble_eq_true rfl) rfl),
  (fun _ _ _ _ s0 _ _ _ _ _ => run_calx rfl rfl (Nat.le_of_ble_eq_true rfl) (Nat.le_of_ble_eq_true rfl) rfl),
  (fun _ _ _ _ s0 _ _ _ _ _ => run_calx rfl rfl (Nat.le_of_ble_eq_true rfl) (Nat.le_of_ble_eq_true rfl) rfl),
  (fun _ _ _ _ s0 _ _ _ _ _ => run_calx rfl rfl (Nat.le_of_ble_eq_true rfl) (Nat.le_of_ble_eq_true rfl) rfl),
  (fun _ _ _ _ s0 _ _ _ _ _ => run_calx rfl rfl (Nat.le_of_ble_eq_true rfl) (Nat.le_of_ble_eq_true rfl) rfl),
  (fun _ _ _ _ s0 _ => run_ret rfl rfl)⟩
theorem e_1005 (v : Option Rf) (a0 : Int32) (a1 : Int32) (h : Hp) : call 1005 [vo v, vi a0, vi a1] h = run 4 1005 0 [some (vo v), some (vi a0), some (vi a1), none] [] h := rfl
set_option maxRecDepth 20000 in
theorem x_1006 : (∀ (l0 l2 : Option AV) (w : Int32) (h : Hp), run 0 1006 0 [l0, some (vi w), l2] [] h = run 0 1006 1 [l0, some (vi w), l2] [vi w] h) ∧
  (∀ (l0 l1 l2 : Option AV) (s0 : Int32) (h : Hp), run 0 1006 1 [l0, l1, l2] [vi s0] h = if s0 < 0 then run 0 1006 23 [l0, l1, l2] [] h else run 0 1006 4 [l0, l1, l2] [] h) ∧
  (∀ (l0 l2 : Option AV) (w : Int32) (h : Hp), run 0 1006 4 [l0, some (vi w), l2] [] h = run 0 1006 5 [l0, some (vi w), l2] [vi w] h) ∧
  (∀ (l1 l2 : Option AV) (s0 : Int32) (w : Option Rf) (h : Hp), run 0 1006 5 [some (vo w), l1, l2] [vi s0] h = run 0 1006 6 [some (vo w), l1, l2] [vo w, vi s0] h) ∧
  (∀ (l0 l1 l2 : Option AV) (s1 : Int32) (o z : Nat) (h : Hp), run 0 1006 6 [l0, l1, l2] [vo (some (o, 10, z)), vi s1] h = run 0 1006 9 [l0, l1, l2] [vi (hI h o 3), vi s1] h) ∧
  (∀ (l0 l1 l2 : Option AV) (s0 : Int32) (s1 : Int32) (h : Hp), run 0 1006 9 [l0, l1, l2] [vi s0, vi s1] h = if s0 ≤ s1 then run 0 1006 23 [l0, l1, l2] [] h else run 0 1006 12 [l0, l1, l2] [] h) ∧
  (∀ (l0 l1 : Option AV) (w : Int32) (h : Hp), run 0 1006 12 [l0, l1, some (vi w)] [] h = run 0 1006 13 [l0, l1, some (vi w)] [vi w] h) ∧
  (∀ (l1 l2 : Option AV) (s0 : Int32) (w : Option Rf) (h : Hp), run 0 1006 13 [some (vo w), l1, l2] [vi s0] h = run 0 1006 14 [some (vo w), l1, l2] [vo w, vi s0] h) ∧
  (∀ (l0 l1 l2 : Option AV) (s1 : Int32) (o z : Nat) (h : Hp), run 0 1006 14 [l0, l1, l2] [vo (some (o, 10, z)), vi s1] h = run 0 1006 17 [l0, l1, l2] [vo (hR h o 5), vi s1] h) ∧
  (∀ (l0 l2 : Option AV) (s0 : Option Rf) (s1 : Int32) (w : Int32) (h : Hp), run 0 1006 17 [l0, some (vi w), l2] [vo s0, vi s1] h = run 0 1006 18 [l0, some (vi w), l2] [vi w, vo s0, vi s1] h) ∧
  (∀ (l0 l1 l2 : Option AV) (s0 : Int32) (s2 : Int32) (o z : Nat) (h : Hp), run 0 1006 18 [l0, l1, l2] [vi s0, vo (some (o, 14, z)), vi s2] h = if s0 < 0 ∨ z ≤ s0.toNatClampNeg then none else run 0 1006 19 [l0, l1, l2] [vo (hR h o s0.toNatClampNeg), vi s2] h) ∧
  (∀ (l0 l1 l2 : Option AV) (s0 : Int32) (s2 : Int32) (o z : Nat) (h : Hp), run 0 1006 18 [l0, l1, l2] [vi s0, vo (some (o, 15, z)), vi s2] h = if s0 < 0 ∨ z ≤ s0.toNatClampNeg then none else run 0 1006 19 [l0, l1, l2] [vo (hR h o s0.toNatClampNeg), vi s2] h) ∧
  (∀ (l0 l1 l2 : Option AV) (s1 : Int32) (o z : Nat) (h : Hp), run 0 1006 19 [l0, l1, l2] [vo (some (o, 13, z)), vi s1] h = run 0 1006 20 [l0, l1, l2] [vi (Int32.ofNat z), vi s1] h) ∧
  (∀ (l0 l1 l2 : Option AV) (s1 : Int32) (o z : Nat) (h : Hp), run 0 1006 19 [l0, l1, l2] [vo (some (o, 14, z)), vi s1] h = run 0 1006 20 [l0, l1, l2] [vi (Int32.ofNat z), vi s1] h) ∧
  (∀ (l0 l1 l2 : Option AV) (s1 : Int32) (o z : Nat) (h : Hp), run 0 1006 19 [l0, l1, l2] [vo (some (o, 15, z)), vi s1] h = run 0 1006 20 [l0, l1, l2] [vi (Int32.ofNat z), vi s1] h) ∧
  (∀ (l0 l1 l2 : Option AV) (s0 : Int32) (s1 : Int32) (h : Hp), run 0 1006 20 [l0, l1, l2] [vi s0, vi s1] h = if s1 < s0 then run 0 1006 26 [l0, l1, l2] [] h else run 0 1006 23 [l0, l1, l2] [] h) ∧
  (∀ (l0 l1 l2 : Option AV) (h : Hp), run 0 1006 23 [l0, l1, l2] [] h = run 0 1006 25 [l0, l1, l2] [vi (-9 : Int32)] h) ∧
  (∀ (l0 l1 l2 : Option AV) (s0 : Int32) (h : Hp), run 0 1006 25 [l0, l1, l2] [vi s0] h = some (some (vi s0), h)) ∧
  (∀ (l1 l2 : Option AV) (w : Option Rf) (h : Hp), run 0 1006 26 [some (vo w), l1, l2] [] h = run 0 1006 27 [some (vo w), l1, l2] [vo w] h) ∧
  (∀ (l0 l1 l2 : Option AV) (o z : Nat) (h : Hp), run 0 1006 27 [l0, l1, l2] [vo (some (o, 10, z))] h = run 0 1006 30 [l0, l1, l2] [vo (hR h o 5)] h) ∧
  (∀ (l0 l2 : Option AV) (s0 : Option Rf) (w : Int32) (h : Hp), run 0 1006 30 [l0, some (vi w), l2] [vo s0] h = run 0 1006 31 [l0, some (vi w), l2] [vi w, vo s0] h) ∧
  (∀ (l0 l1 l2 : Option AV) (s0 : Int32) (o z : Nat) (h : Hp), run 0 1006 31 [l0, l1, l2] [vi s0, vo (some (o, 14, z))] h = if s0 < 0 ∨ z ≤ s0.toNatClampNeg then none else run 0 1006 32 [l0, l1, l2] [vo (hR h o s0.toNatClampNeg)] h) ∧
  (∀ (l0 l1 l2 : Option AV) (s0 : Int32) (o z : Nat) (h : Hp), run 0 1006 31 [l0, l1, l2] [vi s0, vo (some (o, 15, z))] h = if s0 < 0 ∨ z ≤ s0.toNatClampNeg then none else run 0 1006 32 [l0, l1, l2] [vo (hR h o s0.toNatClampNeg)] h) ∧
  (∀ (l0 l1 : Option AV) (s0 : Option Rf) (w : Int32) (h : Hp), run 0 1006 32 [l0, l1, some (vi w)] [vo s0] h = run 0 1006 33 [l0, l1, some (vi w)] [vi w, vo s0] h) ∧
  (∀ (l0 l1 l2 : Option AV) (s0 : Int32) (s1 : Option Rf) (h : Hp), run 0 1006 33 [l0, l1, l2] [vi s0, vo s1] h = if 0 ≤ s0 then run 0 1006 40 [l0, l1, l2] [vo s1] h else run 0 1006 36 [l0, l1, l2] [vo s1] h) ∧
  (∀ (l0 l1 l2 : Option AV) (s0 : Option Rf) (h : Hp), run 0 1006 36 [l0, l1, l2] [vo s0] h = run 0 1006 37 [l0, l1, l2] [vi (0 : Int32), vo s0] h) ∧
  (∀ (l0 l1 l2 : Option AV) (s0 : Int32) (s1 : Option Rf) (h : Hp), run 0 1006 37 [l0, l1, l2] [vi s0, vo s1] h = run 0 1006 41 [l0, l1, l2] [vi s0, vo s1] h) ∧
  (∀ (l0 l1 : Option AV) (s0 : Option Rf) (w : Int32) (h : Hp), run 0 1006 40 [l0, l1, some (vi w)] [vo s0] h = run 0 1006 41 [l0, l1, some (vi w)] [vi w, vo s0] h) ∧
  (∀ (l0 l1 l2 : Option AV) (s0 : Int32) (o z : Nat) (h : Hp), run 0 1006 41 [l0, l1, l2] [vi s0, vo (some (o, 13, z))] h = if s0 < 0 ∨ z ≤ s0.toNatClampNeg then none else run 0 1006 42 [l0, l1, l2] [vi (hI h o s0.toNatClampNeg)] h) ∧
  (∀ (l0 l1 l2 : Option AV) (s0 : Int32) (h : Hp), run 0 1006 42 [l0, l1, l2] [vi s0] h = some (some (vi s0), h)) := ⟨(fun _ _ _ _ => run_next rfl rfl),
  (fun _ _ _ s0 _ => run_if rfl rfl (run_next rfl) (run_next rfl)),
  (fun _ _ _ _ => run_next rfl rfl),
  (fun _ _ s0 _ _ => run_next rfl rfl),
  (fun _ _ _ _ _ _ _ => run_next rfl rfl),
  (fun _ _ _ s0 _ _ => run_if rfl rfl (run_next rfl) (run_next rfl)),
  (fun _ _ _ _ => run_next rfl rfl),
  (fun _ _ s0 _ _ => run_next rfl rfl),
  (fun _ _ _ _ _ _ _ => run_next rfl rfl),
  (fun _ _ s0 _ _ _ => run_next rfl rfl),
  (fun _ _ _ s0 _ _ _ _ => run_if rfl rfl (run_fail rfl) (run_next rfl)),
  (fun _ _ _ s0 _ _ _ _ => run_if rfl rfl (run_fail rfl) (run_next rfl)),
  (fun _ _ _ _ _ _ _ => run_next rfl rfl),
  (fun _ _ _ _ _ _ _ => run_next rfl rfl),
  (fun _ _ _ _ _ _ _ => run_next rfl rfl),
  (fun _ _ _ s0 _ _ => run_if rfl rfl (run_next rfl) (run_next rfl)),
  (fun _ _ _ _ => run_next rfl rfl),
  (fun _ _ _ s0 _ => run_ret rfl rfl),
  (fun _ _ _ _ => run_next rfl rfl),
  (fun _ _ _ _ _ _ => run_next rfl rfl),
  (fun _ _ s0 _ _ => run_next rfl rfl),
  (fun _ _ _ s0 _ _ _ => run_if rfl rfl (run_fail rfl) (run_next rfl)),
  (fun _ _ _ s0 _ _ _ => run_if rfl rfl (run_fail rfl) (run_next rfl)),
  (fun _ _ s0 _ _ => run_next rfl rfl),
  (fun _ _ _ s0 _ _ => run_if rfl rfl (run_next rfl) (run_next rfl)),
  (fun _ _ _ s0 _ => run_next rfl rfl),
  (fun _ _ _ s0 _ _ => run_next rfl rfl),
  (fun _ _ s0 _ _ => run_next rfl rfl),
  (fun _ _ _ s0 _ _ _ => run_if rfl rfl (run_fail rfl) (run_next rfl)),
  (fun _ _ _ s0 _ => run_ret rfl rfl)⟩
theorem e_1006 (v : Option Rf) (a0 : Int32) (a1 : Int32) (h : Hp) : call 1006 [vo v, vi a0, vi a1] h = run 0 1006 0 [some (vo v), some (vi a0), some (vi a1)] [] h := rfl
set_option maxRecDepth 20000 in
theorem x_1007 : (∀ (l1 l2 : Option AV) (w : Option Rf) (h : Hp), run 1 1007 0 [some (vo w), l1, l2] [] h = run 1 1007 1 [some (vo w), l1, l2] [vo w] h) ∧
  (∀ (l0 l2 : Option AV) (s0 : Option Rf) (w : Int32) (h : Hp), run 1 1007 1 [l0, some (vi w), l2] [vo s0] h = run 1 1007 2 [l0, some (vi w), l2] [vi w, vo s0] h) ∧
  (∀ (l0 l1 : Option AV) (s0 : Int32) (s1 : Option Rf) (w : Int32) (h : Hp), run 1 1007 2 [l0, l1, some (vi w)] [vi s0, vo s1] h = run 1 1007 3 [l0, l1, some (vi w)] [vi w, vi s0, vo s1] h) ∧
  (∀ (l1 l2 : Option AV) (s0 : Int32) (s1 : Int32) (s2 : Option Rf) (w : Option Rf) (h : Hp), run 1 1007 3 [some (vo w), l1, l2] [vi s0, vi s1, vo s2] h = run 1 1007 4 [some (vo w), l1, l2] [vo w, vi s0, vi s1, vo s2] h) ∧
  (∀ (l0 l1 l2 : Option AV) (s1 : Int32) (s2 : Int32) (s3 : Option Rf) (o z : Nat) (h : Hp), run 1 1007 4 [l0, l1, l2] [vo (some (o, 10, z)), vi s1, vi s2, vo s3] h = run 1 1007 7 [l0, l1, l2] [vi (hI h o 1), vi s1, vi s2, vo s3] h) ∧
  (∀ (l0 l1 l2 : Option AV) (s0 : Int32) (s1 : Int32) (s2 : Int32) (s3 : Option Rf) (h : Hp), run 1 1007 7 [l0, l1, l2] [vi s0, vi s1, vi s2, vo s3] h = run 1 1007 8 [l0, l1, l2] [vi (s1 - s0), vi s2, vo s3] h) ∧
  (∀ (l0 l1 l2 : Option AV) (s0 : Int32) (s1 : Int32) (o z : Nat) (h : Hp), run 1 1007 8 [l0, l1, l2] [vi s0, vi s1, vo (some (o, 10, z))] h = (call 1006 [vo (some (o, 10, z)), vi s1, vi s0] h).bind (fun z => run 1 1007 11 [l0, l1, l2] (z.1.toList ++ []) z.2)) ∧
  (∀ (l0 l1 l2 : Option AV) (s0 : Int32) (h : Hp), run 1 1007 11 [l0, l1, l2] [vi s0] h = some (some (vi s0), h)) := ⟨(fun _ _ _ _ => run_next rfl rfl),
  (fun _ _ s0 _ _ => run_next rfl rfl),
  (fun _ _ s0 _ _ _ => run_next rfl rfl),
  (fun _ _ s0 _ _ _ _ => run_next rfl rfl),
  (fun _ _ _ _ _ _ _ _ _ => run_next rfl rfl),
  (fun _ _ _ s0 _ _ _ _ => run_next rfl rfl),
  (fun _ _ _ s0 _ _ _ _ => run_calx rfl rfl (Nat.le_of_ble_eq_true rfl) (Nat.le_of_ble_eq_true rfl) rfl),
  (fun _ _ _ s0 _ => run_ret rfl rfl)⟩
theorem e_1007 (v : Option Rf) (a0 : Int32) (a1 : Int32) (h : Hp) : call 1007 [vo v, vi a0, vi a1] h = run 1 1007 0 [some (vo v), some (vi a0), some (vi a1)] [] h := rfl
set_option maxRecDepth 20000 in
theorem x_1008 : (∀ (l0 l1 l2 l3 l4 l5 : Option AV) (h : Hp), run 2 1008 0 [l0, l1, l2, l3, l4, l5] [] h = run 2 1008 2 [l0, l1, l2, l3, l4, l5] [vi (2147483647 : Int32)] h) ∧
  (∀ (l0 l1 l2 l4 l5 : Option AV) (s0 : Int32) (h : Hp), run 2 1008 2 [l0, l1, l2, none, l4, l5] [vi s0] h = run 2 1008 4 [l0, l1, l2, none, some (vi s0), l5] [] h) ∧
  (∀ (l0 l1 l2 l4 l5 : Option AV) (s0 : Int32) (w1 : Int32) (h : Hp), run 2 1008 2 [l0, l1, l2, some (vi w1), l4, l5] [vi s0] h = run 2 1008 4 [l0, l1, l2, some (vi w1), some (vi s0), l5] [] h) ∧
  (∀ (l0 l1 l2 l4 l5 : Option AV) (s0 : Int32) (w1 : Option Rf) (h : Hp), run 2 1008 2 [l0, l1, l2, some (vo w1), l4, l5] [vi s0] h = run 2 1008 4 [l0, l1, l2, some (vo w1), some (vi s0), l5] [] h) ∧
  (∀ (l0 l1 l2 l3 l4 l5 : Option AV) (h : Hp), run 2 1008 4 [l0, l1, l2, l3, l4, l5] [] h = run 2 1008 5 [l0, l1, l2, l3, l4, l5] [vi (0 : Int32)] h) ∧
  (∀ (l0 l1 l2 l3 l5 : Option AV) (s0 : Int32) (h : Hp), run 2 1008 5 [l0, l1, l2, l3, none, l5] [vi s0] h = run 2 1008 7 [l0, l1, l2, l3, none, some (vi s0)] [] h) ∧
  (∀ (l0 l1 l2 l3 l5 : Option AV) (s0 : Int32) (w1 : Int32) (h : Hp), run 2 1008 5 [l0, l1, l2, l3, some (vi w1), l5] [vi s0] h = run 2 1008 7 [l0, l1, l2, l3, some (vi w1), some (vi s0)] [] h) ∧
  (∀ (l0 l1 l2 l3 l5 : Option AV) (s0 : Int32) (w1 : Option Rf) (h : Hp), run 2 1008 5 [l0, l1, l2, l3, some (vo w1), l5] [vi s0] h = run 2 1008 7 [l0, l1, l2, l3, some (vo w1), some (vi s0)] [] h) ∧
  (∀ (l1 l2 l3 l4 l5 : Option AV) (s0 : Int32) (w : Option Rf) (h : Hp), run 2 1008 9 [some (vo w), l1, l2, l3, l4, l5] [vi s0] h = run 2 1008 10 [some (vo w), l1, l2, l3, l4, l5] [vo w, vi s0] h) ∧
  (∀ (l0 l1 l2 l3 l4 l5 : Option AV) (s1 : Int32) (o z : Nat) (h : Hp), run 2 1008 10 [l0, l1, l2, l3, l4, l5] [vo (some (o, 10, z)), vi s1] h = run 2 1008 13 [l0, l1, l2, l3, l4, l5] [vi (hI h o 3), vi s1] h) ∧
  (∀ (l0 l1 l2 l3 l4 l5 : Option AV) (s0 : Int32) (s1 : Int32) (h : Hp), run 2 1008 13 [l0, l1, l2, l3, l4, l5] [vi s0, vi s1] h = if s0 ≤ s1 then run 2 1008 50 [l0, l1, l2, l3, l4, l5] [] h else run 2 1008 16 [l0, l1, l2, l3, l4, l5] [] h) ∧
  (∀ (l0 l1 l2 l3 l4 : Option AV) (w : Int32) (h : Hp), run 2 1008 16 [l0, l1, l2, l3, l4, some (vi w)] [] h = run 2 1008 18 [l0, l1, l2, l3, l4, some (vi w)] [vi w] h) ∧
  (∀ (l0 l1 l3 l4 l5 : Option AV) (s0 : Int32) (w : Int32) (h : Hp), run 2 1008 18 [l0, l1, some (vi w), l3, l4, l5] [vi s0] h = run 2 1008 19 [l0, l1, some (vi w), l3, l4, l5] [vi w, vi s0] h) ∧
  (∀ (l0 l1 l2 l3 l4 l5 : Option AV) (s0 : Int32) (s1 : Int32) (h : Hp), run 2 1008 19 [l0, l1, l2, l3, l4, l5] [vi s0, vi s1] h = if s1 = s0 then run 2 1008 44 [l0, l1, l2, l3, l4, l5] [] h else run 2 1008 22 [l0, l1, l2, l3, l4, l5] [] h) ∧
  (∀ (l0 l1 l2 l3 l5 : Option AV) (w : Int32) (h : Hp), run 2 1008 22 [l0, l1, l2, l3, some (vi w), l5] [] h = run 2 1008 24 [l0, l1, l2, l3, some (vi w), l5] [vi w] h) ∧
  (∀ (l1 l2 l3 l4 l5 : Option AV) (s0 : Int32) (w : Option Rf) (h : Hp), run 2 1008 24 [some (vo w), l1, l2, l3, l4, l5] [vi s0] h = run 2 1008 25 [some (vo w), l1, l2, l3, l4, l5] [vo w, vi s0] h) ∧
  (∀ (l0 l1 l2 l3 l4 l5 : Option AV) (s1 : Int32) (o z : Nat) (h : Hp), run 2 1008 25 [l0, l1, l2, l3, l4, l5] [vo (some (o, 10, z)), vi s1] h = run 2 1008 28 [l0, l1, l2, l3, l4, l5] [vo (hR h o 0), vi s1] h) ∧
  (∀ (l0 l2 l3 l4 l5 : Option AV) (s0 : Option Rf) (s1 : Int32) (w : Int32) (h : Hp), run 2 1008 28 [l0, some (vi w), l2, l3, l4, l5] [vo s0, vi s1] h = run 2 1008 29 [l0, some (vi w), l2, l3, l4, l5] [vi w, vo s0, vi s1] h) ∧
  (∀ (l1 l2 l3 l4 l5 : Option AV) (s0 : Int32) (s1 : Option Rf) (s2 : Int32) (w : Option Rf) (h : Hp), run 2 1008 29 [some (vo w), l1, l2, l3, l4, l5] [vi s0, vo s1, vi s2] h = run 2 1008 30 [some (vo w), l1, l2, l3, l4, l5] [vo w, vi s0, vo s1, vi s2] h) ∧
  (∀ (l0 l1 l2 l3 l4 : Option AV) (s0 : Option Rf) (s1 : Int32) (s2 : Option Rf) (s3 : Int32) (w : Int32) (h : Hp), run 2 1008 30 [l0, l1, l2, l3, l4, some (vi w)] [vo s0, vi s1, vo s2, vi s3] h = run 2 1008 32 [l0, l1, l2, l3, l4, some (vi w)] [vi w, vo s0, vi s1, vo s2, vi s3] h) ∧
  (∀ (l0 l1 l2 l4 l5 : Option AV) (s0 : Int32) (s1 : Option Rf) (s2 : Int32) (s3 : Option Rf) (s4 : Int32) (w : Int32) (h : Hp), run 2 1008 32 [l0, l1, l2, some (vi w), l4, l5] [vi s0, vo s1, vi s2, vo s3, vi s4] h = run 2 1008 33 [l0, l1, l2, some (vi w), l4, l5] [vi w, vi s0, vo s1, vi s2, vo s3, vi s4] h) ∧
  (∀ (l0 l1 l2 l3 l4 l5 : Option AV) (s0 : Int32) (s1 : Int32) (s3 : Int32) (s4 : Option Rf) (s5 : Int32) (o z : Nat) (h : Hp), run 2 1008 33 [l0, l1, l2, l3, l4, l5] [vi s0, vi s1, vo (some (o, 10, z)), vi s3, vo s4, vi s5] h = (call 1007 [vo (some (o, 10, z)), vi s1, vi s0] h).bind (fun z => run 2 1008 36 [l0, l1, l2, l3, l4, l5] (z.1.toList ++ [vi s3, vo s4, vi s5]) z.2)) ∧
  (∀ (l0 l1 l2 l3 l4 l5 : Option AV) (s0 : Int32) (s1 : Int32) (s3 : Int32) (o z : Nat) (h : Hp), run 2 1008 36 [l0, l1, l2, l3, l4, l5] [vi s0, vi s1, vo (some (o, 5, z)), vi s3] h = (call 508 [vo (some (o, 5, z)), vi s1, vi s0] h).bind (fun z => run 2 1008 39 [l0, l1, l2, l3, l4, l5] (z.1.toList ++ [vi s3]) z.2)) ∧
  (∀ (l0 l1 l2 l3 l4 l5 : Option AV) (s0 : Int32) (s1 : Int32) (h : Hp), run 2 1008 39 [l0, l1, l2, l3, l4, l5] [vi s0, vi s1] h = run 2 1008 42 [l0, l1, l2, l3, l4, l5] [vi (if s0 < s1 then s0 else s1)] h) ∧
  (∀ (l0 l1 l2 l4 l5 : Option AV) (s0 : Int32) (h : Hp), run 2 1008 42 [l0, l1, l2, none, l4, l5] [vi s0] h = run 2 1008 44 [l0, l1, l2, none, some (vi s0), l5] [] h) ∧
  (∀ (l0 l1 l2 l4 l5 : Option AV) (s0 : Int32) (w1 : Int32) (h : Hp), run 2 1008 42 [l0, l1, l2, some (vi w1), l4, l5] [vi s0] h = run 2 1008 44 [l0, l1, l2, some (vi w1), some (vi s0), l5] [] h) ∧
  (∀ (l0 l1 l2 l4 l5 : Option AV) (s0 : Int32) (w1 : Option Rf) (h : Hp), run 2 1008 42 [l0, l1, l2, some (vo w1), l4, l5] [vi s0] h = run 2 1008 44 [l0, l1, l2, some (vo w1), some (vi s0), l5] [] h) ∧
  (∀ (l0 l1 l2 l3 : Option AV) (w : Int32) (h : Hp), run 2 1008 44 [l0, l1, l2, l3, none, some (vi w)] [] h = run 2 1008 47 [l0, l1, l2, l3, none, some (vi (w + (1 : Int32)))] [] h) ∧
  (∀ (l0 l1 l2 l3 : Option AV) (w1 : Int32) (w : Int32) (h : Hp), run 2 1008 44 [l0, l1, l2, l3, some (vi w1), some (vi w)] [] h = run 2 1008 47 [l0, l1, l2, l3, some (vi w1), some (vi (w + (1 : Int32)))] [] h) ∧
  (∀ (l0 l1 l2 l3 : Option AV) (w1 : Option Rf) (w : Int32) (h : Hp), run 2 1008 44 [l0, l1, l2, l3, some (vo w1), some (vi w)] [] h = run 2 1008 47 [l0, l1, l2, l3, some (vo w1), some (vi (w + (1 : Int32)))] [] h) ∧
  (∀ (l0 l1 l2 l3 l4 l5 : Option AV) (h : Hp), run 2 1008 47 [l0, l1, l2, l3, l4, l5] [] h = run 2 1008 7 [l0, l1, l2, l3, l4, l5] [] h) ∧
  (∀ (l0 l1 l2 l3 l5 : Option AV) (w : Int32) (h : Hp), run 2 1008 50 [l0, l1, l2, l3, some (vi w), l5] [] h = run 2 1008 52 [l0, l1, l2, l3, some (vi w), l5] [vi w] h) ∧
  (∀ (l0 l1 l2 l3 l4 l5 : Option AV) (s0 : Int32) (h : Hp), run 2 1008 52 [l0, l1, l2, l3, l4, l5] [vi s0] h = some (some (vi s0), h)) := ⟨(fun _ _ _ _ _ _ _ => run_next rfl rfl),
  (fun _ _ _ _ _ s0 _ => run_next rfl rfl),
  (fun _ _ _ _ _ s0 _ _ => run_next rfl rfl),
  (fun _ _ _ _ _ s0 _ _ => run_next rfl rfl),
  (fun _ _ _ _ _ _ _ => run_next rfl rfl),
  (fun _ _ _ _ _ s0 _ => run_next rfl rfl),
  (fun _ _ _ _ _ s0 _ _ => run_next rfl rfl),
  (fun _ _ _ _ _ s0 _ _ => run_next rfl rfl),
  (fun _ _ _ _ _ s0 _ _ => run_next rfl rfl),
  (fun _ _ _ _ _ _ _ _ _ _ => run_next rfl rfl),
  (fun _ _ _ _ _ _ s0 _ _ => run_if rfl rfl (run_next rfl) (run_next rfl)),
  (fun _ _ _ _ _ _ _ => run_next rfl rfl),
  (fun _ _ _ _ _ s0 _ _ => run_next rfl rfl),
  (fun _ _ _ _ _ _ s0 _ _ => run_if rfl rfl (run_next rfl) (run_next rfl)),
  (fun _ _ _ _ _ _ _ => run_next rfl rfl),
  (fun _ _ _ _ _ s0 _ _ => run_next rfl rfl),
  (fun _ _ _ _ _ _ _ _ _ _ => run_next rfl rfl),
  (fun _ _ _ _ _ s0 _ _ _ => run_next rfl rfl),
  (fun _ _ _ _ _ s0 _ _ _ _ => run_next rfl rfl),
  (fun _ _ _ _ _ s0 _ _ _ _ _ => run_next rfl rfl),
  (fun _ _ _ _ _ s0 _ _ _ _ _ _ => run_next rfl rfl),
  (fun _ _ _ _ _ _ s0 _ _ _ _ _ _ _ => run_calx rfl rfl (Nat.le_of_ble_eq_true rfl) (Nat.le_of_ble_eq_true rfl) rfl),
  (fun _ _ _ _ _ _ s0 _ _ _ _ _ => run_calx rfl rfl (Nat.le_of_ble_eq_true rfl) (Nat.le_of_ble_eq_true rfl) rfl),
  (fun _ _ _ _ _ _ s0 _ _ => run_next rfl rfl),
  (fun _ _ _ _ _ s0 _ => run_next rfl rfl),
  (fun _ _ _ _ _ s0 _ _ => run_next rfl rfl),
  (fun _ _ _ _ _ s0 _ _ => run_next rfl rfl),
  (fun _ _ _ _ _ _ => run_next rfl rfl),
  (fun _ _ _ _ _ _ _ => run_next rfl rfl),
  (fun _ _ _ _ _ _ _ => run_next rfl rfl),
  (fun _ _ _ _ _ _ _ => run_next rfl rfl),
  (fun _ _ _ _ _ _ _ => run_next rfl rfl),
  (fun _ _ _ _ _ _ s0 _ => run_ret rfl rfl)⟩
set_option maxRecDepth 20000 in
theorem x_1008_7 : (∀ (l0 l1 l2 l3 l4 : Option AV) (w : Int32) (h : Hp), run 2 1008 7 [l0, l1, l2, l3, l4, some (vi w)] [] h = run 2 1008 9 [l0, l1, l2, l3, l4, some (vi w)] [vi w] h) := (fun _ _ _ _ _ _ _ => run_next rfl rfl)
theorem e_1008 (v : Option Rf) (a0 : Int32) (a1 : Int32) (a2 : Int32) (h : Hp) : call 1008 [vo v, vi a0, vi a1, vi a2] h = run 2 1008 0 [some (vo v), some (vi a0), some (vi a1), some (vi a2), none, none] [] h := rfl
set_option maxRecDepth 20000 in
theorem x_1009 : (∀ (l1 l2 : Option AV) (w : Option Rf) (h : Hp), run 5 1009 0 [some (vo w), l1, l2] [] h = run 5 1009 1 [some (vo w), l1, l2] [vo w] h) ∧
  (∀ (l1 l2 : Option AV) (s0 : Option Rf) (w : Option Rf) (h : Hp), run 5 1009 1 [some (vo w), l1, l2] [vo s0] h = run 5 1009 2 [some (vo w), l1, l2] [vo w, vo s0] h) ∧
  (∀ (l0 l1 l2 : Option AV) (s1 : Option Rf) (o z : Nat) (h : Hp), run 5 1009 2 [l0, l1, l2] [vo (some (o, 10, z)), vo s1] h = run 5 1009 5 [l0, l1, l2] [vi (hI h o 2), vo s1] h) ∧
  (∀ (l0 l1 l2 : Option AV) (s0 : Int32) (o z : Nat) (h : Hp), run 5 1009 5 [l0, l1, l2] [vi s0, vo (some (o, 10, z))] h = (call 1011 [vo (some (o, 10, z)), vi s0] h).bind (fun z => run 5 1009 8 [l0, l1, l2] (z.1.toList ++ []) z.2)) ∧
  (∀ (l0 l1 l2 : Option AV) (h : Hp), run 5 1009 8 [l0, l1, l2] [] h = run 5 1009 9 [l0, l1, l2] [vi (0 : Int32)] h) ∧
  (∀ (l1 l2 : Option AV) (s0 : Int32) (h : Hp), run 5 1009 9 [none, l1, l2] [vi s0] h = run 5 1009 10 [none, some (vi s0), l2] [] h) ∧
  (∀ (l1 l2 : Option AV) (s0 : Int32) (w1 : Int32) (h : Hp), run 5 1009 9 [some (vi w1), l1, l2] [vi s0] h = run 5 1009 10 [some (vi w1), some (vi s0), l2] [] h) ∧
  (∀ (l1 l2 : Option AV) (s0 : Int32) (w1 : Option Rf) (h : Hp), run 5 1009 9 [some (vo w1), l1, l2] [vi s0] h = run 5 1009 10 [some (vo w1), some (vi s0), l2] [] h) ∧
  (∀ (l0 l1 l2 : Option AV) (h : Hp), run 5 1009 10 [l0, l1, l2] [] h = run 5 1009 11 [l0, l1, l2] [vi (0 : Int32)] h) ∧
  (∀ (l0 l2 : Option AV) (s0 : Int32) (h : Hp), run 5 1009 11 [l0, none, l2] [vi s0] h = run 5 1009 12 [l0, none, some (vi s0)] [] h) ∧
  (∀ (l0 l2 : Option AV) (s0 : Int32) (w1 : Int32) (h : Hp), run 5 1009 11 [l0, some (vi w1), l2] [vi s0] h = run 5 1009 12 [l0, some (vi w1), some (vi s0)] [] h) ∧
  (∀ (l0 l2 : Option AV) (s0 : Int32) (w1 : Option Rf) (h : Hp), run 5 1009 11 [l0, some (vo w1), l2] [vi s0] h = run 5 1009 12 [l0, some (vo w1), some (vi s0)] [] h) ∧
  (∀ (l1 l2 : Option AV) (s0 : Int32) (w : Option Rf) (h : Hp), run 5 1009 13 [some (vo w), l1, l2] [vi s0] h = run 5 1009 14 [some (vo w), l1, l2] [vo w, vi s0] h) ∧
  (∀ (l0 l1 l2 : Option AV) (s1 : Int32) (o z : Nat) (h : Hp), run 5 1009 14 [l0, l1, l2] [vo (some (o, 10, z)), vi s1] h = run 5 1009 17 [l0, l1, l2] [vi (hI h o 3), vi s1] h) ∧
  (∀ (l0 l1 l2 : Option AV) (s0 : Int32) (s1 : Int32) (h : Hp), run 5 1009 17 [l0, l1, l2] [vi s0, vi s1] h = if s0 ≤ s1 then run 5 1009 52 [l0, l1, l2] [] h else run 5 1009 20 [l0, l1, l2] [] h) ∧
  (∀ (l1 l2 : Option AV) (w : Option Rf) (h : Hp), run 5 1009 20 [some (vo w), l1, l2] [] h = run 5 1009 21 [some (vo w), l1, l2] [vo w] h) ∧
  (∀ (l0 l1 : Option AV) (s0 : Option Rf) (w : Int32) (h : Hp), run 5 1009 21 [l0, l1, some (vi w)] [vo s0] h = run 5 1009 22 [l0, l1, some (vi w)] [vi w, vo s0] h) ∧
  (∀ (l1 l2 : Option AV) (s0 : Int32) (s1 : Option Rf) (w : Option Rf) (h : Hp), run 5 1009 22 [some (vo w), l1, l2] [vi s0, vo s1] h = run 5 1009 23 [some (vo w), l1, l2] [vo w, vi s0, vo s1] h) ∧
  (∀ (l0 l1 l2 : Option AV) (s1 : Int32) (s2 : Option Rf) (o z : Nat) (h : Hp), run 5 1009 23 [l0, l1, l2] [vo (some (o, 10, z)), vi s1, vo s2] h = run 5 1009 26 [l0, l1, l2] [vi (hI h o 2), vi s1, vo s2] h) ∧
  (∀ (l0 l1 l2 : Option AV) (s0 : Int32) (s1 : Int32) (o z : Nat) (h : Hp), run 5 1009 26 [l0, l1, l2] [vi s0, vi s1, vo (some (o, 10, z))] h = (call 1006 [vo (some (o, 10, z)), vi s1, vi s0] h).bind (fun z => run 5 1009 29 [l0, l1, l2] (z.1.toList ++ []) z.2)) ∧
  (∀ (l1 l2 : Option AV) (s0 : Int32) (w : Option Rf) (h : Hp), run 5 1009 29 [some (vo w), l1, l2] [vi s0] h = run 5 1009 30 [some (vo w), l1, l2] [vo w, vi s0] h) ∧
  (∀ (l0 l1 : Option AV) (s0 : Option Rf) (s1 : Int32) (w : Int32) (h : Hp), run 5 1009 30 [l0, l1, some (vi w)] [vo s0, vi s1] h = run 5 1009 31 [l0, l1, some (vi w)] [vi w, vo s0, vi s1] h) ∧
  (∀ (l1 l2 : Option AV) (s0 : Int32) (s1 : Option Rf) (s2 : Int32) (w : Option Rf) (h : Hp), run 5 1009 31 [some (vo w), l1, l2] [vi s0, vo s1, vi s2] h = run 5 1009 32 [some (vo w), l1, l2] [vo w, vi s0, vo s1, vi s2] h) ∧
  (∀ (l0 l1 l2 : Option AV) (s1 : Int32) (s2 : Option Rf) (s3 : Int32) (o z : Nat) (h : Hp), run 5 1009 32 [l0, l1, l2] [vo (some (o, 10, z)), vi s1, vo s2, vi s3] h = run 5 1009 35 [l0, l1, l2] [vi (hI h o 2), vi s1, vo s2, vi s3] h) ∧
  (∀ (l0 l1 l2 : Option AV) (s0 : Int32) (s1 : Int32) (s2 : Option Rf) (s3 : Int32) (h : Hp), run 5 1009 35 [l0, l1, l2] [vi s0, vi s1, vo s2, vi s3] h = run 5 1009 36 [l0, l1, l2] [vi (1 : Int32), vi s0, vi s1, vo s2, vi s3] h) ∧
  (∀ (l0 l1 l2 : Option AV) (s0 : Int32) (s1 : Int32) (s2 : Int32) (s3 : Option Rf) (s4 : Int32) (h : Hp), run 5 1009 36 [l0, l1, l2] [vi s0, vi s1, vi s2, vo s3, vi s4] h = run 5 1009 37 [l0, l1, l2] [vi (s1 + s0), vi s2, vo s3, vi s4] h) ∧
  (∀ (l0 l1 l2 : Option AV) (s0 : Int32) (s1 : Int32) (s3 : Int32) (o z : Nat) (h : Hp), run 5 1009 37 [l0, l1, l2] [vi s0, vi s1, vo (some (o, 10, z)), vi s3] h = (call 1006 [vo (some (o, 10, z)), vi s1, vi s0] h).bind (fun z => run 5 1009 40 [l0, l1, l2] (z.1.toList ++ [vi s3]) z.2)) ∧
  (∀ (l0 l1 l2 : Option AV) (s0 : Int32) (s1 : Int32) (h : Hp), run 5 1009 40 [l0, l1, l2] [vi s0, vi s1] h = if s1 = s0 then run 5 1009 46 [l0, l1, l2] [] h else run 5 1009 43 [l0, l1, l2] [] h) ∧
  (∀ (l2 : Option AV) (w : Int32) (h : Hp), run 5 1009 43 [none, some (vi w), l2] [] h = run 5 1009 46 [none, some (vi (w + (1 : Int32))), l2] [] h) ∧
  (∀ (l2 : Option AV) (w1 : Int32) (w : Int32) (h : Hp), run 5 1009 43 [some (vi w1), some (vi w), l2] [] h = run 5 1009 46 [some (vi w1), some (vi (w + (1 : Int32))), l2] [] h) ∧
  (∀ (l2 : Option AV) (w1 : Option Rf) (w : Int32) (h : Hp), run 5 1009 43 [some (vo w1), some (vi w), l2] [] h = run 5 1009 46 [some (vo w1), some (vi (w + (1 : Int32))), l2] [] h) ∧
  (∀ (l0 : Option AV) (w : Int32) (h : Hp), run 5 1009 46 [l0, none, some (vi w)] [] h = run 5 1009 49 [l0, none, some (vi (w + (1 : Int32)))] [] h) ∧
  (∀ (l0 : Option AV) (w1 : Int32) (w : Int32) (h : Hp), run 5 1009 46 [l0, some (vi w1), some (vi w)] [] h = run 5 1009 49 [l0, some (vi w1), some (vi (w + (1 : Int32)))] [] h) ∧
  (∀ (l0 : Option AV) (w1 : Option Rf) (w : Int32) (h : Hp), run 5 1009 46 [l0, some (vo w1), some (vi w)] [] h = run 5 1009 49 [l0, some (vo w1), some (vi (w + (1 : Int32)))] [] h) ∧
  (∀ (l0 l1 l2 : Option AV) (h : Hp), run 5 1009 49 [l0, l1, l2] [] h = run 5 1009 12 [l0, l1, l2] [] h) ∧
  (∀ (l1 l2 : Option AV) (w : Option Rf) (h : Hp), run 5 1009 52 [some (vo w), l1, l2] [] h = run 5 1009 53 [some (vo w), l1, l2] [vo w] h) ∧
  (∀ (l0 l1 l2 : Option AV) (s0 : Option Rf) (h : Hp), run 5 1009 53 [l0, l1, l2] [vo s0] h = run 5 1009 54 [l0, l1, l2] [vo s0, vo s0] h) ∧
  (∀ (l0 l1 l2 : Option AV) (s1 : Option Rf) (o z : Nat) (h : Hp), run 5 1009 54 [l0, l1, l2] [vo (some (o, 10, z)), vo s1] h = run 5 1009 57 [l0, l1, l2] [vi (hI h o 2), vo s1] h) ∧
  (∀ (l0 l1 l2 : Option AV) (s0 : Int32) (s1 : Option Rf) (h : Hp), run 5 1009 57 [l0, l1, l2] [vi s0, vo s1] h = run 5 1009 58 [l0, l1, l2] [vi (1 : Int32), vi s0, vo s1] h) ∧
  (∀ (l0 l1 l2 : Option AV) (s0 : Int32) (s1 : Int32) (s2 : Option Rf) (h : Hp), run 5 1009 58 [l0, l1, l2] [vi s0, vi s1, vo s2] h = run 5 1009 59 [l0, l1, l2] [vi (s1 + s0), vo s2] h) ∧
  (∀ (l0 l1 l2 : Option AV) (s0 : Int32) (o z : Nat) (h : Hp), run 5 1009 59 [l0, l1, l2] [vi s0, vo (some (o, 10, z))] h = run 5 1009 62 [l0, l1, l2] [] (hsI h o 2 s0)) ∧
  (∀ (l0 l2 : Option AV) (w : Int32) (h : Hp), run 5 1009 62 [l0, some (vi w), l2] [] h = run 5 1009 63 [l0, some (vi w), l2] [vi w] h) ∧
  (∀ (l0 l1 l2 : Option AV) (s0 : Int32) (h : Hp), run 5 1009 63 [l0, l1, l2] [vi s0] h = some (some (vi s0), h)) := ⟨(fun _ _ _ _ => run_next rfl rfl),
  (fun _ _ s0 _ _ => run_next rfl rfl),
  (fun _ _ _ _ _ _ _ => run_next rfl rfl),
  (fun _ _ _ s0 _ _ _ => run_calx rfl rfl (Nat.le_of_ble_eq_true rfl) (Nat.le_of_ble_eq_true rfl) rfl),
  (fun _ _ _ _ => run_next rfl rfl),
  (fun _ _ s0 _ => run_next rfl rfl),
  (fun _ _ s0 _ _ => run_next rfl rfl),
  (fun _ _ s0 _ _ => run_next rfl rfl),
  (fun _ _ _ _ => run_next rfl rfl),
  (fun _ _ s0 _ => run_next rfl rfl),
  (fun _ _ s0 _ _ => run_next rfl rfl),
  (fun _ _ s0 _ _ => run_next rfl rfl),
  (fun _ _ s0 _ _ => run_next rfl rfl),
  (fun _ _ _ _ _ _ _ => run_next rfl rfl),
  (fun _ _ _ s0 _ _ => run_if rfl rfl (run_next rfl) (run_next rfl)),
  (fun _ _ _ _ => run_next rfl rfl),
  (fun _ _ s0 _ _ => run_next rfl rfl),
  (fun _ _ s0 _ _ _ => run_next rfl rfl),
  (fun _ _ _ _ _ _ _ _ => run_next rfl rfl),
  (fun _ _ _ s0 _ _ _ _ => run_calx rfl rfl (Nat.le_of_ble_eq_true rfl) (Nat.le_of_ble_eq_true rfl) rfl),
  (fun _ _ s0 _ _ => run_next rfl rfl),
  (fun _ _ s0 _ _ _ => run_next rfl rfl),
  (fun _ _ s0 _ _ _ _ => run_next rfl rfl),
  (fun _ _ _ _ _ _ _ _ _ => run_next rfl rfl),
  (fun _ _ _ s0 _ _ _ _ => run_next rfl rfl),
  (fun _ _ _ s0 _ _ _ _ _ => run_next rfl rfl),
  (fun _ _ _ s0 _ _ _ _ _ => run_calx rfl rfl (Nat.le_of_ble_eq_true rfl) (Nat.le_of_ble_eq_true rfl) rfl),
  (fun _ _ _ s0 _ _ => run_if rfl rfl (run_next rfl) (run_next rfl)),
  (fun _ _ _ => run_next rfl rfl),
  (fun _ _ _ _ => run_next rfl rfl),
  (fun _ _ _ _ => run_next rfl rfl),
  (fun _ _ _ => run_next rfl rfl),
  (fun _ _ _ _ => run_next rfl rfl),
  (fun _ _ _ _ => run_next rfl rfl),
  (fun _ _ _ _ => run_next rfl rfl),
  (fun _ _ _ _ => run_next rfl rfl),
  (fun _ _ _ s0 _ => run_next rfl rfl),
  (fun _ _ _ _ _ _ _ => run_next rfl rfl),
  (fun _ _ _ s0 _ _ => run_next rfl rfl),
  (fun _ _ _ s0 _ _ _ => run_next rfl rfl),
  (fun _ _ _ s0 _ _ _ => run_next rfl rfl),
  (fun _ _ _ _ => run_next rfl rfl),
  (fun _ _ _ s0 _ => run_ret rfl rfl)⟩
set_option maxRecDepth 20000 in
theorem x_1009_12 : (∀ (l0 l1 : Option AV) (w : Int32) (h : Hp), run 5 1009 12 [l0, l1, some (vi w)] [] h = run 5 1009 13 [l0, l1, some (vi w)] [vi w] h) := (fun _ _ _ _ => run_next rfl rfl)
theorem e_1009 (v : Option Rf) (h : Hp) : call 1009 [vo v] h = run 5 1009 0 [some (vo v), none, none] [] h := rfl
set_option maxRecDepth 20000 in
theorem x_1010 : (∀ (l0 l1 l2 : Option AV) (h : Hp), run 5 1010 0 [l0, l1, l2] [] h = run 5 1010 1 [l0, l1, l2] [vi (0 : Int32)] h) ∧
  (∀ (l0 l2 : Option AV) (s0 : Int32) (h : Hp), run 5 1010 1 [l0, none, l2] [vi s0] h = run 5 1010 2 [l0, none, some (vi s0)] [] h) ∧
  (∀ (l0 l2 : Option AV) (s0 : Int32) (w1 : Int32) (h : Hp), run 5 1010 1 [l0, some (vi w1), l2] [vi s0] h = run 5 1010 2 [l0, some (vi w1), some (vi s0)] [] h) ∧
  (∀ (l0 l2 : Option AV) (s0 : Int32) (w1 : Option Rf) (h : Hp), run 5 1010 1 [l0, some (vo w1), l2] [vi s0] h = run 5 1010 2 [l0, some (vo w1), some (vi s0)] [] h) ∧
  (∀ (l0 l2 : Option AV) (s0 : Int32) (w : Int32) (h : Hp), run 5 1010 3 [l0, some (vi w), l2] [vi s0] h = run 5 1010 4 [l0, some (vi w), l2] [vi w, vi s0] h) ∧
  (∀ (l0 l1 l2 : Option AV) (s0 : Int32) (s1 : Int32) (h : Hp), run 5 1010 4 [l0, l1, l2] [vi s0, vi s1] h = if s0 ≤ s1 then run 5 1010 23 [l0, l1, l2] [] h else run 5 1010 7 [l0, l1, l2] [] h) ∧
  (∀ (l1 l2 : Option AV) (w : Option Rf) (h : Hp), run 5 1010 7 [some (vo w), l1, l2] [] h = run 5 1010 8 [some (vo w), l1, l2] [vo w] h) ∧
  (∀ (l1 l2 : Option AV) (s0 : Option Rf) (w : Option Rf) (h : Hp), run 5 1010 8 [some (vo w), l1, l2] [vo s0] h = run 5 1010 9 [some (vo w), l1, l2] [vo w, vo s0] h) ∧
  (∀ (l0 l1 l2 : Option AV) (s1 : Option Rf) (o z : Nat) (h : Hp), run 5 1010 9 [l0, l1, l2] [vo (some (o, 10, z)), vo s1] h = run 5 1010 12 [l0, l1, l2] [vi (hI h o 2), vo s1] h) ∧
  (∀ (l0 l1 : Option AV) (s0 : Int32) (s1 : Option Rf) (w : Int32) (h : Hp), run 5 1010 12 [l0, l1, some (vi w)] [vi s0, vo s1] h = run 5 1010 13 [l0, l1, some (vi w)] [vi w, vi s0, vo s1] h) ∧
  (∀ (l0 l1 l2 : Option AV) (s0 : Int32) (s1 : Int32) (s2 : Option Rf) (h : Hp), run 5 1010 13 [l0, l1, l2] [vi s0, vi s1, vo s2] h = run 5 1010 14 [l0, l1, l2] [vi (s1 + s0), vo s2] h) ∧
  (∀ (l0 l1 l2 : Option AV) (s0 : Int32) (o z : Nat) (h : Hp), run 5 1010 14 [l0, l1, l2] [vi s0, vo (some (o, 10, z))] h = (call 1011 [vo (some (o, 10, z)), vi s0] h).bind (fun z => run 5 1010 17 [l0, l1, l2] (z.1.toList ++ []) z.2)) ∧
  (∀ (l0 : Option AV) (w : Int32) (h : Hp), run 5 1010 17 [l0, none, some (vi w)] [] h = run 5 1010 20 [l0, none, some (vi (w + (1 : Int32)))] [] h) ∧
  (∀ (l0 : Option AV) (w1 : Int32) (w : Int32) (h : Hp), run 5 1010 17 [l0, some (vi w1), some (vi w)] [] h = run 5 1010 20 [l0, some (vi w1), some (vi (w + (1 : Int32)))] [] h) ∧
  (∀ (l0 : Option AV) (w1 : Option Rf) (w : Int32) (h : Hp), run 5 1010 17 [l0, some (vo w1), some (vi w)] [] h = run 5 1010 20 [l0, some (vo w1), some (vi (w + (1 : Int32)))] [] h) ∧
  (∀ (l0 l1 l2 : Option AV) (h : Hp), run 5 1010 20 [l0, l1, l2] [] h = run 5 1010 2 [l0, l1, l2] [] h) ∧
  (∀ (l0 l1 l2 : Option AV) (h : Hp), run 5 1010 23 [l0, l1, l2] [] h = some (none, h)) := ⟨(fun _ _ _ _ => run_next rfl rfl),
  (fun _ _ s0 _ => run_next rfl rfl),
  (fun _ _ s0 _ _ => run_next rfl rfl),
  (fun _ _ s0 _ _ => run_next rfl rfl),
  (fun _ _ s0 _ _ => run_next rfl rfl),
  (fun _ _ _ s0 _ _ => run_if rfl rfl (run_next rfl) (run_next rfl)),
  (fun _ _ _ _ => run_next rfl rfl),
  (fun _ _ s0 _ _ => run_next rfl rfl),
  (fun _ _ _ _ _ _ _ => run_next rfl rfl),
  (fun _ _ s0 _ _ _ => run_next rfl rfl),
  (fun _ _ _ s0 _ _ _ => run_next rfl rfl),
  (fun _ _ _ s0 _ _ _ => run_calx rfl rfl (Nat.le_of_ble_eq_true rfl) (Nat.le_of_ble_eq_true rfl) rfl),
  (fun _ _ _ => run_next rfl rfl),
  (fun _ _ _ _ => run_next rfl rfl),
  (fun _ _ _ _ => run_next rfl rfl),
  (fun _ _ _ _ => run_next rfl rfl),
  (fun _ _ _ _ => run_ret rfl rfl)⟩
set_option maxRecDepth 20000 in
theorem x_1010_2 : (∀ (l0 l1 : Option AV) (w : Int32) (h : Hp), run 5 1010 2 [l0, l1, some (vi w)] [] h = run 5 1010 3 [l0, l1, some (vi w)] [vi w] h) := (fun _ _ _ _ => run_next rfl rfl)
theorem e_1010 (v : Option Rf) (a0 : Int32) (h : Hp) : call 1010 [vo v, vi a0] h = run 5 1010 0 [some (vo v), some (vi a0), none] [] h := rfl
set_option maxRecDepth 20000 in
theorem x_1011 : (∀ (l0 l2 l3 l4 : Option AV) (w : Int32) (h : Hp), run 4 1011 0 [l0, some (vi w), l2, l3, l4] [] h = run 4 1011 1 [l0, some (vi w), l2, l3, l4] [vi w] h) ∧
  (∀ (l0 l1 l2 l3 l4 : Option AV) (s0 : Int32) (h : Hp), run 4 1011 1 [l0, l1, l2, l3, l4] [vi s0] h = if s0 < 0 then run 4 1011 10 [l0, l1, l2, l3, l4] [] h else run 4 1011 4 [l0, l1, l2, l3, l4] [] h) ∧
  (∀ (l0 l2 l3 l4 : Option AV) (w : Int32) (h : Hp), run 4 1011 4 [l0, some (vi w), l2, l3, l4] [] h = run 4 1011 5 [l0, some (vi w), l2, l3, l4] [vi w] h) ∧
  (∀ (l0 l1 l2 l3 l4 : Option AV) (s0 : Int32) (h : Hp), run 4 1011 5 [l0, l1, l2, l3, l4] [vi s0] h = run 4 1011 7 [l0, l1, l2, l3, l4] [vi (120 : Int32), vi s0] h) ∧
  (∀ (l0 l1 l2 l3 l4 : Option AV) (s0 : Int32) (s1 : Int32) (h : Hp), run 4 1011 7 [l0, l1, l2, l3, l4] [vi s0, vi s1] h = if s1 < s0 then run 4 1011 11 [l0, l1, l2, l3, l4] [] h else run 4 1011 10 [l0, l1, l2, l3, l4] [] h) ∧
  (∀ (l0 l1 l2 l3 l4 : Option AV) (h : Hp), run 4 1011 10 [l0, l1, l2, l3, l4] [] h = some (none, h)) ∧
  (∀ (l0 l1 l2 l3 l4 : Option AV) (h : Hp), run 4 1011 11 [l0, l1, l2, l3, l4] [] h = run 4 1011 12 [l0, l1, l2, l3, l4] [vi (0 : Int32)] h) ∧
  (∀ (l0 l2 l3 l4 : Option AV) (s0 : Int32) (h : Hp), run 4 1011 12 [l0, none, l2, l3, l4] [vi s0] h = run 4 1011 13 [l0, none, some (vi s0), l3, l4] [] h) ∧
  (∀ (l0 l2 l3 l4 : Option AV) (s0 : Int32) (w1 : Int32) (h : Hp), run 4 1011 12 [l0, some (vi w1), l2, l3, l4] [vi s0] h = run 4 1011 13 [l0, some (vi w1), some (vi s0), l3, l4] [] h) ∧
  (∀ (l0 l2 l3 l4 : Option AV) (s0 : Int32) (w1 : Option Rf) (h : Hp), run 4 1011 12 [l0, some (vo w1), l2, l3, l4] [vi s0] h = run 4 1011 13 [l0, some (vo w1), some (vi s0), l3, l4] [] h) ∧
  (∀ (l1 l2 l3 l4 : Option AV) (s0 : Int32) (w : Option Rf) (h : Hp), run 4 1011 14 [some (vo w), l1, l2, l3, l4] [vi s0] h = run 4 1011 15 [some (vo w), l1, l2, l3, l4] [vo w, vi s0] h) ∧
  (∀ (l0 l1 l2 l3 l4 : Option AV) (s1 : Int32) (o z : Nat) (h : Hp), run 4 1011 15 [l0, l1, l2, l3, l4] [vo (some (o, 10, z)), vi s1] h = run 4 1011 18 [l0, l1, l2, l3, l4] [vi (hI h o 3), vi s1] h) ∧
  (∀ (l0 l1 l2 l3 l4 : Option AV) (s0 : Int32) (s1 : Int32) (h : Hp), run 4 1011 18 [l0, l1, l2, l3, l4] [vi s0, vi s1] h = if s0 ≤ s1 then run 4 1011 94 [l0, l1, l2, l3, l4] [] h else run 4 1011 21 [l0, l1, l2, l3, l4] [] h) ∧
  (∀ (l1 l2 l3 l4 : Option AV) (w : Option Rf) (h : Hp), run 4 1011 21 [some (vo w), l1, l2, l3, l4] [] h = run 4 1011 22 [some (vo w), l1, l2, l3, l4] [vo w] h) ∧
  (∀ (l0 l1 l2 l3 l4 : Option AV) (o z : Nat) (h : Hp), run 4 1011 22 [l0, l1, l2, l3, l4] [vo (some (o, 10, z))] h = run 4 1011 25 [l0, l1, l2, l3, l4] [vo (hR h o 5)] h) ∧
  (∀ (l0 l1 l3 l4 : Option AV) (s0 : Option Rf) (w : Int32) (h : Hp), run 4 1011 25 [l0, l1, some (vi w), l3, l4] [vo s0] h = run 4 1011 26 [l0, l1, some (vi w), l3, l4] [vi w, vo s0] h) ∧
  (∀ (l0 l1 l2 l3 l4 : Option AV) (s0 : Int32) (o z : Nat) (h : Hp), run 4 1011 26 [l0, l1, l2, l3, l4] [vi s0, vo (some (o, 14, z))] h = if s0 < 0 ∨ z ≤ s0.toNatClampNeg then none else run 4 1011 27 [l0, l1, l2, l3, l4] [vo (hR h o s0.toNatClampNeg)] h) ∧
  (∀ (l0 l1 l2 l3 l4 : Option AV) (s0 : Int32) (o z : Nat) (h : Hp), run 4 1011 26 [l0, l1, l2, l3, l4] [vi s0, vo (some (o, 15, z))] h = if s0 < 0 ∨ z ≤ s0.toNatClampNeg then none else run 4 1011 27 [l0, l1, l2, l3, l4] [vo (hR h o s0.toNatClampNeg)] h) ∧
  (∀ (l0 l2 l3 l4 : Option AV) (s0 : Option Rf) (w : Int32) (h : Hp), run 4 1011 27 [l0, some (vi w), l2, l3, l4] [vo s0] h = run 4 1011 28 [l0, some (vi w), l2, l3, l4] [vi w, vo s0] h) ∧
  (∀ (l0 l1 l2 l3 l4 : Option AV) (s0 : Int32) (o z : Nat) (h : Hp), run 4 1011 28 [l0, l1, l2, l3, l4] [vi s0, vo (some (o, 13, z))] h = if s0 < 0 ∨ z ≤ s0.toNatClampNeg then none else run 4 1011 29 [l0, l1, l2, l3, l4] [vi (hI h o s0.toNatClampNeg)] h) ∧
  (∀ (l0 l1 l3 l4 : Option AV) (s0 : Int32) (h : Hp), run 4 1011 29 [l0, l1, none, l3, l4] [vi s0] h = run 4 1011 30 [l0, l1, none, some (vi s0), l4] [] h) ∧
  (∀ (l0 l1 l3 l4 : Option AV) (s0 : Int32) (w1 : Int32) (h : Hp), run 4 1011 29 [l0, l1, some (vi w1), l3, l4] [vi s0] h = run 4 1011 30 [l0, l1, some (vi w1), some (vi s0), l4] [] h) ∧
  (∀ (l0 l1 l3 l4 : Option AV) (s0 : Int32) (w1 : Option Rf) (h : Hp), run 4 1011 29 [l0, l1, some (vo w1), l3, l4] [vi s0] h = run 4 1011 30 [l0, l1, some (vo w1), some (vi s0), l4] [] h) ∧
  (∀ (l1 l2 l3 l4 : Option AV) (w : Option Rf) (h : Hp), run 4 1011 30 [some (vo w), l1, l2, l3, l4] [] h = run 4 1011 31 [some (vo w), l1, l2, l3, l4] [vo w] h) ∧
  (∀ (l0 l1 l2 l3 l4 : Option AV) (o z : Nat) (h : Hp), run 4 1011 31 [l0, l1, l2, l3, l4] [vo (some (o, 10, z))] h = run 4 1011 34 [l0, l1, l2, l3, l4] [vo (hR h o 4)] h) ∧
  (∀ (l0 l1 l3 l4 : Option AV) (s0 : Option Rf) (w : Int32) (h : Hp), run 4 1011 34 [l0, l1, some (vi w), l3, l4] [vo s0] h = run 4 1011 35 [l0, l1, some (vi w), l3, l4] [vi w, vo s0] h) ∧
  (∀ (l0 l1 l2 l3 l4 : Option AV) (s0 : Int32) (o z : Nat) (h : Hp), run 4 1011 35 [l0, l1, l2, l3, l4] [vi s0, vo (some (o, 14, z))] h = if s0 < 0 ∨ z ≤ s0.toNatClampNeg then none else run 4 1011 36 [l0, l1, l2, l3, l4] [vo (hR h o s0.toNatClampNeg)] h) ∧
  (∀ (l0 l1 l2 l3 l4 : Option AV) (s0 : Int32) (o z : Nat) (h : Hp), run 4 1011 35 [l0, l1, l2, l3, l4] [vi s0, vo (some (o, 15, z))] h = if s0 < 0 ∨ z ≤ s0.toNatClampNeg then none else run 4 1011 36 [l0, l1, l2, l3, l4] [vo (hR h o s0.toNatClampNeg)] h) ∧
  (∀ (l0 l1 l2 l3 l4 : Option AV) (h : Hp), run 4 1011 36 [l0, l1, l2, l3, l4] [vo none] h = run 4 1011 39 [l0, l1, l2, l3, l4] [] h) ∧
  (∀ (l0 l1 l2 l3 l4 : Option AV) (w : Rf) (h : Hp), run 4 1011 36 [l0, l1, l2, l3, l4] [vo (some w)] h = run 4 1011 43 [l0, l1, l2, l3, l4] [] h) ∧
  (∀ (l0 l1 l2 l4 : Option AV) (w : Int32) (h : Hp), run 4 1011 39 [l0, l1, l2, some (vi w), l4] [] h = run 4 1011 40 [l0, l1, l2, some (vi w), l4] [vi w] h) ∧
  (∀ (l0 l1 l2 l3 l4 : Option AV) (s0 : Int32) (h : Hp), run 4 1011 40 [l0, l1, l2, l3, l4] [vi s0] h = run 4 1011 63 [l0, l1, l2, l3, l4] [vi s0] h) ∧
  (∀ (l1 l2 l3 l4 : Option AV) (w : Option Rf) (h : Hp), run 4 1011 43 [some (vo w), l1, l2, l3, l4] [] h = run 4 1011 44 [some (vo w), l1, l2, l3, l4] [vo w] h) ∧
  (∀ (l0 l1 l2 l3 l4 : Option AV) (o z : Nat) (h : Hp), run 4 1011 44 [l0, l1, l2, l3, l4] [vo (some (o, 10, z))] h = run 4 1011 47 [l0, l1, l2, l3, l4] [vo (hR h o 0)] h) ∧
  (∀ (l0 l1 l2 l4 : Option AV) (s0 : Option Rf) (w : Int32) (h : Hp), run 4 1011 47 [l0, l1, l2, some (vi w), l4] [vo s0] h = run 4 1011 48 [l0, l1, l2, some (vi w), l4] [vi w, vo s0] h) ∧
  (∀ (l1 l2 l3 l4 : Option AV) (s0 : Int32) (s1 : Option Rf) (w : Option Rf) (h : Hp), run 4 1011 48 [some (vo w), l1, l2, l3, l4] [vi s0, vo s1] h = run 4 1011 49 [some (vo w), l1, l2, l3, l4] [vo w, vi s0, vo s1] h) ∧
  (∀ (l0 l1 l2 l3 l4 : Option AV) (s1 : Int32) (s2 : Option Rf) (o z : Nat) (h : Hp), run 4 1011 49 [l0, l1, l2, l3, l4] [vo (some (o, 10, z)), vi s1, vo s2] h = run 4 1011 52 [l0, l1, l2, l3, l4] [vo (hR h o 4), vi s1, vo s2] h) ∧
  (∀ (l0 l1 l3 l4 : Option AV) (s0 : Option Rf) (s1 : Int32) (s2 : Option Rf) (w : Int32) (h : Hp), run 4 1011 52 [l0, l1, some (vi w), l3, l4] [vo s0, vi s1, vo s2] h = run 4 1011 53 [l0, l1, some (vi w), l3, l4] [vi w, vo s0, vi s1, vo s2] h) ∧
  (∀ (l0 l1 l2 l3 l4 : Option AV) (s0 : Int32) (s2 : Int32) (s3 : Option Rf) (o z : Nat) (h : Hp), run 4 1011 53 [l0, l1, l2, l3, l4] [vi s0, vo (some (o, 14, z)), vi s2, vo s3] h = if s0 < 0 ∨ z ≤ s0.toNatClampNeg then none else run 4 1011 54 [l0, l1, l2, l3, l4] [vo (hR h o s0.toNatClampNeg), vi s2, vo s3] h) ∧
  (∀ (l0 l1 l2 l3 l4 : Option AV) (s0 : Int32) (s2 : Int32) (s3 : Option Rf) (o z : Nat) (h : Hp), run 4 1011 53 [l0, l1, l2, l3, l4] [vi s0, vo (some (o, 15, z)), vi s2, vo s3] h = if s0 < 0 ∨ z ≤ s0.toNatClampNeg then none else run 4 1011 54 [l0, l1, l2, l3, l4] [vo (hR h o s0.toNatClampNeg), vi s2, vo s3] h) ∧
  (∀ (l1 l2 l3 l4 : Option AV) (s0 : Option Rf) (s1 : Int32) (s2 : Option Rf) (w : Option Rf) (h : Hp), run 4 1011 54 [some (vo w), l1, l2, l3, l4] [vo s0, vi s1, vo s2] h = run 4 1011 55 [some (vo w), l1, l2, l3, l4] [vo w, vo s0, vi s1, vo s2] h) ∧
  (∀ (l0 l1 l3 l4 : Option AV) (s0 : Option Rf) (s1 : Option Rf) (s2 : Int32) (s3 : Option Rf) (w : Int32) (h : Hp), run 4 1011 55 [l0, l1, some (vi w), l3, l4] [vo s0, vo s1, vi s2, vo s3] h = run 4 1011 56 [l0, l1, some (vi w), l3, l4] [vi w, vo s0, vo s1, vi s2, vo s3] h) ∧
  (∀ (l0 l2 l3 l4 : Option AV) (s0 : Int32) (s1 : Option Rf) (s2 : Option Rf) (s3 : Int32) (s4 : Option Rf) (w : Int32) (h : Hp), run 4 1011 56 [l0, some (vi w), l2, l3, l4] [vi s0, vo s1, vo s2, vi s3, vo s4] h = run 4 1011 57 [l0, some (vi w), l2, l3, l4] [vi w, vi s0, vo s1, vo s2, vi s3, vo s4] h) ∧
  (∀ (l0 l1 l2 l3 l4 : Option AV) (s0 : Int32) (s1 : Int32) (s2 : Option Rf) (s4 : Int32) (s5 : Option Rf) (o z : Nat) (h : Hp), run 4 1011 57 [l0, l1, l2, l3, l4] [vi s0, vi s1, vo s2, vo (some (o, 9, z)), vi s4, vo s5] h = (call 903 [vo (some (o, 9, z)), vo s2, vi s1, vi s0] h).bind (fun z => run 4 1011 60 [l0, l1, l2, l3, l4] (z.1.toList ++ [vi s4, vo s5]) z.2)) ∧
  (∀ (l0 l1 l2 l3 l4 : Option AV) (s0 : Int32) (s1 : Int32) (s2 : Option Rf) (s4 : Int32) (s5 : Option Rf) (o z : Nat) (h : Hp), run 4 1011 57 [l0, l1, l2, l3, l4] [vi s0, vi s1, vo s2, vo (some (o, 3, z)), vi s4, vo s5] h = (call 302 [vo (some (o, 3, z)), vo s2, vi s1, vi s0] h).bind (fun z => run 4 1011 60 [l0, l1, l2, l3, l4] (z.1.toList ++ [vi s4, vo s5]) z.2)) ∧
  (∀ (l0 l1 l2 l3 l4 : Option AV) (s0 : Int32) (s1 : Int32) (s2 : Option Rf) (s4 : Int32) (s5 : Option Rf) (o z : Nat) (h : Hp), run 4 1011 57 [l0, l1, l2, l3, l4] [vi s0, vi s1, vo s2, vo (some (o, 2, z)), vi s4, vo s5] h = (call 202 [vo (some (o, 2, z)), vo s2, vi s1, vi s0] h).bind (fun z => run 4 1011 60 [l0, l1, l2, l3, l4] (z.1.toList ++ [vi s4, vo s5]) z.2)) ∧
  (∀ (l0 l1 l2 l3 l4 : Option AV) (s0 : Int32) (s1 : Int32) (s2 : Option Rf) (s4 : Int32) (s5 : Option Rf) (o z : Nat) (h : Hp), run 4 1011 57 [l0, l1, l2, l3, l4] [vi s0, vi s1, vo s2, vo (some (o, 1, z)), vi s4, vo s5] h = (call 302 [vo (some (o, 1, z)), vo s2, vi s1, vi s0] h).bind (fun z => run 4 1011 60 [l0, l1, l2, l3, l4] (z.1.toList ++ [vi s4, vo s5]) z.2)) ∧
  (∀ (l0 l1 l2 l3 l4 : Option AV) (s0 : Int32) (s1 : Int32) (s2 : Option Rf) (s4 : Int32) (s5 : Option Rf) (o z : Nat) (h : Hp), run 4 1011 57 [l0, l1, l2, l3, l4] [vi s0, vi s1, vo s2, vo (some (o, 8, z)), vi s4, vo s5] h = (call 802 [vo (some (o, 8, z)), vo s2, vi s1, vi s0] h).bind (fun z => run 4 1011 60 [l0, l1, l2, l3, l4] (z.1.toList ++ [vi s4, vo s5]) z.2)) ∧
  (∀ (l0 l1 l2 l3 l4 : Option AV) (s0 : Int32) (s1 : Int32) (s2 : Option Rf) (s4 : Int32) (s5 : Option Rf) (o z : Nat) (h : Hp), run 4 1011 57 [l0, l1, l2, l3, l4] [vi s0, vi s1, vo s2, vo (some (o, 6, z)), vi s4, vo s5] h = (call 302 [vo (some (o, 6, z)), vo s2, vi s1, vi s0] h).bind (fun z => run 4 1011 60 [l0, l1, l2, l3, l4] (z.1.toList ++ [vi s4, vo s5]) z.2)) ∧
  (∀ (l0 l1 l2 l3 l4 : Option AV) (s0 : Int32) (s1 : Int32) (o z : Nat) (h : Hp), run 4 1011 60 [l0, l1, l2, l3, l4] [vi s0, vi s1, vo (some (o, 5, z))] h = (call 506 [vo (some (o, 5, z)), vi s1, vi s0] h).bind (fun z => run 4 1011 63 [l0, l1, l2, l3, l4] (z.1.toList ++ []) z.2)) ∧
  (∀ (l0 l1 l2 l4 : Option AV) (s0 : Int32) (h : Hp), run 4 1011 63 [l0, l1, l2, none, l4] [vi s0] h = run 4 1011 65 [l0, l1, l2, none, some (vi s0)] [] h) ∧
  (∀ (l0 l1 l2 l4 : Option AV) (s0 : Int32) (w1 : Int32) (h : Hp), run 4 1011 63 [l0, l1, l2, some (vi w1), l4] [vi s0] h = run 4 1011 65 [l0, l1, l2, some (vi w1), some (vi s0)] [] h) ∧
  (∀ (l0 l1 l2 l4 : Option AV) (s0 : Int32) (w1 : Option Rf) (h : Hp), run 4 1011 63 [l0, l1, l2, some (vo w1), l4] [vi s0] h = run 4 1011 65 [l0, l1, l2, some (vo w1), some (vi s0)] [] h) ∧
  (∀ (l1 l2 l3 l4 : Option AV) (w : Option Rf) (h : Hp), run 4 1011 65 [some (vo w), l1, l2, l3, l4] [] h = run 4 1011 66 [some (vo w), l1, l2, l3, l4] [vo w] h) ∧
  (∀ (l0 l1 l2 l3 l4 : Option AV) (o z : Nat) (h : Hp), run 4 1011 66 [l0, l1, l2, l3, l4] [vo (some (o, 10, z))] h = run 4 1011 69 [l0, l1, l2, l3, l4] [vo (hR h o 5)] h) ∧
  (∀ (l0 l1 l3 l4 : Option AV) (s0 : Option Rf) (w : Int32) (h : Hp), run 4 1011 69 [l0, l1, some (vi w), l3, l4] [vo s0] h = run 4 1011 70 [l0, l1, some (vi w), l3, l4] [vi w, vo s0] h) ∧
  (∀ (l0 l1 l2 l3 l4 : Option AV) (s0 : Int32) (o z : Nat) (h : Hp), run 4 1011 70 [l0, l1, l2, l3, l4] [vi s0, vo (some (o, 14, z))] h = if s0 < 0 ∨ z ≤ s0.toNatClampNeg then none else run 4 1011 71 [l0, l1, l2, l3, l4] [vo (hR h o s0.toNatClampNeg)] h) ∧
  (∀ (l0 l1 l2 l3 l4 : Option AV) (s0 : Int32) (o z : Nat) (h : Hp), run 4 1011 70 [l0, l1, l2, l3, l4] [vi s0, vo (some (o, 15, z))] h = if s0 < 0 ∨ z ≤ s0.toNatClampNeg then none else run 4 1011 71 [l0, l1, l2, l3, l4] [vo (hR h o s0.toNatClampNeg)] h) ∧
  (∀ (l0 l2 l3 l4 : Option AV) (s0 : Option Rf) (w : Int32) (h : Hp), run 4 1011 71 [l0, some (vi w), l2, l3, l4] [vo s0] h = run 4 1011 72 [l0, some (vi w), l2, l3, l4] [vi w, vo s0] h) ∧
  (∀ (l0 l1 l2 l3 l4 : Option AV) (s0 : Int32) (s1 : Option Rf) (h : Hp), run 4 1011 72 [l0, l1, l2, l3, l4] [vi s0, vo s1] h = run 4 1011 73 [l0, l1, l2, l3, l4] [vi (1 : Int32), vi s0, vo s1] h) ∧
  (∀ (l0 l1 l2 l3 l4 : Option AV) (s0 : Int32) (s1 : Int32) (s2 : Option Rf) (h : Hp), run 4 1011 73 [l0, l1, l2, l3, l4] [vi s0, vi s1, vo s2] h = run 4 1011 74 [l0, l1, l2, l3, l4] [vi (s1 + s0), vo s2] h) ∧
  (∀ (l0 l1 l2 l3 : Option AV) (s0 : Int32) (s1 : Option Rf) (w : Int32) (h : Hp), run 4 1011 74 [l0, l1, l2, l3, some (vi w)] [vi s0, vo s1] h = run 4 1011 76 [l0, l1, l2, l3, some (vi w)] [vi w, vi s0, vo s1] h) ∧
  (∀ (l0 l1 l2 l3 l4 : Option AV) (s0 : Int32) (s1 : Int32) (s2 : Option Rf) (h : Hp), run 4 1011 76 [l0, l1, l2, l3, l4] [vi s0, vi s1, vo s2] h = run 4 1011 78 [l0, l1, l2, l3, l4] [vi (-9 : Int32), vi s0, vi s1, vo s2] h) ∧
  (∀ (l0 l1 l2 l3 l4 : Option AV) (s0 : Int32) (s1 : Int32) (s2 : Int32) (s3 : Option Rf) (h : Hp), run 4 1011 78 [l0, l1, l2, l3, l4] [vi s0, vi s1, vi s2, vo s3] h = if s1 = s0 then run 4 1011 81 [l0, l1, l2, l3, l4] [vi s2, vo s3] h else run 4 1011 85 [l0, l1, l2, l3, l4] [vi s2, vo s3] h) ∧
  (∀ (l0 l1 l2 l4 : Option AV) (s0 : Int32) (s1 : Option Rf) (w : Int32) (h : Hp), run 4 1011 81 [l0, l1, l2, some (vi w), l4] [vi s0, vo s1] h = run 4 1011 82 [l0, l1, l2, some (vi w), l4] [vi w, vi s0, vo s1] h) ∧
  (∀ (l0 l1 l2 l3 l4 : Option AV) (s0 : Int32) (s1 : Int32) (s2 : Option Rf) (h : Hp), run 4 1011 82 [l0, l1, l2, l3, l4] [vi s0, vi s1, vo s2] h = run 4 1011 87 [l0, l1, l2, l3, l4] [vi s0, vi s1, vo s2] h) ∧
  (∀ (l0 l1 l2 l3 : Option AV) (s0 : Int32) (s1 : Option Rf) (w : Int32) (h : Hp), run 4 1011 85 [l0, l1, l2, l3, some (vi w)] [vi s0, vo s1] h = run 4 1011 87 [l0, l1, l2, l3, some (vi w)] [vi w, vi s0, vo s1] h) ∧
  (∀ (l0 l1 l2 l3 l4 : Option AV) (s0 : Int32) (s1 : Int32) (o z : Nat) (h : Hp), run 4 1011 87 [l0, l1, l2, l3, l4] [vi s0, vi s1, vo (some (o, 13, z))] h = if s1 < 0 ∨ z ≤ s1.toNatClampNeg then none else run 4 1011 88 [l0, l1, l2, l3, l4] [] (hsI h o s1.toNatClampNeg s0)) ∧
  (∀ (l0 l3 l4 : Option AV) (w : Int32) (h : Hp), run 4 1011 88 [l0, none, some (vi w), l3, l4] [] h = run 4 1011 91 [l0, none, some (vi (w + (1 : Int32))), l3, l4] [] h) ∧
  (∀ (l0 l3 l4 : Option AV) (w1 : Int32) (w : Int32) (h : Hp), run 4 1011 88 [l0, some (vi w1), some (vi w), l3, l4] [] h = run 4 1011 91 [l0, some (vi w1), some (vi (w + (1 : Int32))), l3, l4] [] h) ∧
  (∀ (l0 l3 l4 : Option AV) (w1 : Option Rf) (w : Int32) (h : Hp), run 4 1011 88 [l0, some (vo w1), some (vi w), l3, l4] [] h = run 4 1011 91 [l0, some (vo w1), some (vi (w + (1 : Int32))), l3, l4] [] h) ∧
  (∀ (l0 l1 l2 l3 l4 : Option AV) (h : Hp), run 4 1011 91 [l0, l1, l2, l3, l4] [] h = run 4 1011 13 [l0, l1, l2, l3, l4] [] h) ∧
  (∀ (l0 l1 l2 l3 l4 : Option AV) (h : Hp), run 4 1011 94 [l0, l1, l2, l3, l4] [] h = some (none, h)) := ⟨(fun _ _ _ _ _ _ => run_next rfl rfl),
  (fun _ _ _ _ _ s0 _ => run_if rfl rfl (run_next rfl) (run_next rfl)),
  (fun _ _ _ _ _ _ => run_next rfl rfl),
  (fun _ _ _ _ _ s0 _ => run_next rfl rfl),
  (fun _ _ _ _ _ s0 _ _ => run_if rfl rfl (run_next rfl) (run_next rfl)),
  (fun _ _ _ _ _ _ => run_ret rfl rfl),
  (fun _ _ _ _ _ _ => run_next rfl rfl),
  (fun _ _ _ _ s0 _ => run_next rfl rfl),
  (fun _ _ _ _ s0 _ _ => run_next rfl rfl),
  (fun _ _ _ _ s0 _ _ => run_next rfl rfl),
  (fun _ _ _ _ s0 _ _ => run_next rfl rfl),
  (fun _ _ _ _ _ _ _ _ _ => run_next rfl rfl),
  (fun _ _ _ _ _ s0 _ _ => run_if rfl rfl (run_next rfl) (run_next rfl)),
  (fun _ _ _ _ _ _ => run_next rfl rfl),
  (fun _ _ _ _ _ _ _ _ => run_next rfl rfl),
  (fun _ _ _ _ s0 _ _ => run_next rfl rfl),
  (fun _ _ _ _ _ s0 _ _ _ => run_if rfl rfl (run_fail rfl) (run_next rfl)),
  (fun _ _ _ _ _ s0 _ _ _ => run_if rfl rfl (run_fail rfl) (run_next rfl)),
  (fun _ _ _ _ s0 _ _ => run_next rfl rfl),
  (fun _ _ _ _ _ s0 _ _ _ => run_if rfl rfl (run_fail rfl) (run_next rfl)),
  (fun _ _ _ _ s0 _ => run_next rfl rfl),
  (fun _ _ _ _ s0 _ _ => run_next rfl rfl),
  (fun _ _ _ _ s0 _ _ => run_next rfl rfl),
  (fun _ _ _ _ _ _ => run_next rfl rfl),
  (fun _ _ _ _ _ _ _ _ => run_next rfl rfl),
  (fun _ _ _ _ s0 _ _ => run_next rfl rfl),
  (fun _ _ _ _ _ s0 _ _ _ => run_if rfl rfl (run_fail rfl) (run_next rfl)),
  (fun _ _ _ _ _ s0 _ _ _ => run_if rfl rfl (run_fail rfl) (run_next rfl)),
  (fun _ _ _ _ _ _ => run_next rfl rfl),
  (fun _ _ _ _ _ _ _ => run_next rfl rfl),
  (fun _ _ _ _ _ _ => run_next rfl rfl),
  (fun _ _ _ _ _ s0 _ => run_next rfl rfl),
  (fun _ _ _ _ _ _ => run_next rfl rfl),
  (fun _ _ _ _ _ _ _ _ => run_next rfl rfl),
  (fun _ _ _ _ s0 _ _ => run_next rfl rfl),
  (fun _ _ _ _ s0 _ _ _ => run_next rfl rfl),
  (fun _ _ _ _ _ _ _ _ _ _ => run_next rfl rfl),
  (fun _ _ _ _ s0 _ _ _ _ => run_next rfl rfl),
  (fun _ _ _ _ _ s0 _ _ _ _ _ => run_if rfl rfl (run_fail rfl) (run_next rfl)),
  (fun _ _ _ _ _ s0 _ _ _ _ _ => run_if rfl rfl (run_fail rfl) (run_next rfl)),
  (fun _ _ _ _ s0 _ _ _ _ => run_next rfl rfl),
  (fun _ _ _ _ s0 _ _ _ _ _ => run_next rfl rfl),
  (fun _ _ _ _ s0 _ _ _ _ _ _ => run_next rfl rfl),
  (fun _ _ _ _ _ s0 _ _ _ _ _ _ _ => run_calx rfl rfl (Nat.le_of_ble_eq_true rfl) (Nat.le_of_ble_eq_true rfl) rfl),
  (fun _ _ _ _ _ s0 _ _ _ _ _ _ _ => run_calx rfl rfl (Nat.le_of_ble_eq_true rfl) (Nat.le_of_ble_eq_true rfl) rfl),
  (fun _ _ _ _ _ s0 _ _ _ _ _ _ _ => run_calx rfl rfl (Nat.le_of_ble_eq_true rfl) (Nat.le_of_ble_eq_true rfl) rfl),
  (fun _ _ _ _ _ s0 _ _ _ _ _ _ _ => run_calx rfl rfl (Nat.le_of_ble_eq_true rfl) (Nat.le_of_ble_eq_true rfl) rfl),
  (fun _ _ _ _ _ s0 _ _ _ _ _ _ _ => run_calx rfl rfl (Nat.le_of_ble_eq_true rfl) (Nat.le_of_ble_eq_true rfl) rfl),
  (fun _ _ _ _ _ s0 _ _ _ _ _ _ _ => run_calx rfl rfl (Nat.le_of_ble_eq_true rfl) (Nat.le_of_ble_eq_true rfl) rfl),
  (fun _ _ _ _ _ s0 _ _ _ _ => run_calx rfl rfl (Nat.le_of_ble_eq_true rfl) (Nat.le_of_ble_eq_true rfl) rfl),
  (fun _ _ _ _ s0 _ => run_next rfl rfl),
  (fun _ _ _ _ s0 _ _ => run_next rfl rfl),
  (fun _ _ _ _ s0 _ _ => run_next rfl rfl),
  (fun _ _ _ _ _ _ => run_next rfl rfl),
  (fun _ _ _ _ _ _ _ _ => run_next rfl rfl),
  (fun _ _ _ _ s0 _ _ => run_next rfl rfl),
  (fun _ _ _ _ _ s0 _ _ _ => run_if rfl rfl (run_fail rfl) (run_next rfl)),
  (fun _ _ _ _ _ s0 _ _ _ => run_if rfl rfl (run_fail rfl) (run_next rfl)),
  (fun _ _ _ _ s0 _ _ => run_next rfl rfl),
  (fun _ _ _ _ _ s0 _ _ => run_next rfl rfl),
  (fun _ _ _ _ _ s0 _ _ _ => run_next rfl rfl),
  (fun _ _ _ _ s0 _ _ _ => run_next rfl rfl),
  (fun _ _ _ _ _ s0 _ _ _ => run_next rfl rfl),
  (fun _ _ _ _ _ s0 _ _ _ _ => run_if rfl rfl (run_next rfl) (run_next rfl)),
  (fun _ _ _ _ s0 _ _ _ => run_next rfl rfl),
  (fun _ _ _ _ _ s0 _ _ _ => run_next rfl rfl),
  (fun _ _ _ _ s0 _ _ _ => run_next rfl rfl),
  (fun _ _ _ _ _ s0 _ _ _ _ => run_if rfl rfl (run_fail rfl) (run_next rfl)),
  (fun _ _ _ _ _ => run_next rfl rfl),
  (fun _ _ _ _ _ _ => run_next rfl rfl),
  (fun _ _ _ _ _ _ => run_next rfl rfl),
  (fun _ _ _ _ _ _ => run_next rfl rfl),
  (fun _ _ _ _ _ _ => run_ret rfl rfl)⟩
set_option maxRecDepth 20000 in
theorem x_1011_13 : (∀ (l0 l1 l3 l4 : Option AV) (w : Int32) (h : Hp), run 4 1011 13 [l0, l1, some (vi w), l3, l4] [] h = run 4 1011 14 [l0, l1, some (vi w), l3, l4] [vi w] h) := (fun _ _ _ _ _ _ => run_next rfl rfl)
theorem e_1011 (v : Option Rf) (a0 : Int32) (h : Hp) : call 1011 [vo v, vi a0] h = run 4 1011 0 [some (vo v), some (vi a0), none, none, none] [] h := rfl
set_option maxRecDepth 20000 in
theorem x_1012 : (∀ (l0 l1 l2 l3 : Option AV) (h : Hp), run 1 1012 0 [l0, l1, l2, l3] [] h = run 1 1012 1 [l0, l1, l2, l3] [vi (0 : Int32)] h) ∧
  (∀ (l0 l1 l3 : Option AV) (s0 : Int32) (h : Hp), run 1 1012 1 [l0, l1, none, l3] [vi s0] h = run 1 1012 2 [l0, l1, none, some (vi s0)] [] h) ∧
  (∀ (l0 l1 l3 : Option AV) (s0 : Int32) (w1 : Int32) (h : Hp), run 1 1012 1 [l0, l1, some (vi w1), l3] [vi s0] h = run 1 1012 2 [l0, l1, some (vi w1), some (vi s0)] [] h) ∧
  (∀ (l0 l1 l3 : Option AV) (s0 : Int32) (w1 : Option Rf) (h : Hp), run 1 1012 1 [l0, l1, some (vo w1), l3] [vi s0] h = run 1 1012 2 [l0, l1, some (vo w1), some (vi s0)] [] h) ∧
  (∀ (l0 l1 l2 l3 : Option AV) (s0 : Int32) (h : Hp), run 1 1012 3 [l0, l1, l2, l3] [vi s0] h = run 1 1012 5 [l0, l1, l2, l3] [vi (60 : Int32), vi s0] h) ∧
  (∀ (l0 l1 l2 l3 : Option AV) (s0 : Int32) (s1 : Int32) (h : Hp), run 1 1012 5 [l0, l1, l2, l3] [vi s0, vi s1] h = if s0 < s1 then run 1 1012 41 [l0, l1, l2, l3] [] h else run 1 1012 8 [l0, l1, l2, l3] [] h) ∧
  (∀ (l1 l2 l3 : Option AV) (w : Option Rf) (h : Hp), run 1 1012 8 [some (vo w), l1, l2, l3] [] h = run 1 1012 9 [some (vo w), l1, l2, l3] [vo w] h) ∧
  (∀ (l0 l2 l3 : Option AV) (s0 : Option Rf) (w : Int32) (h : Hp), run 1 1012 9 [l0, some (vi w), l2, l3] [vo s0] h = run 1 1012 10 [l0, some (vi w), l2, l3] [vi w, vo s0] h) ∧
  (∀ (l1 l2 l3 : Option AV) (s0 : Int32) (s1 : Option Rf) (w : Option Rf) (h : Hp), run 1 1012 10 [some (vo w), l1, l2, l3] [vi s0, vo s1] h = run 1 1012 11 [some (vo w), l1, l2, l3] [vo w, vi s0, vo s1] h) ∧
  (∀ (l0 l1 l2 l3 : Option AV) (s1 : Int32) (s2 : Option Rf) (o z : Nat) (h : Hp), run 1 1012 11 [l0, l1, l2, l3] [vo (some (o, 10, z)), vi s1, vo s2] h = run 1 1012 14 [l0, l1, l2, l3] [vi (hI h o 2), vi s1, vo s2] h) ∧
  (∀ (l0 l1 l2 : Option AV) (s0 : Int32) (s1 : Int32) (s2 : Option Rf) (w : Int32) (h : Hp), run 1 1012 14 [l0, l1, l2, some (vi w)] [vi s0, vi s1, vo s2] h = run 1 1012 15 [l0, l1, l2, some (vi w)] [vi w, vi s0, vi s1, vo s2] h) ∧
  (∀ (l0 l1 l2 l3 : Option AV) (s0 : Int32) (s1 : Int32) (s2 : Int32) (s3 : Option Rf) (h : Hp), run 1 1012 15 [l0, l1, l2, l3] [vi s0, vi s1, vi s2, vo s3] h = run 1 1012 16 [l0, l1, l2, l3] [vi (s1 + s0), vi s2, vo s3] h) ∧
  (∀ (l0 l1 l2 l3 : Option AV) (s0 : Int32) (s1 : Int32) (o z : Nat) (h : Hp), run 1 1012 16 [l0, l1, l2, l3] [vi s0, vi s1, vo (some (o, 10, z))] h = (call 1006 [vo (some (o, 10, z)), vi s1, vi s0] h).bind (fun z => run 1 1012 19 [l0, l1, l2, l3] (z.1.toList ++ []) z.2)) ∧
  (∀ (l1 l2 l3 : Option AV) (s0 : Int32) (w : Option Rf) (h : Hp), run 1 1012 19 [some (vo w), l1, l2, l3] [vi s0] h = run 1 1012 20 [some (vo w), l1, l2, l3] [vo w, vi s0] h) ∧
  (∀ (l0 l1 l3 : Option AV) (s0 : Option Rf) (s1 : Int32) (w : Int32) (h : Hp), run 1 1012 20 [l0, l1, some (vi w), l3] [vo s0, vi s1] h = run 1 1012 21 [l0, l1, some (vi w), l3] [vi w, vo s0, vi s1] h) ∧
  (∀ (l1 l2 l3 : Option AV) (s0 : Int32) (s1 : Option Rf) (s2 : Int32) (w : Option Rf) (h : Hp), run 1 1012 21 [some (vo w), l1, l2, l3] [vi s0, vo s1, vi s2] h = run 1 1012 22 [some (vo w), l1, l2, l3] [vo w, vi s0, vo s1, vi s2] h) ∧
  (∀ (l0 l1 l2 l3 : Option AV) (s1 : Int32) (s2 : Option Rf) (s3 : Int32) (o z : Nat) (h : Hp), run 1 1012 22 [l0, l1, l2, l3] [vo (some (o, 10, z)), vi s1, vo s2, vi s3] h = run 1 1012 25 [l0, l1, l2, l3] [vi (hI h o 2), vi s1, vo s2, vi s3] h) ∧
  (∀ (l0 l1 l2 : Option AV) (s0 : Int32) (s1 : Int32) (s2 : Option Rf) (s3 : Int32) (w : Int32) (h : Hp), run 1 1012 25 [l0, l1, l2, some (vi w)] [vi s0, vi s1, vo s2, vi s3] h = run 1 1012 26 [l0, l1, l2, some (vi w)] [vi w, vi s0, vi s1, vo s2, vi s3] h) ∧
  (∀ (l0 l1 l2 l3 : Option AV) (s0 : Int32) (s1 : Int32) (s2 : Int32) (s3 : Option Rf) (s4 : Int32) (h : Hp), run 1 1012 26 [l0, l1, l2, l3] [vi s0, vi s1, vi s2, vo s3, vi s4] h = run 1 1012 27 [l0, l1, l2, l3] [vi (s1 + s0), vi s2, vo s3, vi s4] h) ∧
  (∀ (l0 l1 l2 l3 : Option AV) (s0 : Int32) (s1 : Int32) (s3 : Int32) (o z : Nat) (h : Hp), run 1 1012 27 [l0, l1, l2, l3] [vi s0, vi s1, vo (some (o, 10, z)), vi s3] h = (call 1006 [vo (some (o, 10, z)), vi s1, vi s0] h).bind (fun z => run 1 1012 30 [l0, l1, l2, l3] (z.1.toList ++ [vi s3]) z.2)) ∧
  (∀ (l0 l1 l2 l3 : Option AV) (s0 : Int32) (s1 : Int32) (h : Hp), run 1 1012 30 [l0, l1, l2, l3] [vi s0, vi s1] h = if s1 = s0 then run 1 1012 33 [l0, l1, l2, l3] [] h else run 1 1012 35 [l0, l1, l2, l3] [] h) ∧
  (∀ (l0 l1 l2 : Option AV) (w : Int32) (h : Hp), run 1 1012 33 [l0, l1, l2, some (vi w)] [] h = run 1 1012 34 [l0, l1, l2, some (vi w)] [vi w] h) ∧
  (∀ (l0 l1 l2 l3 : Option AV) (s0 : Int32) (h : Hp), run 1 1012 34 [l0, l1, l2, l3] [vi s0] h = some (some (vi s0), h)) ∧
  (∀ (l0 l1 : Option AV) (w : Int32) (h : Hp), run 1 1012 35 [l0, l1, none, some (vi w)] [] h = run 1 1012 38 [l0, l1, none, some (vi (w + (1 : Int32)))] [] h) ∧
  (∀ (l0 l1 : Option AV) (w1 : Int32) (w : Int32) (h : Hp), run 1 1012 35 [l0, l1, some (vi w1), some (vi w)] [] h = run 1 1012 38 [l0, l1, some (vi w1), some (vi (w + (1 : Int32)))] [] h) ∧
  (∀ (l0 l1 : Option AV) (w1 : Option Rf) (w : Int32) (h : Hp), run 1 1012 35 [l0, l1, some (vo w1), some (vi w)] [] h = run 1 1012 38 [l0, l1, some (vo w1), some (vi (w + (1 : Int32)))] [] h) ∧
  (∀ (l0 l1 l2 l3 : Option AV) (h : Hp), run 1 1012 38 [l0, l1, l2, l3] [] h = run 1 1012 2 [l0, l1, l2, l3] [] h) ∧
  (∀ (l0 l1 l2 l3 : Option AV) (h : Hp), run 1 1012 41 [l0, l1, l2, l3] [] h = run 1 1012 43 [l0, l1, l2, l3] [vi (-9 : Int32)] h) ∧
  (∀ (l0 l1 l2 l3 : Option AV) (s0 : Int32) (h : Hp), run 1 1012 43 [l0, l1, l2, l3] [vi s0] h = some (some (vi s0), h)) := ⟨(fun _ _ _ _ _ => run_next rfl rfl),
  (fun _ _ _ s0 _ => run_next rfl rfl),
  (fun _ _ _ s0 _ _ => run_next rfl rfl),
  (fun _ _ _ s0 _ _ => run_next rfl rfl),
  (fun _ _ _ _ s0 _ => run_next rfl rfl),
  (fun _ _ _ _ s0 _ _ => run_if rfl rfl (run_next rfl) (run_next rfl)),
  (fun _ _ _ _ _ => run_next rfl rfl),
  (fun _ _ _ s0 _ _ => run_next rfl rfl),
  (fun _ _ _ s0 _ _ _ => run_next rfl rfl),
  (fun _ _ _ _ _ _ _ _ _ => run_next rfl rfl),
  (fun _ _ _ s0 _ _ _ _ => run_next rfl rfl),
  (fun _ _ _ _ s0 _ _ _ _ => run_next rfl rfl),
  (fun _ _ _ _ s0 _ _ _ _ => run_calx rfl rfl (Nat.le_of_ble_eq_true rfl) (Nat.le_of_ble_eq_true rfl) rfl),
  (fun _ _ _ s0 _ _ => run_next rfl rfl),
  (fun _ _ _ s0 _ _ _ => run_next rfl rfl),
  (fun _ _ _ s0 _ _ _ _ => run_next rfl rfl),
  (fun _ _ _ _ _ _ _ _ _ _ => run_next rfl rfl),
  (fun _ _ _ s0 _ _ _ _ _ => run_next rfl rfl),
  (fun _ _ _ _ s0 _ _ _ _ _ => run_next rfl rfl),
  (fun _ _ _ _ s0 _ _ _ _ _ => run_calx rfl rfl (Nat.le_of_ble_eq_true rfl) (Nat.le_of_ble_eq_true rfl) rfl),
  (fun _ _ _ _ s0 _ _ => run_if rfl rfl (run_next rfl) (run_next rfl)),
  (fun _ _ _ _ _ => run_next rfl rfl),
  (fun _ _ _ _ s0 _ => run_ret rfl rfl),
  (fun _ _ _ _ => run_next rfl rfl),
  (fun _ _ _ _ _ => run_next rfl rfl),
  (fun _ _ _ _ _ => run_next rfl rfl),
  (fun _ _ _ _ _ => run_next rfl rfl),
  (fun _ _ _ _ _ => run_next rfl rfl),
  (fun _ _ _ _ s0 _ => run_ret rfl rfl)⟩
set_option maxRecDepth 20000 in
theorem x_1012_2 : (∀ (l0 l1 l2 : Option AV) (w : Int32) (h : Hp), run 1 1012 2 [l0, l1, l2, some (vi w)] [] h = run 1 1012 3 [l0, l1, l2, some (vi w)] [vi w] h) := (fun _ _ _ _ _ => run_next rfl rfl)
theorem e_1012 (v : Option Rf) (a0 : Int32) (a1 : Int32) (h : Hp) : call 1012 [vo v, vi a0, vi a1] h = run 1 1012 0 [some (vo v), some (vi a0), some (vi a1), none] [] h := rfl
set_option maxRecDepth 20000 in
theorem x_1013 : (∀ (l0 l1 l2 l3 l4 l5 l6 : Option AV) (h : Hp), run 1 1013 0 [l0, l1, l2, l3, l4, l5, l6] [] h = run 1 1013 1 [l0, l1, l2, l3, l4, l5, l6] [vi (1 : Int32)] h) ∧
  (∀ (l0 l1 l3 l4 l5 l6 : Option AV) (s0 : Int32) (h : Hp), run 1 1013 1 [l0, l1, none, l3, l4, l5, l6] [vi s0] h = run 1 1013 2 [l0, l1, none, some (vi s0), l4, l5, l6] [] h) ∧
  (∀ (l0 l1 l3 l4 l5 l6 : Option AV) (s0 : Int32) (w1 : Int32) (h : Hp), run 1 1013 1 [l0, l1, some (vi w1), l3, l4, l5, l6] [vi s0] h = run 1 1013 2 [l0, l1, some (vi w1), some (vi s0), l4, l5, l6] [] h) ∧
  (∀ (l0 l1 l3 l4 l5 l6 : Option AV) (s0 : Int32) (w1 : Option Rf) (h : Hp), run 1 1013 1 [l0, l1, some (vo w1), l3, l4, l5, l6] [vi s0] h = run 1 1013 2 [l0, l1, some (vo w1), some (vi s0), l4, l5, l6] [] h) ∧
  (∀ (l0 l1 l2 l3 l4 l5 l6 : Option AV) (s0 : Int32) (h : Hp), run 1 1013 3 [l0, l1, l2, l3, l4, l5, l6] [vi s0] h = run 1 1013 5 [l0, l1, l2, l3, l4, l5, l6] [vi (60 : Int32), vi s0] h) ∧
  (∀ (l0 l1 l2 l3 l4 l5 l6 : Option AV) (s0 : Int32) (s1 : Int32) (h : Hp), run 1 1013 5 [l0, l1, l2, l3, l4, l5, l6] [vi s0, vi s1] h = if s0 < s1 then run 1 1013 97 [l0, l1, l2, l3, l4, l5, l6] [] h else run 1 1013 8 [l0, l1, l2, l3, l4, l5, l6] [] h) ∧
  (∀ (l1 l2 l3 l4 l5 l6 : Option AV) (w : Option Rf) (h : Hp), run 1 1013 8 [some (vo w), l1, l2, l3, l4, l5, l6] [] h = run 1 1013 9 [some (vo w), l1, l2, l3, l4, l5, l6] [vo w] h) ∧
  (∀ (l0 l2 l3 l4 l5 l6 : Option AV) (s0 : Option Rf) (w : Int32) (h : Hp), run 1 1013 9 [l0, some (vi w), l2, l3, l4, l5, l6] [vo s0] h = run 1 1013 10 [l0, some (vi w), l2, l3, l4, l5, l6] [vi w, vo s0] h) ∧
  (∀ (l1 l2 l3 l4 l5 l6 : Option AV) (s0 : Int32) (s1 : Option Rf) (w : Option Rf) (h : Hp), run 1 1013 10 [some (vo w), l1, l2, l3, l4, l5, l6] [vi s0, vo s1] h = run 1 1013 11 [some (vo w), l1, l2, l3, l4, l5, l6] [vo w, vi s0, vo s1] h) ∧
  (∀ (l0 l1 l2 l3 l4 l5 l6 : Option AV) (s1 : Int32) (s2 : Option Rf) (o z : Nat) (h : Hp), run 1 1013 11 [l0, l1, l2, l3, l4, l5, l6] [vo (some (o, 10, z)), vi s1, vo s2] h = run 1 1013 14 [l0, l1, l2, l3, l4, l5, l6] [vi (hI h o 2), vi s1, vo s2] h) ∧
  (∀ (l0 l1 l2 l4 l5 l6 : Option AV) (s0 : Int32) (s1 : Int32) (s2 : Option Rf) (w : Int32) (h : Hp), run 1 1013 14 [l0, l1, l2, some (vi w), l4, l5, l6] [vi s0, vi s1, vo s2] h = run 1 1013 15 [l0, l1, l2, some (vi w), l4, l5, l6] [vi w, vi s0, vi s1, vo s2] h) ∧
  (∀ (l0 l1 l2 l3 l4 l5 l6 : Option AV) (s0 : Int32) (s1 : Int32) (s2 : Int32) (s3 : Option Rf) (h : Hp), run 1 1013 15 [l0, l1, l2, l3, l4, l5, l6] [vi s0, vi s1, vi s2, vo s3] h = run 1 1013 16 [l0, l1, l2, l3, l4, l5, l6] [vi (s1 + s0), vi s2, vo s3] h) ∧
  (∀ (l0 l1 l2 l3 l4 l5 l6 : Option AV) (s0 : Int32) (s1 : Int32) (s2 : Option Rf) (h : Hp), run 1 1013 16 [l0, l1, l2, l3, l4, l5, l6] [vi s0, vi s1, vo s2] h = run 1 1013 17 [l0, l1, l2, l3, l4, l5, l6] [vi (1 : Int32), vi s0, vi s1, vo s2] h) ∧
  (∀ (l0 l1 l2 l3 l4 l5 l6 : Option AV) (s0 : Int32) (s1 : Int32) (s2 : Int32) (s3 : Option Rf) (h : Hp), run 1 1013 17 [l0, l1, l2, l3, l4, l5, l6] [vi s0, vi s1, vi s2, vo s3] h = run 1 1013 18 [l0, l1, l2, l3, l4, l5, l6] [vi (s1 - s0), vi s2, vo s3] h) ∧
  (∀ (l0 l1 l2 l3 l4 l5 l6 : Option AV) (s0 : Int32) (s1 : Int32) (o z : Nat) (h : Hp), run 1 1013 18 [l0, l1, l2, l3, l4, l5, l6] [vi s0, vi s1, vo (some (o, 10, z))] h = (call 1006 [vo (some (o, 10, z)), vi s1, vi s0] h).bind (fun z => run 1 1013 21 [l0, l1, l2, l3, l4, l5, l6] (z.1.toList ++ []) z.2)) ∧
  (∀ (l0 l1 l2 l4 l5 l6 : Option AV) (s0 : Int32) (h : Hp), run 1 1013 21 [l0, l1, l2, none, l4, l5, l6] [vi s0] h = run 1 1013 23 [l0, l1, l2, none, some (vi s0), l5, l6] [] h) ∧
  (∀ (l0 l1 l2 l4 l5 l6 : Option AV) (s0 : Int32) (w1 : Int32) (h : Hp), run 1 1013 21 [l0, l1, l2, some (vi w1), l4, l5, l6] [vi s0] h = run 1 1013 23 [l0, l1, l2, some (vi w1), some (vi s0), l5, l6] [] h) ∧
  (∀ (l0 l1 l2 l4 l5 l6 : Option AV) (s0 : Int32) (w1 : Option Rf) (h : Hp), run 1 1013 21 [l0, l1, l2, some (vo w1), l4, l5, l6] [vi s0] h = run 1 1013 23 [l0, l1, l2, some (vo w1), some (vi s0), l5, l6] [] h) ∧
  (∀ (l1 l2 l3 l4 l5 l6 : Option AV) (w : Option Rf) (h : Hp), run 1 1013 23 [some (vo w), l1, l2, l3, l4, l5, l6] [] h = run 1 1013 24 [some (vo w), l1, l2, l3, l4, l5, l6] [vo w] h) ∧
  (∀ (l0 l1 l3 l4 l5 l6 : Option AV) (s0 : Option Rf) (w : Int32) (h : Hp), run 1 1013 24 [l0, l1, some (vi w), l3, l4, l5, l6] [vo s0] h = run 1 1013 25 [l0, l1, some (vi w), l3, l4, l5, l6] [vi w, vo s0] h) ∧
  (∀ (l1 l2 l3 l4 l5 l6 : Option AV) (s0 : Int32) (s1 : Option Rf) (w : Option Rf) (h : Hp), run 1 1013 25 [some (vo w), l1, l2, l3, l4, l5, l6] [vi s0, vo s1] h = run 1 1013 26 [some (vo w), l1, l2, l3, l4, l5, l6] [vo w, vi s0, vo s1] h) ∧
  (∀ (l0 l1 l2 l3 l4 l5 l6 : Option AV) (s1 : Int32) (s2 : Option Rf) (o z : Nat) (h : Hp), run 1 1013 26 [l0, l1, l2, l3, l4, l5, l6] [vo (some (o, 10, z)), vi s1, vo s2] h = run 1 1013 29 [l0, l1, l2, l3, l4, l5, l6] [vi (hI h o 2), vi s1, vo s2] h) ∧
  (∀ (l0 l1 l2 l4 l5 l6 : Option AV) (s0 : Int32) (s1 : Int32) (s2 : Option Rf) (w : Int32) (h : Hp), run 1 1013 29 [l0, l1, l2, some (vi w), l4, l5, l6] [vi s0, vi s1, vo s2] h = run 1 1013 30 [l0, l1, l2, some (vi w), l4, l5, l6] [vi w, vi s0, vi s1, vo s2] h) ∧
  (∀ (l0 l1 l2 l3 l4 l5 l6 : Option AV) (s0 : Int32) (s1 : Int32) (s2 : Int32) (s3 : Option Rf) (h : Hp), run 1 1013 30 [l0, l1, l2, l3, l4, l5, l6] [vi s0, vi s1, vi s2, vo s3] h = run 1 1013 31 [l0, l1, l2, l3, l4, l5, l6] [vi (s1 + s0), vi s2, vo s3] h) ∧
  (∀ (l0 l1 l2 l3 l4 l5 l6 : Option AV) (s0 : Int32) (s1 : Int32) (s2 : Option Rf) (h : Hp), run 1 1013 31 [l0, l1, l2, l3, l4, l5, l6] [vi s0, vi s1, vo s2] h = run 1 1013 32 [l0, l1, l2, l3, l4, l5, l6] [vi (1 : Int32), vi s0, vi s1, vo s2] h) ∧
  (∀ (l0 l1 l2 l3 l4 l5 l6 : Option AV) (s0 : Int32) (s1 : Int32) (s2 : Int32) (s3 : Option Rf) (h : Hp), run 1 1013 32 [l0, l1, l2, l3, l4, l5, l6] [vi s0, vi s1, vi s2, vo s3] h = run 1 1013 33 [l0, l1, l2, l3, l4, l5, l6] [vi (s1 - s0), vi s2, vo s3] h) ∧
  (∀ (l0 l1 l2 l3 l4 l5 l6 : Option AV) (s0 : Int32) (s1 : Int32) (o z : Nat) (h : Hp), run 1 1013 33 [l0, l1, l2, l3, l4, l5, l6] [vi s0, vi s1, vo (some (o, 10, z))] h = (call 1006 [vo (some (o, 10, z)), vi s1, vi s0] h).bind (fun z => run 1 1013 36 [l0, l1, l2, l3, l4, l5, l6] (z.1.toList ++ []) z.2)) ∧
  (∀ (l0 l1 l2 l3 l5 l6 : Option AV) (s0 : Int32) (h : Hp), run 1 1013 36 [l0, l1, l2, l3, none, l5, l6] [vi s0] h = run 1 1013 38 [l0, l1, l2, l3, none, some (vi s0), l6] [] h) ∧
  (∀ (l0 l1 l2 l3 l5 l6 : Option AV) (s0 : Int32) (w1 : Int32) (h : Hp), run 1 1013 36 [l0, l1, l2, l3, some (vi w1), l5, l6] [vi s0] h = run 1 1013 38 [l0, l1, l2, l3, some (vi w1), some (vi s0), l6] [] h) ∧
  (∀ (l0 l1 l2 l3 l5 l6 : Option AV) (s0 : Int32) (w1 : Option Rf) (h : Hp), run 1 1013 36 [l0, l1, l2, l3, some (vo w1), l5, l6] [vi s0] h = run 1 1013 38 [l0, l1, l2, l3, some (vo w1), some (vi s0), l6] [] h) ∧
  (∀ (l1 l2 l3 l4 l5 l6 : Option AV) (w : Option Rf) (h : Hp), run 1 1013 38 [some (vo w), l1, l2, l3, l4, l5, l6] [] h = run 1 1013 39 [some (vo w), l1, l2, l3, l4, l5, l6] [vo w] h) ∧
  (∀ (l0 l2 l3 l4 l5 l6 : Option AV) (s0 : Option Rf) (w : Int32) (h : Hp), run 1 1013 39 [l0, some (vi w), l2, l3, l4, l5, l6] [vo s0] h = run 1 1013 40 [l0, some (vi w), l2, l3, l4, l5, l6] [vi w, vo s0] h) ∧
  (∀ (l1 l2 l3 l4 l5 l6 : Option AV) (s0 : Int32) (s1 : Option Rf) (w : Option Rf) (h : Hp), run 1 1013 40 [some (vo w), l1, l2, l3, l4, l5, l6] [vi s0, vo s1] h = run 1 1013 41 [some (vo w), l1, l2, l3, l4, l5, l6] [vo w, vi s0, vo s1] h) ∧
  (∀ (l0 l1 l2 l3 l4 l5 l6 : Option AV) (s1 : Int32) (s2 : Option Rf) (o z : Nat) (h : Hp), run 1 1013 41 [l0, l1, l2, l3, l4, l5, l6] [vo (some (o, 10, z)), vi s1, vo s2] h = run 1 1013 44 [l0, l1, l2, l3, l4, l5, l6] [vi (hI h o 2), vi s1, vo s2] h) ∧
  (∀ (l0 l1 l2 l4 l5 l6 : Option AV) (s0 : Int32) (s1 : Int32) (s2 : Option Rf) (w : Int32) (h : Hp), run 1 1013 44 [l0, l1, l2, some (vi w), l4, l5, l6] [vi s0, vi s1, vo s2] h = run 1 1013 45 [l0, l1, l2, some (vi w), l4, l5, l6] [vi w, vi s0, vi s1, vo s2] h) ∧
  (∀ (l0 l1 l2 l3 l4 l5 l6 : Option AV) (s0 : Int32) (s1 : Int32) (s2 : Int32) (s3 : Option Rf) (h : Hp), run 1 1013 45 [l0, l1, l2, l3, l4, l5, l6] [vi s0, vi s1, vi s2, vo s3] h = run 1 1013 46 [l0, l1, l2, l3, l4, l5, l6] [vi (s1 + s0), vi s2, vo s3] h) ∧
  (∀ (l0 l1 l2 l3 l4 l5 l6 : Option AV) (s0 : Int32) (s1 : Int32) (o z : Nat) (h : Hp), run 1 1013 46 [l0, l1, l2, l3, l4, l5, l6] [vi s0, vi s1, vo (some (o, 10, z))] h = (call 1006 [vo (some (o, 10, z)), vi s1, vi s0] h).bind (fun z => run 1 1013 49 [l0, l1, l2, l3, l4, l5, l6] (z.1.toList ++ []) z.2)) ∧
  (∀ (l0 l1 l2 l3 l4 l6 : Option AV) (s0 : Int32) (w : Int32) (h : Hp), run 1 1013 49 [l0, l1, l2, l3, l4, some (vi w), l6] [vi s0] h = run 1 1013 51 [l0, l1, l2, l3, l4, some (vi w), l6] [vi w, vi s0] h) ∧
  (∀ (l0 l1 l2 l3 l4 l5 l6 : Option AV) (s0 : Int32) (s1 : Int32) (h : Hp), run 1 1013 51 [l0, l1, l2, l3, l4, l5, l6] [vi s0, vi s1] h = if s1 = s0 then run 1 1013 54 [l0, l1, l2, l3, l4, l5, l6] [] h else run 1 1013 74 [l0, l1, l2, l3, l4, l5, l6] [] h) ∧
  (∀ (l1 l2 l3 l4 l5 l6 : Option AV) (w : Option Rf) (h : Hp), run 1 1013 54 [some (vo w), l1, l2, l3, l4, l5, l6] [] h = run 1 1013 55 [some (vo w), l1, l2, l3, l4, l5, l6] [vo w] h) ∧
  (∀ (l0 l1 l3 l4 l5 l6 : Option AV) (s0 : Option Rf) (w : Int32) (h : Hp), run 1 1013 55 [l0, l1, some (vi w), l3, l4, l5, l6] [vo s0] h = run 1 1013 56 [l0, l1, some (vi w), l3, l4, l5, l6] [vi w, vo s0] h) ∧
  (∀ (l1 l2 l3 l4 l5 l6 : Option AV) (s0 : Int32) (s1 : Option Rf) (w : Option Rf) (h : Hp), run 1 1013 56 [some (vo w), l1, l2, l3, l4, l5, l6] [vi s0, vo s1] h = run 1 1013 57 [some (vo w), l1, l2, l3, l4, l5, l6] [vo w, vi s0, vo s1] h) ∧
  (∀ (l0 l1 l2 l3 l4 l5 l6 : Option AV) (s1 : Int32) (s2 : Option Rf) (o z : Nat) (h : Hp), run 1 1013 57 [l0, l1, l2, l3, l4, l5, l6] [vo (some (o, 10, z)), vi s1, vo s2] h = run 1 1013 60 [l0, l1, l2, l3, l4, l5, l6] [vi (hI h o 2), vi s1, vo s2] h) ∧
  (∀ (l0 l1 l2 l4 l5 l6 : Option AV) (s0 : Int32) (s1 : Int32) (s2 : Option Rf) (w : Int32) (h : Hp), run 1 1013 60 [l0, l1, l2, some (vi w), l4, l5, l6] [vi s0, vi s1, vo s2] h = run 1 1013 61 [l0, l1, l2, some (vi w), l4, l5, l6] [vi w, vi s0, vi s1, vo s2] h) ∧
  (∀ (l0 l1 l2 l3 l4 l5 l6 : Option AV) (s0 : Int32) (s1 : Int32) (s2 : Int32) (s3 : Option Rf) (h : Hp), run 1 1013 61 [l0, l1, l2, l3, l4, l5, l6] [vi s0, vi s1, vi s2, vo s3] h = run 1 1013 62 [l0, l1, l2, l3, l4, l5, l6] [vi (s1 + s0), vi s2, vo s3] h) ∧
  (∀ (l0 l1 l2 l3 l4 l5 l6 : Option AV) (s0 : Int32) (s1 : Int32) (o z : Nat) (h : Hp), run 1 1013 62 [l0, l1, l2, l3, l4, l5, l6] [vi s0, vi s1, vo (some (o, 10, z))] h = (call 1006 [vo (some (o, 10, z)), vi s1, vi s0] h).bind (fun z => run 1 1013 65 [l0, l1, l2, l3, l4, l5, l6] (z.1.toList ++ []) z.2)) ∧
  (∀ (l0 l1 l2 l3 l5 l6 : Option AV) (s0 : Int32) (w : Int32) (h : Hp), run 1 1013 65 [l0, l1, l2, l3, some (vi w), l5, l6] [vi s0] h = run 1 1013 67 [l0, l1, l2, l3, some (vi w), l5, l6] [vi w, vi s0] h) ∧
  (∀ (l0 l1 l2 l3 l4 l5 l6 : Option AV) (s0 : Int32) (s1 : Int32) (h : Hp), run 1 1013 67 [l0, l1, l2, l3, l4, l5, l6] [vi s0, vi s1] h = if s1 = s0 then run 1 1013 70 [l0, l1, l2, l3, l4, l5, l6] [] h else run 1 1013 74 [l0, l1, l2, l3, l4, l5, l6] [] h) ∧
  (∀ (l0 l1 l2 l3 l4 l5 l6 : Option AV) (h : Hp), run 1 1013 70 [l0, l1, l2, l3, l4, l5, l6] [] h = run 1 1013 71 [l0, l1, l2, l3, l4, l5, l6] [vi (1 : Int32)] h) ∧
  (∀ (l0 l1 l2 l3 l4 l5 l6 : Option AV) (s0 : Int32) (h : Hp), run 1 1013 71 [l0, l1, l2, l3, l4, l5, l6] [vi s0] h = run 1 1013 75 [l0, l1, l2, l3, l4, l5, l6] [vi s0] h) ∧
  (∀ (l0 l1 l2 l3 l4 l5 l6 : Option AV) (h : Hp), run 1 1013 74 [l0, l1, l2, l3, l4, l5, l6] [] h = run 1 1013 75 [l0, l1, l2, l3, l4, l5, l6] [vi (0 : Int32)] h) ∧
  (∀ (l0 l1 l2 l3 l4 l6 : Option AV) (s0 : Int32) (h : Hp), run 1 1013 75 [l0, l1, l2, l3, l4, none, l6] [vi s0] h = run 1 1013 77 [l0, l1, l2, l3, l4, none, some (vi s0)] [] h) ∧
  (∀ (l0 l1 l2 l3 l4 l6 : Option AV) (s0 : Int32) (w1 : Int32) (h : Hp), run 1 1013 75 [l0, l1, l2, l3, l4, some (vi w1), l6] [vi s0] h = run 1 1013 77 [l0, l1, l2, l3, l4, some (vi w1), some (vi s0)] [] h) ∧
  (∀ (l0 l1 l2 l3 l4 l6 : Option AV) (s0 : Int32) (w1 : Option Rf) (h : Hp), run 1 1013 75 [l0, l1, l2, l3, l4, some (vo w1), l6] [vi s0] h = run 1 1013 77 [l0, l1, l2, l3, l4, some (vo w1), some (vi s0)] [] h) ∧
  (∀ (l0 l1 l2 l3 l4 l5 : Option AV) (w : Int32) (h : Hp), run 1 1013 77 [l0, l1, l2, l3, l4, l5, some (vi w)] [] h = run 1 1013 79 [l0, l1, l2, l3, l4, l5, some (vi w)] [vi w] h) ∧
  (∀ (l0 l1 l2 l3 l4 l5 l6 : Option AV) (s0 : Int32) (h : Hp), run 1 1013 79 [l0, l1, l2, l3, l4, l5, l6] [vi s0] h = if s0 = 0 then run 1 1013 91 [l0, l1, l2, l3, l4, l5, l6] [] h else run 1 1013 82 [l0, l1, l2, l3, l4, l5, l6] [] h) ∧
  (∀ (l0 l1 l2 l3 l5 l6 : Option AV) (w : Int32) (h : Hp), run 1 1013 82 [l0, l1, l2, l3, some (vi w), l5, l6] [] h = run 1 1013 84 [l0, l1, l2, l3, some (vi w), l5, l6] [vi w] h) ∧
  (∀ (l0 l1 l2 l3 l4 l6 : Option AV) (s0 : Int32) (w : Int32) (h : Hp), run 1 1013 84 [l0, l1, l2, l3, l4, some (vi w), l6] [vi s0] h = run 1 1013 86 [l0, l1, l2, l3, l4, some (vi w), l6] [vi w, vi s0] h) ∧
  (∀ (l0 l1 l2 l3 l4 l5 l6 : Option AV) (s0 : Int32) (s1 : Int32) (h : Hp), run 1 1013 86 [l0, l1, l2, l3, l4, l5, l6] [vi s0, vi s1] h = if s1 = s0 then run 1 1013 91 [l0, l1, l2, l3, l4, l5, l6] [] h else run 1 1013 89 [l0, l1, l2, l3, l4, l5, l6] [] h) ∧
  (∀ (l0 l1 l2 l4 l5 l6 : Option AV) (w : Int32) (h : Hp), run 1 1013 89 [l0, l1, l2, some (vi w), l4, l5, l6] [] h = run 1 1013 90 [l0, l1, l2, some (vi w), l4, l5, l6] [vi w] h) ∧
  (∀ (l0 l1 l2 l3 l4 l5 l6 : Option AV) (s0 : Int32) (h : Hp), run 1 1013 90 [l0, l1, l2, l3, l4, l5, l6] [vi s0] h = some (some (vi s0), h)) ∧
  (∀ (l0 l1 l4 l5 l6 : Option AV) (w : Int32) (h : Hp), run 1 1013 91 [l0, l1, none, some (vi w), l4, l5, l6] [] h = run 1 1013 94 [l0, l1, none, some (vi (w + (1 : Int32))), l4, l5, l6] [] h) ∧
  (∀ (l0 l1 l4 l5 l6 : Option AV) (w1 : Int32) (w : Int32) (h : Hp), run 1 1013 91 [l0, l1, some (vi w1), some (vi w), l4, l5, l6] [] h = run 1 1013 94 [l0, l1, some (vi w1), some (vi (w + (1 : Int32))), l4, l5, l6] [] h) ∧
  (∀ (l0 l1 l4 l5 l6 : Option AV) (w1 : Option Rf) (w : Int32) (h : Hp), run 1 1013 91 [l0, l1, some (vo w1), some (vi w), l4, l5, l6] [] h = run 1 1013 94 [l0, l1, some (vo w1), some (vi (w + (1 : Int32))), l4, l5, l6] [] h) ∧
  (∀ (l0 l1 l2 l3 l4 l5 l6 : Option AV) (h : Hp), run 1 1013 94 [l0, l1, l2, l3, l4, l5, l6] [] h = run 1 1013 2 [l0, l1, l2, l3, l4, l5, l6] [] h) ∧
  (∀ (l0 l1 l2 l3 l4 l5 l6 : Option AV) (h : Hp), run 1 1013 97 [l0, l1, l2, l3, l4, l5, l6] [] h = run 1 1013 99 [l0, l1, l2, l3, l4, l5, l6] [vi (-9 : Int32)] h) ∧
  (∀ (l0 l1 l2 l3 l4 l5 l6 : Option AV) (s0 : Int32) (h : Hp), run 1 1013 99 [l0, l1, l2, l3, l4, l5, l6] [vi s0] h = some (some (vi s0), h)) := ⟨(fun _ _ _ _ _ _ _ _ => run_next rfl rfl),
  (fun _ _ _ _ _ _ s0 _ => run_next rfl rfl),
  (fun _ _ _ _ _ _ s0 _ _ => run_next rfl rfl),
  (fun _ _ _ _ _ _ s0 _ _ => run_next rfl rfl),
  (fun _ _ _ _ _ _ _ s0 _ => run_next rfl rfl),
  (fun _ _ _ _ _ _ _ s0 _ _ => run_if rfl rfl (run_next rfl) (run_next rfl)),
  (fun _ _ _ _ _ _ _ _ => run_next rfl rfl),
  (fun _ _ _ _ _ _ s0 _ _ => run_next rfl rfl),
  (fun _ _ _ _ _ _ s0 _ _ _ => run_next rfl rfl),
  (fun _ _ _ _ _ _ _ _ _ _ _ _ => run_next rfl rfl),
  (fun _ _ _ _ _ _ s0 _ _ _ _ => run_next rfl rfl),
  (fun _ _ _ _ _ _ _ s0 _ _ _ _ => run_next rfl rfl),
  (fun _ _ _ _ _ _ _ s0 _ _ _ => run_next rfl rfl),
  (fun _ _ _ _ _ _ _ s0 _ _ _ _ => run_next rfl rfl),
  (fun _ _ _ _ _ _ _ s0 _ _ _ _ => run_calx rfl rfl (Nat.le_of_ble_eq_true rfl) (Nat.le_of_ble_eq_true rfl) rfl),
  (fun _ _ _ _ _ _ s0 _ => run_next rfl rfl),
  (fun _ _ _ _ _ _ s0 _ _ => run_next rfl rfl),
  (fun _ _ _ _ _ _ s0 _ _ => run_next rfl rfl),
  (fun _ _ _ _ _ _ _ _ => run_next rfl rfl),
  (fun _ _ _ _ _ _ s0 _ _ => run_next rfl rfl),
  (fun _ _ _ _ _ _ s0 _ _ _ => run_next rfl rfl),
  (fun _ _ _ _ _ _ _ _ _ _ _ _ => run_next rfl rfl),
  (fun _ _ _ _ _ _ s0 _ _ _ _ => run_next rfl rfl),
  (fun _ _ _ _ _ _ _ s0 _ _ _ _ => run_next rfl rfl),
  (fun _ _ _ _ _ _ _ s0 _ _ _ => run_next rfl rfl),
  (fun _ _ _ _ _ _ _ s0 _ _ _ _ => run_next rfl rfl),
  (fun _ _ _ _ _ _ _ s0 _ _ _ _ => run_calx rfl rfl (Nat.le_of_ble_eq_true rfl) (Nat.le_of_ble_eq_true rfl) rfl),
  (fun _ _ _ _ _ _ s0 _ => run_next rfl rfl),
  (fun _ _ _ _ _ _ s0 _ _ => run_next rfl rfl),
  (fun _ _ _ _ _ _ s0 _ _ => run_next rfl rfl),
  (fun _ _ _ _ _ _ _ _ => run_next rfl rfl),
  (fun _ _ _ _ _ _ s0 _ _ => run_next rfl rfl),
  (fun _ _ _ _ _ _ s0 _ _ _ => run_next rfl rfl),
  (fun _ _ _ _ _ _ _ _ _ _ _ _ => run_next rfl rfl),
  (fun _ _ _ _ _ _ s0 _ _ _ _ => run_next rfl rfl),
  (fun _ _ _ _ _ _ _ s0 _ _ _ _ => run_next rfl rfl),
  (fun _ _ _ _ _ _ _ s0 _ _ _ _ => run_calx rfl rfl (Nat.le_of_ble_eq_true rfl) (Nat.le_of_ble_eq_true rfl) rfl),
  (fun _ _ _ _ _ _ s0 _ _ => run_next rfl rfl),
  (fun _ _ _ _ _ _ _ s0 _ _ => run_if rfl rfl (run_next rfl) (run_next rfl)),
  (fun _ _ _ _ _ _ _ _ => run_next rfl rfl),
  (fun _ _ _ _ _ _ s0 _ _ => run_next rfl rfl),
  (fun _ _ _ _ _ _ s0 _ _ _ => run_next rfl rfl),
  (fun _ _ _ _ _ _ _ _ _ _ _ _ => run_next rfl rfl),
  (fun _ _ _ _ _ _ s0 _ _ _ _ => run_next rfl rfl),
  (fun _ _ _ _ _ _ _ s0 _ _ _ _ => run_next rfl rfl),
  (fun _ _ _ _ _ _ _ s0 _ _ _ _ => run_calx rfl rfl (Nat.le_of_ble_eq_true rfl) (Nat.le_of_ble_eq_true rfl) rfl),
  (fun _ _ _ _ _ _ s0 _ _ => run_next rfl rfl),
  (fun _ _ _ _ _ _ _ s0 _ _ => run_if rfl rfl (run_next rfl) (run_next rfl)),
  (fun _ _ _ _ _ _ _ _ => run_next rfl rfl),
  (fun _ _ _ _ _ _ _ s0 _ => run_next rfl rfl),
  (fun _ _ _ _ _ _ _ _ => run_next rfl rfl),
  (fun _ _ _ _ _ _ s0 _ => run_next rfl rfl),
  (fun _ _ _ _ _ _ s0 _ _ => run_next rfl rfl),
  (fun _ _ _ _ _ _ s0 _ _ => run_next rfl rfl),
  (fun _ _ _ _ _ _ _ _ => run_next rfl rfl),
  (fun _ _ _ _ _ _ _ s0 _ => run_if rfl rfl (run_next rfl) (run_next rfl)),
  (fun _ _ _ _ _ _ _ _ => run_next rfl rfl),
  (fun _ _ _ _ _ _ s0 _ _ => run_next rfl rfl),
  (fun _ _ _ _ _ _ _ s0 _ _ => run_if rfl rfl (run_next rfl) (run_next rfl)),
  (fun _ _ _ _ _ _ _ _ => run_next rfl rfl),
  (fun _ _ _ _ _ _ _ s0 _ => run_ret rfl rfl),
  (fun _ _ _ _ _ _ _ => run_next rfl rfl),
  (fun _ _ _ _ _ _ _ _ => run_next rfl rfl),
  (fun _ _ _ _ _ _ _ _ => run_next rfl rfl),
  (fun _ _ _ _ _ _ _ _ => run_next rfl rfl),
  (fun _ _ _ _ _ _ _ _ => run_next rfl rfl),
  (fun _ _ _ _ _ _ _ s0 _ => run_ret rfl rfl)⟩
set_option maxRecDepth 20000 in
theorem x_1013_2 : (∀ (l0 l1 l2 l4 l5 l6 : Option AV) (w : Int32) (h : Hp), run 1 1013 2 [l0, l1, l2, some (vi w), l4, l5, l6] [] h = run 1 1013 3 [l0, l1, l2, some (vi w), l4, l5, l6] [vi w] h) := (fun _ _ _ _ _ _ _ _ => run_next rfl rfl)
theorem e_1013 (v : Option Rf) (a0 : Int32) (a1 : Int32) (h : Hp) : call 1013 [vo v, vi a0, vi a1] h = run 1 1013 0 [some (vo v), some (vi a0), some (vi a1), none, none, none, none] [] h := rfl
set_option maxRecDepth 20000 in
theorem x_1014 : (∀ (l0 l1 l2 l3 l4 l5 : Option AV) (h : Hp), run 1 1014 0 [l0, l1, l2, l3, l4, l5] [] h = run 1 1014 1 [l0, l1, l2, l3, l4, l5] [vi (0 : Int32)] h) ∧
  (∀ (l0 l1 l3 l4 l5 : Option AV) (s0 : Int32) (h : Hp), run 1 1014 1 [l0, l1, none, l3, l4, l5] [vi s0] h = run 1 1014 2 [l0, l1, none, some (vi s0), l4, l5] [] h) ∧
  (∀ (l0 l1 l3 l4 l5 : Option AV) (s0 : Int32) (w1 : Int32) (h : Hp), run 1 1014 1 [l0, l1, some (vi w1), l3, l4, l5] [vi s0] h = run 1 1014 2 [l0, l1, some (vi w1), some (vi s0), l4, l5] [] h) ∧
  (∀ (l0 l1 l3 l4 l5 : Option AV) (s0 : Int32) (w1 : Option Rf) (h : Hp), run 1 1014 1 [l0, l1, some (vo w1), l3, l4, l5] [vi s0] h = run 1 1014 2 [l0, l1, some (vo w1), some (vi s0), l4, l5] [] h) ∧
  (∀ (l0 l1 l2 l3 l4 l5 : Option AV) (h : Hp), run 1 1014 2 [l0, l1, l2, l3, l4, l5] [] h = run 1 1014 3 [l0, l1, l2, l3, l4, l5] [vi (0 : Int32)] h) ∧
  (∀ (l0 l1 l2 l4 l5 : Option AV) (s0 : Int32) (h : Hp), run 1 1014 3 [l0, l1, l2, none, l4, l5] [vi s0] h = run 1 1014 5 [l0, l1, l2, none, some (vi s0), l5] [] h) ∧
  (∀ (l0 l1 l2 l4 l5 : Option AV) (s0 : Int32) (w1 : Int32) (h : Hp), run 1 1014 3 [l0, l1, l2, some (vi w1), l4, l5] [vi s0] h = run 1 1014 5 [l0, l1, l2, some (vi w1), some (vi s0), l5] [] h) ∧
  (∀ (l0 l1 l2 l4 l5 : Option AV) (s0 : Int32) (w1 : Option Rf) (h : Hp), run 1 1014 3 [l0, l1, l2, some (vo w1), l4, l5] [vi s0] h = run 1 1014 5 [l0, l1, l2, some (vo w1), some (vi s0), l5] [] h) ∧
  (∀ (l0 l1 l3 l4 l5 : Option AV) (s0 : Int32) (w : Int32) (h : Hp), run 1 1014 7 [l0, l1, some (vi w), l3, l4, l5] [vi s0] h = run 1 1014 8 [l0, l1, some (vi w), l3, l4, l5] [vi w, vi s0] h) ∧
  (∀ (l0 l1 l2 l3 l4 l5 : Option AV) (s0 : Int32) (s1 : Int32) (h : Hp), run 1 1014 8 [l0, l1, l2, l3, l4, l5] [vi s0, vi s1] h = if s0 < s1 then run 1 1014 45 [l0, l1, l2, l3, l4, l5] [] h else run 1 1014 11 [l0, l1, l2, l3, l4, l5] [] h) ∧
  (∀ (l1 l2 l3 l4 l5 : Option AV) (w : Option Rf) (h : Hp), run 1 1014 11 [some (vo w), l1, l2, l3, l4, l5] [] h = run 1 1014 12 [some (vo w), l1, l2, l3, l4, l5] [vo w] h) ∧
  (∀ (l0 l2 l3 l4 l5 : Option AV) (s0 : Option Rf) (w : Int32) (h : Hp), run 1 1014 12 [l0, some (vi w), l2, l3, l4, l5] [vo s0] h = run 1 1014 13 [l0, some (vi w), l2, l3, l4, l5] [vi w, vo s0] h) ∧
  (∀ (l1 l2 l3 l4 l5 : Option AV) (s0 : Int32) (s1 : Option Rf) (w : Option Rf) (h : Hp), run 1 1014 13 [some (vo w), l1, l2, l3, l4, l5] [vi s0, vo s1] h = run 1 1014 14 [some (vo w), l1, l2, l3, l4, l5] [vo w, vi s0, vo s1] h) ∧
  (∀ (l0 l1 l2 l3 l4 l5 : Option AV) (s1 : Int32) (s2 : Option Rf) (o z : Nat) (h : Hp), run 1 1014 14 [l0, l1, l2, l3, l4, l5] [vo (some (o, 10, z)), vi s1, vo s2] h = run 1 1014 17 [l0, l1, l2, l3, l4, l5] [vi (hI h o 2), vi s1, vo s2] h) ∧
  (∀ (l0 l1 l2 l3 l5 : Option AV) (s0 : Int32) (s1 : Int32) (s2 : Option Rf) (w : Int32) (h : Hp), run 1 1014 17 [l0, l1, l2, l3, some (vi w), l5] [vi s0, vi s1, vo s2] h = run 1 1014 19 [l0, l1, l2, l3, some (vi w), l5] [vi w, vi s0, vi s1, vo s2] h) ∧
  (∀ (l0 l1 l2 l3 l4 l5 : Option AV) (s0 : Int32) (s1 : Int32) (s2 : Int32) (s3 : Option Rf) (h : Hp), run 1 1014 19 [l0, l1, l2, l3, l4, l5] [vi s0, vi s1, vi s2, vo s3] h = run 1 1014 20 [l0, l1, l2, l3, l4, l5] [vi (s1 + s0), vi s2, vo s3] h) ∧
  (∀ (l0 l1 l2 l3 l4 l5 : Option AV) (s0 : Int32) (s1 : Int32) (o z : Nat) (h : Hp), run 1 1014 20 [l0, l1, l2, l3, l4, l5] [vi s0, vi s1, vo (some (o, 10, z))] h = (call 1006 [vo (some (o, 10, z)), vi s1, vi s0] h).bind (fun z => run 1 1014 23 [l0, l1, l2, l3, l4, l5] (z.1.toList ++ []) z.2)) ∧
  (∀ (l0 l1 l2 l3 l5 : Option AV) (s0 : Int32) (h : Hp), run 1 1014 23 [l0, l1, l2, l3, none, l5] [vi s0] h = run 1 1014 25 [l0, l1, l2, l3, none, some (vi s0)] [] h) ∧
  (∀ (l0 l1 l2 l3 l5 : Option AV) (s0 : Int32) (w1 : Int32) (h : Hp), run 1 1014 23 [l0, l1, l2, l3, some (vi w1), l5] [vi s0] h = run 1 1014 25 [l0, l1, l2, l3, some (vi w1), some (vi s0)] [] h) ∧
  (∀ (l0 l1 l2 l3 l5 : Option AV) (s0 : Int32) (w1 : Option Rf) (h : Hp), run 1 1014 23 [l0, l1, l2, l3, some (vo w1), l5] [vi s0] h = run 1 1014 25 [l0, l1, l2, l3, some (vo w1), some (vi s0)] [] h) ∧
  (∀ (l0 l1 l2 l3 l4 : Option AV) (w : Int32) (h : Hp), run 1 1014 25 [l0, l1, l2, l3, l4, some (vi w)] [] h = run 1 1014 27 [l0, l1, l2, l3, l4, some (vi w)] [vi w] h) ∧
  (∀ (l0 l1 l2 l3 l4 l5 : Option AV) (s0 : Int32) (h : Hp), run 1 1014 27 [l0, l1, l2, l3, l4, l5] [vi s0] h = run 1 1014 29 [l0, l1, l2, l3, l4, l5] [vi (-9 : Int32), vi s0] h) ∧
  (∀ (l0 l1 l2 l3 l4 l5 : Option AV) (s0 : Int32) (s1 : Int32) (h : Hp), run 1 1014 29 [l0, l1, l2, l3, l4, l5] [vi s0, vi s1] h = if s1 = s0 then run 1 1014 39 [l0, l1, l2, l3, l4, l5] [] h else run 1 1014 32 [l0, l1, l2, l3, l4, l5] [] h) ∧
  (∀ (l0 l1 l2 l4 l5 : Option AV) (w : Int32) (h : Hp), run 1 1014 32 [l0, l1, l2, some (vi w), l4, l5] [] h = run 1 1014 33 [l0, l1, l2, some (vi w), l4, l5] [vi w] h) ∧
  (∀ (l0 l1 l2 l3 l4 l5 : Option AV) (s0 : Int32) (h : Hp), run 1 1014 33 [l0, l1, l2, l3, l4, l5] [vi s0] h = run 1 1014 34 [l0, l1, l2, l3, l4, l5] [vi (1 : Int32), vi s0] h) ∧
  (∀ (l0 l1 l2 l3 l4 : Option AV) (s0 : Int32) (s1 : Int32) (w : Int32) (h : Hp), run 1 1014 34 [l0, l1, l2, l3, l4, some (vi w)] [vi s0, vi s1] h = run 1 1014 36 [l0, l1, l2, l3, l4, some (vi w)] [vi w, vi s0, vi s1] h) ∧
  (∀ (l0 l1 l2 l3 l4 l5 : Option AV) (s0 : Int32) (s1 : Int32) (s2 : Int32) (h : Hp), run 1 1014 36 [l0, l1, l2, l3, l4, l5] [vi s0, vi s1, vi s2] h = run 1 1014 37 [l0, l1, l2, l3, l4, l5] [vi (s1 <<< (s0 &&& 31)), vi s2] h) ∧
  (∀ (l0 l1 l2 l3 l4 l5 : Option AV) (s0 : Int32) (s1 : Int32) (h : Hp), run 1 1014 37 [l0, l1, l2, l3, l4, l5] [vi s0, vi s1] h = run 1 1014 38 [l0, l1, l2, l3, l4, l5] [vi (s1 ||| s0)] h) ∧
  (∀ (l0 l1 l3 l4 l5 : Option AV) (s0 : Int32) (h : Hp), run 1 1014 38 [l0, l1, none, l3, l4, l5] [vi s0] h = run 1 1014 39 [l0, l1, none, some (vi s0), l4, l5] [] h) ∧
  (∀ (l0 l1 l3 l4 l5 : Option AV) (s0 : Int32) (w1 : Int32) (h : Hp), run 1 1014 38 [l0, l1, some (vi w1), l3, l4, l5] [vi s0] h = run 1 1014 39 [l0, l1, some (vi w1), some (vi s0), l4, l5] [] h) ∧
  (∀ (l0 l1 l3 l4 l5 : Option AV) (s0 : Int32) (w1 : Option Rf) (h : Hp), run 1 1014 38 [l0, l1, some (vo w1), l3, l4, l5] [vi s0] h = run 1 1014 39 [l0, l1, some (vo w1), some (vi s0), l4, l5] [] h) ∧
  (∀ (l0 l1 l2 l5 : Option AV) (w : Int32) (h : Hp), run 1 1014 39 [l0, l1, l2, none, some (vi w), l5] [] h = run 1 1014 42 [l0, l1, l2, none, some (vi (w + (1 : Int32))), l5] [] h) ∧
  (∀ (l0 l1 l2 l5 : Option AV) (w1 : Int32) (w : Int32) (h : Hp), run 1 1014 39 [l0, l1, l2, some (vi w1), some (vi w), l5] [] h = run 1 1014 42 [l0, l1, l2, some (vi w1), some (vi (w + (1 : Int32))), l5] [] h) ∧
  (∀ (l0 l1 l2 l5 : Option AV) (w1 : Option Rf) (w : Int32) (h : Hp), run 1 1014 39 [l0, l1, l2, some (vo w1), some (vi w), l5] [] h = run 1 1014 42 [l0, l1, l2, some (vo w1), some (vi (w + (1 : Int32))), l5] [] h) ∧
  (∀ (l0 l1 l2 l3 l4 l5 : Option AV) (h : Hp), run 1 1014 42 [l0, l1, l2, l3, l4, l5] [] h = run 1 1014 5 [l0, l1, l2, l3, l4, l5] [] h) ∧
  (∀ (l0 l1 l2 l4 l5 : Option AV) (w : Int32) (h : Hp), run 1 1014 45 [l0, l1, l2, some (vi w), l4, l5] [] h = run 1 1014 46 [l0, l1, l2, some (vi w), l4, l5] [vi w] h) ∧
  (∀ (l0 l1 l2 l3 l4 l5 : Option AV) (s0 : Int32) (h : Hp), run 1 1014 46 [l0, l1, l2, l3, l4, l5] [vi s0] h = some (some (vi s0), h)) := ⟨(fun _ _ _ _ _ _ _ => run_next rfl rfl),
  (fun _ _ _ _ _ s0 _ => run_next rfl rfl),
  (fun _ _ _ _ _ s0 _ _ => run_next rfl rfl),
  (fun _ _ _ _ _ s0 _ _ => run_next rfl rfl),
  (fun _ _ _ _ _ _ _ => run_next rfl rfl),
  (fun _ _ _ _ _ s0 _ => run_next rfl rfl),
  (fun _ _ _ _ _ s0 _ _ => run_next rfl rfl),
  (fun _ _ _ _ _ s0 _ _ => run_next rfl rfl),
  (fun _ _ _ _ _ s0 _ _ => run_next rfl rfl),
  (fun _ _ _ _ _ _ s0 _ _ => run_if rfl rfl (run_next rfl) (run_next rfl)),
  (fun _ _ _ _ _ _ _ => run_next rfl rfl),
  (fun _ _ _ _ _ s0 _ _ => run_next rfl rfl),
  (fun _ _ _ _ _ s0 _ _ _ => run_next rfl rfl),
  (fun _ _ _ _ _ _ _ _ _ _ _ => run_next rfl rfl),
  (fun _ _ _ _ _ s0 _ _ _ _ => run_next rfl rfl),
  (fun _ _ _ _ _ _ s0 _ _ _ _ => run_next rfl rfl),
  (fun _ _ _ _ _ _ s0 _ _ _ _ => run_calx rfl rfl (Nat.le_of_ble_eq_true rfl) (Nat.le_of_ble_eq_true rfl) rfl),
  (fun _ _ _ _ _ s0 _ => run_next rfl rfl),
  (fun _ _ _ _ _ s0 _ _ => run_next rfl rfl),
  (fun _ _ _ _ _ s0 _ _ => run_next rfl rfl),
  (fun _ _ _ _ _ _ _ => run_next rfl rfl),
  (fun _ _ _ _ _ _ s0 _ => run_next rfl rfl),
  (fun _ _ _ _ _ _ s0 _ _ => run_if rfl rfl (run_next rfl) (run_next rfl)),
  (fun _ _ _ _ _ _ _ => run_next rfl rfl),
  (fun _ _ _ _ _ _ s0 _ => run_next rfl rfl),
  (fun _ _ _ _ _ s0 _ _ _ => run_next rfl rfl),
  (fun _ _ _ _ _ _ s0 _ _ _ => run_next rfl rfl),
  (fun _ _ _ _ _ _ s0 _ _ => run_next rfl rfl),
  (fun _ _ _ _ _ s0 _ => run_next rfl rfl),
  (fun _ _ _ _ _ s0 _ _ => run_next rfl rfl),
  (fun _ _ _ _ _ s0 _ _ => run_next rfl rfl),
  (fun _ _ _ _ _ _ => run_next rfl rfl),
  (fun _ _ _ _ _ _ _ => run_next rfl rfl),
  (fun _ _ _ _ _ _ _ => run_next rfl rfl),
  (fun _ _ _ _ _ _ _ => run_next rfl rfl),
  (fun _ _ _ _ _ _ _ => run_next rfl rfl),
  (fun _ _ _ _ _ _ s0 _ => run_ret rfl rfl)⟩
set_option maxRecDepth 20000 in
theorem x_1014_5 : (∀ (l0 l1 l2 l3 l5 : Option AV) (w : Int32) (h : Hp), run 1 1014 5 [l0, l1, l2, l3, some (vi w), l5] [] h = run 1 1014 7 [l0, l1, l2, l3, some (vi w), l5] [vi w] h) := (fun _ _ _ _ _ _ _ => run_next rfl rfl)
theorem e_1014 (v : Option Rf) (a0 : Int32) (a1 : Int32) (h : Hp) : call 1014 [vo v, vi a0, vi a1] h = run 1 1014 0 [some (vo v), some (vi a0), some (vi a1), none, none, none] [] h := rfl
set_option maxRecDepth 20000 in
theorem x_1015 : (∀ (l0 l1 l2 l3 l4 : Option AV) (h : Hp), run 1 1015 0 [l0, l1, l2, l3, l4] [] h = run 1 1015 1 [l0, l1, l2, l3, l4] [vi (0 : Int32)] h) ∧
  (∀ (l0 l1 l3 l4 : Option AV) (s0 : Int32) (h : Hp), run 1 1015 1 [l0, l1, none, l3, l4] [vi s0] h = run 1 1015 2 [l0, l1, none, some (vi s0), l4] [] h) ∧
  (∀ (l0 l1 l3 l4 : Option AV) (s0 : Int32) (w1 : Int32) (h : Hp), run 1 1015 1 [l0, l1, some (vi w1), l3, l4] [vi s0] h = run 1 1015 2 [l0, l1, some (vi w1), some (vi s0), l4] [] h) ∧
  (∀ (l0 l1 l3 l4 : Option AV) (s0 : Int32) (w1 : Option Rf) (h : Hp), run 1 1015 1 [l0, l1, some (vo w1), l3, l4] [vi s0] h = run 1 1015 2 [l0, l1, some (vo w1), some (vi s0), l4] [] h) ∧
  (∀ (l0 l1 l2 l3 l4 : Option AV) (h : Hp), run 1 1015 2 [l0, l1, l2, l3, l4] [] h = run 1 1015 3 [l0, l1, l2, l3, l4] [vi (0 : Int32)] h) ∧
  (∀ (l0 l1 l2 l4 : Option AV) (s0 : Int32) (h : Hp), run 1 1015 3 [l0, l1, l2, none, l4] [vi s0] h = run 1 1015 5 [l0, l1, l2, none, some (vi s0)] [] h) ∧
  (∀ (l0 l1 l2 l4 : Option AV) (s0 : Int32) (w1 : Int32) (h : Hp), run 1 1015 3 [l0, l1, l2, some (vi w1), l4] [vi s0] h = run 1 1015 5 [l0, l1, l2, some (vi w1), some (vi s0)] [] h) ∧
  (∀ (l0 l1 l2 l4 : Option AV) (s0 : Int32) (w1 : Option Rf) (h : Hp), run 1 1015 3 [l0, l1, l2, some (vo w1), l4] [vi s0] h = run 1 1015 5 [l0, l1, l2, some (vo w1), some (vi s0)] [] h) ∧
  (∀ (l1 l2 l3 l4 : Option AV) (s0 : Int32) (w : Option Rf) (h : Hp), run 1 1015 7 [some (vo w), l1, l2, l3, l4] [vi s0] h = run 1 1015 8 [some (vo w), l1, l2, l3, l4] [vo w, vi s0] h) ∧
  (∀ (l0 l1 l2 l3 l4 : Option AV) (s1 : Int32) (o z : Nat) (h : Hp), run 1 1015 8 [l0, l1, l2, l3, l4] [vo (some (o, 10, z)), vi s1] h = run 1 1015 11 [l0, l1, l2, l3, l4] [vi (hI h o 3), vi s1] h) ∧
  (∀ (l0 l1 l2 l3 l4 : Option AV) (s0 : Int32) (s1 : Int32) (h : Hp), run 1 1015 11 [l0, l1, l2, l3, l4] [vi s0, vi s1] h = if s0 ≤ s1 then run 1 1015 34 [l0, l1, l2, l3, l4] [] h else run 1 1015 14 [l0, l1, l2, l3, l4] [] h) ∧
  (∀ (l1 l2 l3 l4 : Option AV) (w : Option Rf) (h : Hp), run 1 1015 14 [some (vo w), l1, l2, l3, l4] [] h = run 1 1015 15 [some (vo w), l1, l2, l3, l4] [vo w] h) ∧
  (∀ (l0 l1 l2 l3 : Option AV) (s0 : Option Rf) (w : Int32) (h : Hp), run 1 1015 15 [l0, l1, l2, l3, some (vi w)] [vo s0] h = run 1 1015 17 [l0, l1, l2, l3, some (vi w)] [vi w, vo s0] h) ∧
  (∀ (l0 l1 l3 l4 : Option AV) (s0 : Int32) (s1 : Option Rf) (w : Int32) (h : Hp), run 1 1015 17 [l0, l1, some (vi w), l3, l4] [vi s0, vo s1] h = run 1 1015 18 [l0, l1, some (vi w), l3, l4] [vi w, vi s0, vo s1] h) ∧
  (∀ (l0 l1 l2 l3 l4 : Option AV) (s0 : Int32) (s1 : Int32) (o z : Nat) (h : Hp), run 1 1015 18 [l0, l1, l2, l3, l4] [vi s0, vi s1, vo (some (o, 10, z))] h = (call 1006 [vo (some (o, 10, z)), vi s1, vi s0] h).bind (fun z => run 1 1015 21 [l0, l1, l2, l3, l4] (z.1.toList ++ []) z.2)) ∧
  (∀ (l0 l2 l3 l4 : Option AV) (s0 : Int32) (w : Int32) (h : Hp), run 1 1015 21 [l0, some (vi w), l2, l3, l4] [vi s0] h = run 1 1015 22 [l0, some (vi w), l2, l3, l4] [vi w, vi s0] h) ∧
  (∀ (l0 l1 l2 l3 l4 : Option AV) (s0 : Int32) (s1 : Int32) (h : Hp), run 1 1015 22 [l0, l1, l2, l3, l4] [vi s0, vi s1] h = if s1 = s0 then run 1 1015 25 [l0, l1, l2, l3, l4] [] h else run 1 1015 28 [l0, l1, l2, l3, l4] [] h) ∧
  (∀ (l0 l1 l4 : Option AV) (w : Int32) (h : Hp), run 1 1015 25 [l0, l1, none, some (vi w), l4] [] h = run 1 1015 28 [l0, l1, none, some (vi (w + (1 : Int32))), l4] [] h) ∧
  (∀ (l0 l1 l4 : Option AV) (w1 : Int32) (w : Int32) (h : Hp), run 1 1015 25 [l0, l1, some (vi w1), some (vi w), l4] [] h = run 1 1015 28 [l0, l1, some (vi w1), some (vi (w + (1 : Int32))), l4] [] h) ∧
  (∀ (l0 l1 l4 : Option AV) (w1 : Option Rf) (w : Int32) (h : Hp), run 1 1015 25 [l0, l1, some (vo w1), some (vi w), l4] [] h = run 1 1015 28 [l0, l1, some (vo w1), some (vi (w + (1 : Int32))), l4] [] h) ∧
  (∀ (l0 l1 l2 : Option AV) (w : Int32) (h : Hp), run 1 1015 28 [l0, l1, l2, none, some (vi w)] [] h = run 1 1015 31 [l0, l1, l2, none, some (vi (w + (1 : Int32)))] [] h) ∧
  (∀ (l0 l1 l2 : Option AV) (w1 : Int32) (w : Int32) (h : Hp), run 1 1015 28 [l0, l1, l2, some (vi w1), some (vi w)] [] h = run 1 1015 31 [l0, l1, l2, some (vi w1), some (vi (w + (1 : Int32)))] [] h) ∧
  (∀ (l0 l1 l2 : Option AV) (w1 : Option Rf) (w : Int32) (h : Hp), run 1 1015 28 [l0, l1, l2, some (vo w1), some (vi w)] [] h = run 1 1015 31 [l0, l1, l2, some (vo w1), some (vi (w + (1 : Int32)))] [] h) ∧
  (∀ (l0 l1 l2 l3 l4 : Option AV) (h : Hp), run 1 1015 31 [l0, l1, l2, l3, l4] [] h = run 1 1015 5 [l0, l1, l2, l3, l4] [] h) ∧
  (∀ (l0 l1 l2 l4 : Option AV) (w : Int32) (h : Hp), run 1 1015 34 [l0, l1, l2, some (vi w), l4] [] h = run 1 1015 35 [l0, l1, l2, some (vi w), l4] [vi w] h) ∧
  (∀ (l0 l1 l2 l3 l4 : Option AV) (s0 : Int32) (h : Hp), run 1 1015 35 [l0, l1, l2, l3, l4] [vi s0] h = some (some (vi s0), h)) := ⟨(fun _ _ _ _ _ _ => run_next rfl rfl),
  (fun _ _ _ _ s0 _ => run_next rfl rfl),
  (fun _ _ _ _ s0 _ _ => run_next rfl rfl),
  (fun _ _ _ _ s0 _ _ => run_next rfl rfl),
  (fun _ _ _ _ _ _ => run_next rfl rfl),
  (fun _ _ _ _ s0 _ => run_next rfl rfl),
  (fun _ _ _ _ s0 _ _ => run_next rfl rfl),
  (fun _ _ _ _ s0 _ _ => run_next rfl rfl),
  (fun _ _ _ _ s0 _ _ => run_next rfl rfl),
  (fun _ _ _ _ _ _ _ _ _ => run_next rfl rfl),
  (fun _ _ _ _ _ s0 _ _ => run_if rfl rfl (run_next rfl) (run_next rfl)),
  (fun _ _ _ _ _ _ => run_next rfl rfl),
  (fun _ _ _ _ s0 _ _ => run_next rfl rfl),
  (fun _ _ _ _ s0 _ _ _ => run_next rfl rfl),
  (fun _ _ _ _ _ s0 _ _ _ _ => run_calx rfl rfl (Nat.le_of_ble_eq_true rfl) (Nat.le_of_ble_eq_true rfl) rfl),
  (fun _ _ _ _ s0 _ _ => run_next rfl rfl),
  (fun _ _ _ _ _ s0 _ _ => run_if rfl rfl (run_next rfl) (run_next rfl)),
  (fun _ _ _ _ _ => run_next rfl rfl),
  (fun _ _ _ _ _ _ => run_next rfl rfl),
  (fun _ _ _ _ _ _ => run_next rfl rfl),
  (fun _ _ _ _ _ => run_next rfl rfl),
  (fun _ _ _ _ _ _ => run_next rfl rfl),
  (fun _ _ _ _ _ _ => run_next rfl rfl),
  (fun _ _ _ _ _ _ => run_next rfl rfl),
  (fun _ _ _ _ _ _ => run_next rfl rfl),
  (fun _ _ _ _ _ s0 _ => run_ret rfl rfl)⟩
set_option maxRecDepth 20000 in
theorem x_1015_5 : (∀ (l0 l1 l2 l3 : Option AV) (w : Int32) (h : Hp), run 1 1015 5 [l0, l1, l2, l3, some (vi w)] [] h = run 1 1015 7 [l0, l1, l2, l3, some (vi w)] [vi w] h) := (fun _ _ _ _ _ _ => run_next rfl rfl)
theorem e_1015 (v : Option Rf) (a0 : Int32) (a1 : Int32) (h : Hp) : call 1015 [vo v, vi a0, vi a1] h = run 1 1015 0 [some (vo v), some (vi a0), some (vi a1), none, none] [] h := rfl
set_option maxRecDepth 20000 in
theorem x_1016 : (∀ (l0 l1 l2 l3 l4 l5 : Option AV) (h : Hp), run 2 1016 0 [l0, l1, l2, l3, l4, l5] [] h = run 2 1016 2 [l0, l1, l2, l3, l4, l5] [vi (-9 : Int32)] h) ∧
  (∀ (l0 l2 l3 l4 l5 : Option AV) (s0 : Int32) (h : Hp), run 2 1016 2 [l0, none, l2, l3, l4, l5] [vi s0] h = run 2 1016 3 [l0, none, some (vi s0), l3, l4, l5] [] h) ∧
  (∀ (l0 l2 l3 l4 l5 : Option AV) (s0 : Int32) (w1 : Int32) (h : Hp), run 2 1016 2 [l0, some (vi w1), l2, l3, l4, l5] [vi s0] h = run 2 1016 3 [l0, some (vi w1), some (vi s0), l3, l4, l5] [] h) ∧
  (∀ (l0 l2 l3 l4 l5 : Option AV) (s0 : Int32) (w1 : Option Rf) (h : Hp), run 2 1016 2 [l0, some (vo w1), l2, l3, l4, l5] [vi s0] h = run 2 1016 3 [l0, some (vo w1), some (vi s0), l3, l4, l5] [] h) ∧
  (∀ (l0 l1 l2 l3 l4 l5 : Option AV) (h : Hp), run 2 1016 3 [l0, l1, l2, l3, l4, l5] [] h = run 2 1016 4 [l0, l1, l2, l3, l4, l5] [vi (0 : Int32)] h) ∧
  (∀ (l0 l1 l3 l4 l5 : Option AV) (s0 : Int32) (h : Hp), run 2 1016 4 [l0, l1, none, l3, l4, l5] [vi s0] h = run 2 1016 5 [l0, l1, none, some (vi s0), l4, l5] [] h) ∧
  (∀ (l0 l1 l3 l4 l5 : Option AV) (s0 : Int32) (w1 : Int32) (h : Hp), run 2 1016 4 [l0, l1, some (vi w1), l3, l4, l5] [vi s0] h = run 2 1016 5 [l0, l1, some (vi w1), some (vi s0), l4, l5] [] h) ∧
  (∀ (l0 l1 l3 l4 l5 : Option AV) (s0 : Int32) (w1 : Option Rf) (h : Hp), run 2 1016 4 [l0, l1, some (vo w1), l3, l4, l5] [vi s0] h = run 2 1016 5 [l0, l1, some (vo w1), some (vi s0), l4, l5] [] h) ∧
  (∀ (l0 l1 l2 l3 l4 l5 : Option AV) (h : Hp), run 2 1016 5 [l0, l1, l2, l3, l4, l5] [] h = run 2 1016 6 [l0, l1, l2, l3, l4, l5] [vi (0 : Int32)] h) ∧
  (∀ (l0 l1 l2 l4 l5 : Option AV) (s0 : Int32) (h : Hp), run 2 1016 6 [l0, l1, l2, none, l4, l5] [vi s0] h = run 2 1016 8 [l0, l1, l2, none, some (vi s0), l5] [] h) ∧
  (∀ (l0 l1 l2 l4 l5 : Option AV) (s0 : Int32) (w1 : Int32) (h : Hp), run 2 1016 6 [l0, l1, l2, some (vi w1), l4, l5] [vi s0] h = run 2 1016 8 [l0, l1, l2, some (vi w1), some (vi s0), l5] [] h) ∧
  (∀ (l0 l1 l2 l4 l5 : Option AV) (s0 : Int32) (w1 : Option Rf) (h : Hp), run 2 1016 6 [l0, l1, l2, some (vo w1), l4, l5] [vi s0] h = run 2 1016 8 [l0, l1, l2, some (vo w1), some (vi s0), l5] [] h) ∧
  (∀ (l1 l2 l3 l4 l5 : Option AV) (s0 : Int32) (w : Option Rf) (h : Hp), run 2 1016 10 [some (vo w), l1, l2, l3, l4, l5] [vi s0] h = run 2 1016 11 [some (vo w), l1, l2, l3, l4, l5] [vo w, vi s0] h) ∧
  (∀ (l0 l1 l2 l3 l4 l5 : Option AV) (s1 : Int32) (o z : Nat) (h : Hp), run 2 1016 11 [l0, l1, l2, l3, l4, l5] [vo (some (o, 10, z)), vi s1] h = run 2 1016 14 [l0, l1, l2, l3, l4, l5] [vo (hR h o 0), vi s1] h) ∧
  (∀ (l0 l1 l2 l3 l4 l5 : Option AV) (s1 : Int32) (o z : Nat) (h : Hp), run 2 1016 14 [l0, l1, l2, l3, l4, l5] [vo (some (o, 5, z)), vi s1] h = run 2 1016 17 [l0, l1, l2, l3, l4, l5] [vi (hI h o 2), vi s1] h) ∧
  (∀ (l0 l1 l2 l3 l4 l5 : Option AV) (s0 : Int32) (s1 : Int32) (h : Hp), run 2 1016 17 [l0, l1, l2, l3, l4, l5] [vi s0, vi s1] h = if s0 ≤ s1 then run 2 1016 47 [l0, l1, l2, l3, l4, l5] [] h else run 2 1016 20 [l0, l1, l2, l3, l4, l5] [] h) ∧
  (∀ (l1 l2 l3 l4 l5 : Option AV) (w : Option Rf) (h : Hp), run 2 1016 20 [some (vo w), l1, l2, l3, l4, l5] [] h = run 2 1016 21 [some (vo w), l1, l2, l3, l4, l5] [vo w] h) ∧
  (∀ (l0 l1 l2 l3 l5 : Option AV) (s0 : Option Rf) (w : Int32) (h : Hp), run 2 1016 21 [l0, l1, l2, l3, some (vi w), l5] [vo s0] h = run 2 1016 23 [l0, l1, l2, l3, some (vi w), l5] [vi w, vo s0] h) ∧
  (∀ (l0 l2 l3 l4 l5 : Option AV) (s0 : Int32) (s1 : Option Rf) (w : Int32) (h : Hp), run 2 1016 23 [l0, some (vi w), l2, l3, l4, l5] [vi s0, vo s1] h = run 2 1016 24 [l0, some (vi w), l2, l3, l4, l5] [vi w, vi s0, vo s1] h) ∧
  (∀ (l0 l1 l2 l3 l4 l5 : Option AV) (s0 : Int32) (s1 : Int32) (o z : Nat) (h : Hp), run 2 1016 24 [l0, l1, l2, l3, l4, l5] [vi s0, vi s1, vo (some (o, 10, z))] h = (call 1015 [vo (some (o, 10, z)), vi s1, vi s0] h).bind (fun z => run 2 1016 27 [l0, l1, l2, l3, l4, l5] (z.1.toList ++ []) z.2)) ∧
  (∀ (l0 l1 l2 l3 l5 : Option AV) (s0 : Int32) (h : Hp), run 2 1016 27 [l0, l1, l2, l3, none, l5] [vi s0] h = run 2 1016 29 [l0, l1, l2, l3, none, some (vi s0)] [] h) ∧
  (∀ (l0 l1 l2 l3 l5 : Option AV) (s0 : Int32) (w1 : Int32) (h : Hp), run 2 1016 27 [l0, l1, l2, l3, some (vi w1), l5] [vi s0] h = run 2 1016 29 [l0, l1, l2, l3, some (vi w1), some (vi s0)] [] h) ∧
  (∀ (l0 l1 l2 l3 l5 : Option AV) (s0 : Int32) (w1 : Option Rf) (h : Hp), run 2 1016 27 [l0, l1, l2, l3, some (vo w1), l5] [vi s0] h = run 2 1016 29 [l0, l1, l2, l3, some (vo w1), some (vi s0)] [] h) ∧
  (∀ (l0 l1 l2 l3 l4 : Option AV) (w : Int32) (h : Hp), run 2 1016 29 [l0, l1, l2, l3, l4, some (vi w)] [] h = run 2 1016 31 [l0, l1, l2, l3, l4, some (vi w)] [vi w] h) ∧
  (∀ (l0 l1 l2 l4 l5 : Option AV) (s0 : Int32) (w : Int32) (h : Hp), run 2 1016 31 [l0, l1, l2, some (vi w), l4, l5] [vi s0] h = run 2 1016 32 [l0, l1, l2, some (vi w), l4, l5] [vi w, vi s0] h) ∧
  (∀ (l0 l1 l2 l3 l4 l5 : Option AV) (s0 : Int32) (s1 : Int32) (h : Hp), run 2 1016 32 [l0, l1, l2, l3, l4, l5] [vi s0, vi s1] h = if s1 ≤ s0 then run 2 1016 41 [l0, l1, l2, l3, l4, l5] [] h else run 2 1016 35 [l0, l1, l2, l3, l4, l5] [] h) ∧
  (∀ (l0 l1 l2 l3 l5 : Option AV) (w : Int32) (h : Hp), run 2 1016 35 [l0, l1, l2, l3, some (vi w), l5] [] h = run 2 1016 37 [l0, l1, l2, l3, some (vi w), l5] [vi w] h) ∧
  (∀ (l0 l2 l3 l4 l5 : Option AV) (s0 : Int32) (h : Hp), run 2 1016 37 [l0, none, l2, l3, l4, l5] [vi s0] h = run 2 1016 38 [l0, none, some (vi s0), l3, l4, l5] [] h) ∧
  (∀ (l0 l2 l3 l4 l5 : Option AV) (s0 : Int32) (w1 : Int32) (h : Hp), run 2 1016 37 [l0, some (vi w1), l2, l3, l4, l5] [vi s0] h = run 2 1016 38 [l0, some (vi w1), some (vi s0), l3, l4, l5] [] h) ∧
  (∀ (l0 l2 l3 l4 l5 : Option AV) (s0 : Int32) (w1 : Option Rf) (h : Hp), run 2 1016 37 [l0, some (vo w1), l2, l3, l4, l5] [vi s0] h = run 2 1016 38 [l0, some (vo w1), some (vi s0), l3, l4, l5] [] h) ∧
  (∀ (l0 l1 l2 l3 l4 : Option AV) (w : Int32) (h : Hp), run 2 1016 38 [l0, l1, l2, l3, l4, some (vi w)] [] h = run 2 1016 40 [l0, l1, l2, l3, l4, some (vi w)] [vi w] h) ∧
  (∀ (l0 l1 l3 l4 l5 : Option AV) (s0 : Int32) (h : Hp), run 2 1016 40 [l0, l1, none, l3, l4, l5] [vi s0] h = run 2 1016 41 [l0, l1, none, some (vi s0), l4, l5] [] h) ∧
  (∀ (l0 l1 l3 l4 l5 : Option AV) (s0 : Int32) (w1 : Int32) (h : Hp), run 2 1016 40 [l0, l1, some (vi w1), l3, l4, l5] [vi s0] h = run 2 1016 41 [l0, l1, some (vi w1), some (vi s0), l4, l5] [] h) ∧
  (∀ (l0 l1 l3 l4 l5 : Option AV) (s0 : Int32) (w1 : Option Rf) (h : Hp), run 2 1016 40 [l0, l1, some (vo w1), l3, l4, l5] [vi s0] h = run 2 1016 41 [l0, l1, some (vo w1), some (vi s0), l4, l5] [] h) ∧
  (∀ (l0 l1 l2 l5 : Option AV) (w : Int32) (h : Hp), run 2 1016 41 [l0, l1, l2, none, some (vi w), l5] [] h = run 2 1016 44 [l0, l1, l2, none, some (vi (w + (1 : Int32))), l5] [] h) ∧
  (∀ (l0 l1 l2 l5 : Option AV) (w1 : Int32) (w : Int32) (h : Hp), run 2 1016 41 [l0, l1, l2, some (vi w1), some (vi w), l5] [] h = run 2 1016 44 [l0, l1, l2, some (vi w1), some (vi (w + (1 : Int32))), l5] [] h) ∧
  (∀ (l0 l1 l2 l5 : Option AV) (w1 : Option Rf) (w : Int32) (h : Hp), run 2 1016 41 [l0, l1, l2, some (vo w1), some (vi w), l5] [] h = run 2 1016 44 [l0, l1, l2, some (vo w1), some (vi (w + (1 : Int32))), l5] [] h) ∧
  (∀ (l0 l1 l2 l3 l4 l5 : Option AV) (h : Hp), run 2 1016 44 [l0, l1, l2, l3, l4, l5] [] h = run 2 1016 8 [l0, l1, l2, l3, l4, l5] [] h) ∧
  (∀ (l0 l1 l3 l4 l5 : Option AV) (w : Int32) (h : Hp), run 2 1016 47 [l0, l1, some (vi w), l3, l4, l5] [] h = run 2 1016 48 [l0, l1, some (vi w), l3, l4, l5] [vi w] h) ∧
  (∀ (l0 l1 l2 l3 l4 l5 : Option AV) (s0 : Int32) (h : Hp), run 2 1016 48 [l0, l1, l2, l3, l4, l5] [vi s0] h = some (some (vi s0), h)) := ⟨(fun _ _ _ _ _ _ _ => run_next rfl rfl),
  (fun _ _ _ _ _ s0 _ => run_next rfl rfl),
  (fun _ _ _ _ _ s0 _ _ => run_next rfl rfl),
  (fun _ _ _ _ _ s0 _ _ => run_next rfl rfl),
  (fun _ _ _ _ _ _ _ => run_next rfl rfl),
  (fun _ _ _ _ _ s0 _ => run_next rfl rfl),
  (fun _ _ _ _ _ s0 _ _ => run_next rfl rfl),
  (fun _ _ _ _ _ s0 _ _ => run_next rfl rfl),
  (fun _ _ _ _ _ _ _ => run_next rfl rfl),
  (fun _ _ _ _ _ s0 _ => run_next rfl rfl),
  (fun _ _ _ _ _ s0 _ _ => run_next rfl rfl),
  (fun _ _ _ _ _ s0 _ _ => run_next rfl rfl),
  (fun _ _ _ _ _ s0 _ _ => run_next rfl rfl),
  (fun _ _ _ _ _ _ _ _ _ _ => run_next rfl rfl),
  (fun _ _ _ _ _ _ _ _ _ _ => run_next rfl rfl),
  (fun _ _ _ _ _ _ s0 _ _ => run_if rfl rfl (run_next rfl) (run_next rfl)),
  (fun _ _ _ _ _ _ _ => run_next rfl rfl),
  (fun _ _ _ _ _ s0 _ _ => run_next rfl rfl),
  (fun _ _ _ _ _ s0 _ _ _ => run_next rfl rfl),
  (fun _ _ _ _ _ _ s0 _ _ _ _ => run_calx rfl rfl (Nat.le_of_ble_eq_true rfl) (Nat.le_of_ble_eq_true rfl) rfl),
  (fun _ _ _ _ _ s0 _ => run_next rfl rfl),
  (fun _ _ _ _ _ s0 _ _ => run_next rfl rfl),
  (fun _ _ _ _ _ s0 _ _ => run_next rfl rfl),
  (fun _ _ _ _ _ _ _ => run_next rfl rfl),
  (fun _ _ _ _ _ s0 _ _ => run_next rfl rfl),
  (fun _ _ _ _ _ _ s0 _ _ => run_if rfl rfl (run_next rfl) (run_next rfl)),
  (fun _ _ _ _ _ _ _ => run_next rfl rfl),
  (fun _ _ _ _ _ s0 _ => run_next rfl rfl),
  (fun _ _ _ _ _ s0 _ _ => run_next rfl rfl),
  (fun _ _ _ _ _ s0 _ _ => run_next rfl rfl),
  (fun _ _ _ _ _ _ _ => run_next rfl rfl),
  (fun _ _ _ _ _ s0 _ => run_next rfl rfl),
  (fun _ _ _ _ _ s0 _ _ => run_next rfl rfl),
  (fun _ _ _ _ _ s0 _ _ => run_next rfl rfl),
  (fun _ _ _ _ _ _ => run_next rfl rfl),
  (fun _ _ _ _ _ _ _ => run_next rfl rfl),
  (fun _ _ _ _ _ _ _ => run_next rfl rfl),
  (fun _ _ _ _ _ _ _ => run_next rfl rfl),
  (fun _ _ _ _ _ _ _ => run_next rfl rfl),
  (fun _ _ _ _ _ _ s0 _ => run_ret rfl rfl)⟩
set_option maxRecDepth 20000 in
theorem x_1016_8 : (∀ (l0 l1 l2 l3 l5 : Option AV) (w : Int32) (h : Hp), run 2 1016 8 [l0, l1, l2, l3, some (vi w), l5] [] h = run 2 1016 10 [l0, l1, l2, l3, some (vi w), l5] [vi w] h) := (fun _ _ _ _ _ _ _ => run_next rfl rfl)
theorem e_1016 (v : Option Rf) (a0 : Int32) (h : Hp) : call 1016 [vo v, vi a0] h = run 2 1016 0 [some (vo v), some (vi a0), none, none, none, none] [] h := rfl
