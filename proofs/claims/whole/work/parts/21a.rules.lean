set_option maxRecDepth 20000 in
theorem x_0 : (∀  (w : Option Rf) (h : Hp), run 0 0 0 [some (vo w)] [] h = run 0 0 1 [some (vo w)] [vo w] h) ∧
  (∀ (l0 : Option AV) (w : Rf) (h : Hp), run 0 0 1 [l0] [vo (some w)] h = run 0 0 4 [l0] [] h) ∧
  (∀  (w : Option Rf) (h : Hp), run 0 0 4 [some (vo w)] [] h = run 0 0 5 [some (vo w)] [vo w] h) ∧
  (∀ (l0 : Option AV) (s0 : Option Rf) (h : Hp), run 0 0 5 [l0] [vo s0] h = run 0 0 7 [l0] [vi (30 : Int32), vo s0] h) ∧
  (∀ (l0 : Option AV) (s0 : Int32) (s1 : Option Rf) (h : Hp), run 0 0 7 [l0] [vi s0, vo s1] h = if s0 < 0 ∨ 100000 ≤ s0.toNatClampNeg then none else run 0 0 9 [l0] [vo (some (h.1.1, 13, s0.toNatClampNeg)), vo s1] (hmk h s0.toNatClampNeg)) ∧
  (∀ (l0 : Option AV) (s0 : Option Rf) (o z : Nat) (h : Hp), run 0 0 9 [l0] [vo s0, vo (some (o, 0, z))] h = run 0 0 12 [l0] [] (hsR h o 0 s0)) ∧
  (∀  (w : Option Rf) (h : Hp), run 0 0 12 [some (vo w)] [] h = run 0 0 13 [some (vo w)] [vo w] h) ∧
  (∀ (l0 : Option AV) (s0 : Option Rf) (h : Hp), run 0 0 13 [l0] [vo s0] h = run 0 0 15 [l0] [vi (30 : Int32), vo s0] h) ∧
  (∀ (l0 : Option AV) (s0 : Int32) (s1 : Option Rf) (h : Hp), run 0 0 15 [l0] [vi s0, vo s1] h = if s0 < 0 ∨ 100000 ≤ s0.toNatClampNeg then none else run 0 0 17 [l0] [vo (some (h.1.1, 13, s0.toNatClampNeg)), vo s1] (hmk h s0.toNatClampNeg)) ∧
  (∀ (l0 : Option AV) (s0 : Option Rf) (o z : Nat) (h : Hp), run 0 0 17 [l0] [vo s0, vo (some (o, 0, z))] h = run 0 0 20 [l0] [] (hsR h o 1 s0)) ∧
  (∀ (l0 : Option AV) (h : Hp), run 0 0 20 [l0] [] h = some (none, h)) := ⟨(fun _ _ => run_next rfl rfl),
  (fun _ _ _ => run_next rfl rfl),
  (fun _ _ => run_next rfl rfl),
  (fun _ s0 _ => run_next rfl rfl),
  (fun _ s0 _ _ => run_if rfl rfl (run_fail rfl) (run_next rfl)),
  (fun _ s0 _ _ _ => run_next rfl rfl),
  (fun _ _ => run_next rfl rfl),
  (fun _ s0 _ => run_next rfl rfl),
  (fun _ s0 _ _ => run_if rfl rfl (run_fail rfl) (run_next rfl)),
  (fun _ s0 _ _ _ => run_next rfl rfl),
  (fun _ _ => run_ret rfl rfl)⟩
theorem e_0 (v : Option Rf) (h : Hp) : call 0 [vo v] h = run 0 0 0 [some (vo v)] [] h := rfl
set_option maxRecDepth 20000 in
theorem x_1 : (∀ (l0 l1 l3 l4 l5 : Option AV) (w : Int32) (h : Hp), run 3 1 0 [l0, l1, some (vi w), l3, l4, l5] [] h = run 3 1 1 [l0, l1, some (vi w), l3, l4, l5] [vi w] h) ∧
  (∀ (l0 l1 l2 l4 l5 : Option AV) (s0 : Int32) (w : Int32) (h : Hp), run 3 1 1 [l0, l1, l2, some (vi w), l4, l5] [vi s0] h = run 3 1 2 [l0, l1, l2, some (vi w), l4, l5] [vi w, vi s0] h) ∧
  (∀ (l0 l1 l2 l3 l4 l5 : Option AV) (s0 : Int32) (s1 : Int32) (h : Hp), run 3 1 2 [l0, l1, l2, l3, l4, l5] [vi s0, vi s1] h = if s1 = s0 then run 3 1 5 [l0, l1, l2, l3, l4, l5] [] h else run 3 1 7 [l0, l1, l2, l3, l4, l5] [] h) ∧
  (∀ (l0 l1 l2 l3 l4 l5 : Option AV) (h : Hp), run 3 1 5 [l0, l1, l2, l3, l4, l5] [] h = run 3 1 6 [l0, l1, l2, l3, l4, l5] [vi (0 : Int32)] h) ∧
  (∀ (l0 l1 l2 l3 l4 l5 : Option AV) (s0 : Int32) (h : Hp), run 3 1 6 [l0, l1, l2, l3, l4, l5] [vi s0] h = some (some (vi s0), h)) ∧
  (∀ (l0 l2 l3 l4 l5 : Option AV) (w : Option Rf) (h : Hp), run 3 1 7 [l0, some (vo w), l2, l3, l4, l5] [] h = run 3 1 8 [l0, some (vo w), l2, l3, l4, l5] [vo w] h) ∧
  (∀ (l0 l1 l3 l4 l5 : Option AV) (s0 : Option Rf) (w : Int32) (h : Hp), run 3 1 8 [l0, l1, some (vi w), l3, l4, l5] [vo s0] h = run 3 1 9 [l0, l1, some (vi w), l3, l4, l5] [vi w, vo s0] h) ∧
  (∀ (l0 l1 l2 l3 l4 l5 : Option AV) (s0 : Int32) (o z : Nat) (h : Hp), run 3 1 9 [l0, l1, l2, l3, l4, l5] [vi s0, vo (some (o, 5, z))] h = (call 504 [vo (some (o, 5, z)), vi s0] h).bind (fun z => run 3 1 12 [l0, l1, l2, l3, l4, l5] (z.1.toList ++ []) z.2)) ∧
  (∀ (l0 l1 l2 l3 l4 l5 : Option AV) (s0 : Int32) (h : Hp), run 3 1 12 [l0, l1, l2, l3, l4, l5] [vi s0] h = if s0 = 0 then run 3 1 23 [l0, l1, l2, l3, l4, l5] [] h else run 3 1 15 [l0, l1, l2, l3, l4, l5] [] h) ∧
  (∀ (l0 l2 l3 l4 l5 : Option AV) (w : Option Rf) (h : Hp), run 3 1 15 [l0, some (vo w), l2, l3, l4, l5] [] h = run 3 1 16 [l0, some (vo w), l2, l3, l4, l5] [vo w] h) ∧
  (∀ (l0 l1 l2 l4 l5 : Option AV) (s0 : Option Rf) (w : Int32) (h : Hp), run 3 1 16 [l0, l1, l2, some (vi w), l4, l5] [vo s0] h = run 3 1 17 [l0, l1, l2, some (vi w), l4, l5] [vi w, vo s0] h) ∧
  (∀ (l0 l1 l2 l3 l4 l5 : Option AV) (s0 : Int32) (o z : Nat) (h : Hp), run 3 1 17 [l0, l1, l2, l3, l4, l5] [vi s0, vo (some (o, 5, z))] h = (call 504 [vo (some (o, 5, z)), vi s0] h).bind (fun z => run 3 1 20 [l0, l1, l2, l3, l4, l5] (z.1.toList ++ []) z.2)) ∧
  (∀ (l0 l1 l2 l3 l4 l5 : Option AV) (s0 : Int32) (h : Hp), run 3 1 20 [l0, l1, l2, l3, l4, l5] [vi s0] h = if s0 = 0 then run 3 1 23 [l0, l1, l2, l3, l4, l5] [] h else run 3 1 26 [l0, l1, l2, l3, l4, l5] [] h) ∧
  (∀ (l0 l1 l2 l3 l4 l5 : Option AV) (h : Hp), run 3 1 23 [l0, l1, l2, l3, l4, l5] [] h = run 3 1 25 [l0, l1, l2, l3, l4, l5] [vi (-9 : Int32)] h) ∧
  (∀ (l0 l1 l2 l3 l4 l5 : Option AV) (s0 : Int32) (h : Hp), run 3 1 25 [l0, l1, l2, l3, l4, l5] [vi s0] h = some (some (vi s0), h)) ∧
  (∀ (l0 l1 l2 l3 l4 l5 : Option AV) (h : Hp), run 3 1 26 [l0, l1, l2, l3, l4, l5] [] h = run 3 1 27 [l0, l1, l2, l3, l4, l5] [vi (0 : Int32)] h) ∧
  (∀ (l0 l1 l2 l4 l5 : Option AV) (s0 : Int32) (h : Hp), run 3 1 27 [l0, l1, l2, none, l4, l5] [vi s0] h = run 3 1 29 [l0, l1, l2, none, some (vi s0), l5] [] h) ∧
  (∀ (l0 l1 l2 l4 l5 : Option AV) (s0 : Int32) (w1 : Int32) (h : Hp), run 3 1 27 [l0, l1, l2, some (vi w1), l4, l5] [vi s0] h = run 3 1 29 [l0, l1, l2, some (vi w1), some (vi s0), l5] [] h) ∧
  (∀ (l0 l1 l2 l4 l5 : Option AV) (s0 : Int32) (w1 : Option Rf) (h : Hp), run 3 1 27 [l0, l1, l2, some (vo w1), l4, l5] [vi s0] h = run 3 1 29 [l0, l1, l2, some (vo w1), some (vi s0), l5] [] h) ∧
  (∀ (l0 l2 l3 l4 l5 : Option AV) (s0 : Int32) (w : Option Rf) (h : Hp), run 3 1 31 [l0, some (vo w), l2, l3, l4, l5] [vi s0] h = run 3 1 32 [l0, some (vo w), l2, l3, l4, l5] [vo w, vi s0] h) ∧
  (∀ (l0 l1 l2 l3 l4 l5 : Option AV) (s1 : Int32) (o z : Nat) (h : Hp), run 3 1 32 [l0, l1, l2, l3, l4, l5] [vo (some (o, 5, z)), vi s1] h = run 3 1 35 [l0, l1, l2, l3, l4, l5] [vi (hI h o 2), vi s1] h) ∧
  (∀ (l0 l1 l2 l3 l4 l5 : Option AV) (s0 : Int32) (s1 : Int32) (h : Hp), run 3 1 35 [l0, l1, l2, l3, l4, l5] [vi s0, vi s1] h = if s0 ≤ s1 then run 3 1 55 [l0, l1, l2, l3, l4, l5] [] h else run 3 1 38 [l0, l1, l2, l3, l4, l5] [] h) ∧
  (∀ (l1 l2 l3 l4 l5 : Option AV) (w : Option Rf) (h : Hp), run 3 1 38 [some (vo w), l1, l2, l3, l4, l5] [] h = run 3 1 39 [some (vo w), l1, l2, l3, l4, l5] [vo w] h) ∧
  (∀ (l0 l1 l2 l3 l4 l5 : Option AV) (o z : Nat) (h : Hp), run 3 1 39 [l0, l1, l2, l3, l4, l5] [vo (some (o, 0, z))] h = run 3 1 42 [l0, l1, l2, l3, l4, l5] [vo (hR h o 0)] h) ∧
  (∀ (l0 l1 l2 l3 l5 : Option AV) (s0 : Option Rf) (w : Int32) (h : Hp), run 3 1 42 [l0, l1, l2, l3, some (vi w), l5] [vo s0] h = run 3 1 44 [l0, l1, l2, l3, some (vi w), l5] [vi w, vo s0] h) ∧
  (∀ (l0 l1 l2 l3 l4 l5 : Option AV) (s0 : Int32) (s1 : Option Rf) (h : Hp), run 3 1 44 [l0, l1, l2, l3, l4, l5] [vi s0, vo s1] h = run 3 1 45 [l0, l1, l2, l3, l4, l5] [vi (1 : Int32), vi s0, vo s1] h) ∧
  (∀ (l0 l1 l2 l3 l5 : Option AV) (s0 : Int32) (s1 : Int32) (s2 : Option Rf) (w : Int32) (h : Hp), run 3 1 45 [l0, l1, l2, l3, some (vi w), l5] [vi s0, vi s1, vo s2] h = run 3 1 47 [l0, l1, l2, l3, some (vi w), l5] [vi w, vi s0, vi s1, vo s2] h) ∧
  (∀ (l0 l1 l2 l3 l4 l5 : Option AV) (s0 : Int32) (s1 : Int32) (s2 : Int32) (s3 : Option Rf) (h : Hp), run 3 1 47 [l0, l1, l2, l3, l4, l5] [vi s0, vi s1, vi s2, vo s3] h = run 3 1 48 [l0, l1, l2, l3, l4, l5] [vi (s1 <<< (s0 &&& 31)), vi s2, vo s3] h) ∧
  (∀ (l0 l1 l2 l3 l4 l5 : Option AV) (s0 : Int32) (s1 : Int32) (o z : Nat) (h : Hp), run 3 1 48 [l0, l1, l2, l3, l4, l5] [vi s0, vi s1, vo (some (o, 13, z))] h = if s1 < 0 ∨ z ≤ s1.toNatClampNeg then none else run 3 1 49 [l0, l1, l2, l3, l4, l5] [] (hsI h o s1.toNatClampNeg s0)) ∧
  (∀ (l0 l1 l2 l5 : Option AV) (w : Int32) (h : Hp), run 3 1 49 [l0, l1, l2, none, some (vi w), l5] [] h = run 3 1 52 [l0, l1, l2, none, some (vi (w + (1 : Int32))), l5] [] h) ∧
  (∀ (l0 l1 l2 l5 : Option AV) (w1 : Int32) (w : Int32) (h : Hp), run 3 1 49 [l0, l1, l2, some (vi w1), some (vi w), l5] [] h = run 3 1 52 [l0, l1, l2, some (vi w1), some (vi (w + (1 : Int32))), l5] [] h) ∧
  (∀ (l0 l1 l2 l5 : Option AV) (w1 : Option Rf) (w : Int32) (h : Hp), run 3 1 49 [l0, l1, l2, some (vo w1), some (vi w), l5] [] h = run 3 1 52 [l0, l1, l2, some (vo w1), some (vi (w + (1 : Int32))), l5] [] h) ∧
  (∀ (l0 l1 l2 l3 l4 l5 : Option AV) (h : Hp), run 3 1 52 [l0, l1, l2, l3, l4, l5] [] h = run 3 1 29 [l0, l1, l2, l3, l4, l5] [] h) ∧
  (∀ (l0 l1 l2 l3 l4 l5 : Option AV) (h : Hp), run 3 1 55 [l0, l1, l2, l3, l4, l5] [] h = run 3 1 56 [l0, l1, l2, l3, l4, l5] [vi (1 : Int32)] h) ∧
  (∀ (l0 l1 l2 l4 l5 : Option AV) (s0 : Int32) (h : Hp), run 3 1 56 [l0, l1, l2, none, l4, l5] [vi s0] h = run 3 1 58 [l0, l1, l2, none, some (vi s0), l5] [] h) ∧
  (∀ (l0 l1 l2 l4 l5 : Option AV) (s0 : Int32) (w1 : Int32) (h : Hp), run 3 1 56 [l0, l1, l2, some (vi w1), l4, l5] [vi s0] h = run 3 1 58 [l0, l1, l2, some (vi w1), some (vi s0), l5] [] h) ∧
  (∀ (l0 l1 l2 l4 l5 : Option AV) (s0 : Int32) (w1 : Option Rf) (h : Hp), run 3 1 56 [l0, l1, l2, some (vo w1), l4, l5] [vi s0] h = run 3 1 58 [l0, l1, l2, some (vo w1), some (vi s0), l5] [] h) ∧
  (∀ (l0 l1 l2 l3 l4 l5 : Option AV) (s0 : Int32) (h : Hp), run 3 1 60 [l0, l1, l2, l3, l4, l5] [vi s0] h = run 3 1 63 [l0, l1, l2, l3, l4, l5] [vi (900 : Int32), vi s0] h) ∧
  (∀ (l0 l1 l2 l3 l4 l5 : Option AV) (s0 : Int32) (s1 : Int32) (h : Hp), run 3 1 63 [l0, l1, l2, l3, l4, l5] [vi s0, vi s1] h = if s0 < s1 then run 3 1 109 [l0, l1, l2, l3, l4, l5] [] h else run 3 1 66 [l0, l1, l2, l3, l4, l5] [] h) ∧
  (∀ (l1 l2 l3 l4 l5 : Option AV) (w : Option Rf) (h : Hp), run 3 1 66 [some (vo w), l1, l2, l3, l4, l5] [] h = run 3 1 67 [some (vo w), l1, l2, l3, l4, l5] [vo w] h) ∧
  (∀ (l0 l2 l3 l4 l5 : Option AV) (s0 : Option Rf) (w : Option Rf) (h : Hp), run 3 1 67 [l0, some (vo w), l2, l3, l4, l5] [vo s0] h = run 3 1 68 [l0, some (vo w), l2, l3, l4, l5] [vo w, vo s0] h) ∧
  (∀ (l0 l1 l2 l3 l4 l5 : Option AV) (s0 : Option Rf) (o z : Nat) (h : Hp), run 3 1 68 [l0, l1, l2, l3, l4, l5] [vo s0, vo (some (o, 0, z))] h = (call 3 [vo (some (o, 0, z)), vo s0] h).bind (fun z => run 3 1 71 [l0, l1, l2, l3, l4, l5] (z.1.toList ++ []) z.2)) ∧
  (∀ (l1 l2 l3 l4 l5 : Option AV) (w : Option Rf) (h : Hp), run 3 1 71 [some (vo w), l1, l2, l3, l4, l5] [] h = run 3 1 72 [some (vo w), l1, l2, l3, l4, l5] [vo w] h) ∧
  (∀ (l0 l2 l3 l4 l5 : Option AV) (s0 : Option Rf) (w : Option Rf) (h : Hp), run 3 1 72 [l0, some (vo w), l2, l3, l4, l5] [vo s0] h = run 3 1 73 [l0, some (vo w), l2, l3, l4, l5] [vo w, vo s0] h) ∧
  (∀ (l0 l1 l2 l3 l4 l5 : Option AV) (s0 : Option Rf) (o z : Nat) (h : Hp), run 3 1 73 [l0, l1, l2, l3, l4, l5] [vo s0, vo (some (o, 0, z))] h = (call 4 [vo (some (o, 0, z)), vo s0] h).bind (fun z => run 3 1 76 [l0, l1, l2, l3, l4, l5] (z.1.toList ++ []) z.2)) ∧
  (∀ (l0 l1 l2 l3 l5 : Option AV) (s0 : Int32) (h : Hp), run 3 1 76 [l0, l1, l2, l3, none, l5] [vi s0] h = run 3 1 78 [l0, l1, l2, l3, none, some (vi s0)] [] h) ∧
  (∀ (l0 l1 l2 l3 l5 : Option AV) (s0 : Int32) (w1 : Int32) (h : Hp), run 3 1 76 [l0, l1, l2, l3, some (vi w1), l5] [vi s0] h = run 3 1 78 [l0, l1, l2, l3, some (vi w1), some (vi s0)] [] h) ∧
  (∀ (l0 l1 l2 l3 l5 : Option AV) (s0 : Int32) (w1 : Option Rf) (h : Hp), run 3 1 76 [l0, l1, l2, l3, some (vo w1), l5] [vi s0] h = run 3 1 78 [l0, l1, l2, l3, some (vo w1), some (vi s0)] [] h) ∧
  (∀ (l1 l2 l3 l4 l5 : Option AV) (w : Option Rf) (h : Hp), run 3 1 78 [some (vo w), l1, l2, l3, l4, l5] [] h = run 3 1 79 [some (vo w), l1, l2, l3, l4, l5] [vo w] h) ∧
  (∀ (l0 l1 l2 l3 l4 l5 : Option AV) (o z : Nat) (h : Hp), run 3 1 79 [l0, l1, l2, l3, l4, l5] [vo (some (o, 0, z))] h = run 3 1 82 [l0, l1, l2, l3, l4, l5] [vo (hR h o 0)] h) ∧
  (∀ (l0 l1 l3 l4 l5 : Option AV) (s0 : Option Rf) (w : Int32) (h : Hp), run 3 1 82 [l0, l1, some (vi w), l3, l4, l5] [vo s0] h = run 3 1 83 [l0, l1, some (vi w), l3, l4, l5] [vi w, vo s0] h) ∧
  (∀ (l0 l1 l2 l3 l4 l5 : Option AV) (s0 : Int32) (o z : Nat) (h : Hp), run 3 1 83 [l0, l1, l2, l3, l4, l5] [vi s0, vo (some (o, 13, z))] h = if s0 < 0 ∨ z ≤ s0.toNatClampNeg then none else run 3 1 84 [l0, l1, l2, l3, l4, l5] [vi (hI h o s0.toNatClampNeg)] h) ∧
  (∀ (l0 l1 l2 l4 l5 : Option AV) (s0 : Int32) (w : Int32) (h : Hp), run 3 1 84 [l0, l1, l2, some (vi w), l4, l5] [vi s0] h = run 3 1 85 [l0, l1, l2, some (vi w), l4, l5] [vi w, vi s0] h) ∧
  (∀ (l0 l1 l2 l3 l4 l5 : Option AV) (s0 : Int32) (s1 : Int32) (h : Hp), run 3 1 85 [l0, l1, l2, l3, l4, l5] [vi s0, vi s1] h = run 3 1 86 [l0, l1, l2, l3, l4, l5] [vi (s1.toUInt32 >>> (s0.toUInt32 &&& Int32.toUInt32 31)).toInt32] h) ∧
  (∀ (l0 l1 l2 l3 l4 l5 : Option AV) (s0 : Int32) (h : Hp), run 3 1 86 [l0, l1, l2, l3, l4, l5] [vi s0] h = run 3 1 87 [l0, l1, l2, l3, l4, l5] [vi (1 : Int32), vi s0] h) ∧
  (∀ (l0 l1 l2 l3 l4 l5 : Option AV) (s0 : Int32) (s1 : Int32) (h : Hp), run 3 1 87 [l0, l1, l2, l3, l4, l5] [vi s0, vi s1] h = run 3 1 88 [l0, l1, l2, l3, l4, l5] [vi (s1 &&& s0)] h) ∧
  (∀ (l0 l1 l2 l3 l4 l5 : Option AV) (s0 : Int32) (h : Hp), run 3 1 88 [l0, l1, l2, l3, l4, l5] [vi s0] h = run 3 1 89 [l0, l1, l2, l3, l4, l5] [vi (1 : Int32), vi s0] h) ∧
  (∀ (l0 l1 l2 l3 l4 l5 : Option AV) (s0 : Int32) (s1 : Int32) (h : Hp), run 3 1 89 [l0, l1, l2, l3, l4, l5] [vi s0, vi s1] h = if s1 = s0 then run 3 1 92 [l0, l1, l2, l3, l4, l5] [] h else run 3 1 95 [l0, l1, l2, l3, l4, l5] [] h) ∧
  (∀ (l0 l1 l2 l3 l5 : Option AV) (w : Int32) (h : Hp), run 3 1 92 [l0, l1, l2, l3, some (vi w), l5] [] h = run 3 1 94 [l0, l1, l2, l3, some (vi w), l5] [vi w] h) ∧
  (∀ (l0 l1 l2 l3 l4 l5 : Option AV) (s0 : Int32) (h : Hp), run 3 1 94 [l0, l1, l2, l3, l4, l5] [vi s0] h = some (some (vi s0), h)) ∧
  (∀ (l0 l1 l2 l3 l4 : Option AV) (w : Int32) (h : Hp), run 3 1 95 [l0, l1, l2, l3, l4, some (vi w)] [] h = run 3 1 97 [l0, l1, l2, l3, l4, some (vi w)] [vi w] h) ∧
  (∀ (l0 l1 l2 l3 l4 l5 : Option AV) (s0 : Int32) (h : Hp), run 3 1 97 [l0, l1, l2, l3, l4, l5] [vi s0] h = if s0 = 0 then run 3 1 100 [l0, l1, l2, l3, l4, l5] [] h else run 3 1 103 [l0, l1, l2, l3, l4, l5] [] h) ∧
  (∀ (l0 l1 l2 l3 l4 l5 : Option AV) (h : Hp), run 3 1 100 [l0, l1, l2, l3, l4, l5] [] h = run 3 1 102 [l0, l1, l2, l3, l4, l5] [vi (-9 : Int32)] h) ∧
  (∀ (l0 l1 l2 l3 l4 l5 : Option AV) (s0 : Int32) (h : Hp), run 3 1 102 [l0, l1, l2, l3, l4, l5] [vi s0] h = some (some (vi s0), h)) ∧
  (∀ (l0 l1 l2 l5 : Option AV) (w : Int32) (h : Hp), run 3 1 103 [l0, l1, l2, none, some (vi w), l5] [] h = run 3 1 106 [l0, l1, l2, none, some (vi (w + (1 : Int32))), l5] [] h) ∧
  (∀ (l0 l1 l2 l5 : Option AV) (w1 : Int32) (w : Int32) (h : Hp), run 3 1 103 [l0, l1, l2, some (vi w1), some (vi w), l5] [] h = run 3 1 106 [l0, l1, l2, some (vi w1), some (vi (w + (1 : Int32))), l5] [] h) ∧
  (∀ (l0 l1 l2 l5 : Option AV) (w1 : Option Rf) (w : Int32) (h : Hp), run 3 1 103 [l0, l1, l2, some (vo w1), some (vi w), l5] [] h = run 3 1 106 [l0, l1, l2, some (vo w1), some (vi (w + (1 : Int32))), l5] [] h) ∧
  (∀ (l0 l1 l2 l3 l4 l5 : Option AV) (h : Hp), run 3 1 106 [l0, l1, l2, l3, l4, l5] [] h = run 3 1 58 [l0, l1, l2, l3, l4, l5] [] h) ∧
  (∀ (l0 l1 l2 l3 l4 l5 : Option AV) (h : Hp), run 3 1 109 [l0, l1, l2, l3, l4, l5] [] h = run 3 1 111 [l0, l1, l2, l3, l4, l5] [vi (-9 : Int32)] h) ∧
  (∀ (l0 l1 l2 l3 l4 l5 : Option AV) (s0 : Int32) (h : Hp), run 3 1 111 [l0, l1, l2, l3, l4, l5] [vi s0] h = some (some (vi s0), h)) := ⟨(fun _ _ _ _ _ _ _ => run_next rfl rfl),
  (fun _ _ _ _ _ s0 _ _ => run_next rfl rfl),
  (fun _ _ _ _ _ _ s0 _ _ => run_if rfl rfl (run_next rfl) (run_next rfl)),
  (fun _ _ _ _ _ _ _ => run_next rfl rfl),
  (fun _ _ _ _ _ _ s0 _ => run_ret rfl rfl),
  (fun _ _ _ _ _ _ _ => run_next rfl rfl),
  (fun _ _ _ _ _ s0 _ _ => run_next rfl rfl),
  (fun _ _ _ _ _ _ s0 _ _ _ => run_calx rfl rfl (Nat.le_of_ble_eq_true rfl) (Nat.le_of_ble_eq_true rfl) rfl),
  (fun _ _ _ _ _ _ s0 _ => run_if rfl rfl (run_next rfl) (run_next rfl)),
  (fun _ _ _ _ _ _ _ => run_next rfl rfl),
  (fun _ _ _ _ _ s0 _ _ => run_next rfl rfl),
  (fun _ _ _ _ _ _ s0 _ _ _ => run_calx rfl rfl (Nat.le_of_ble_eq_true rfl) (Nat.le_of_ble_eq_true rfl) rfl),
  (fun _ _ _ _ _ _ s0 _ => run_if rfl rfl (run_next rfl) (run_next rfl)),
  (fun _ _ _ _ _ _ _ => run_next rfl rfl),
  (fun _ _ _ _ _ _ s0 _ => run_ret rfl rfl),
  (fun _ _ _ _ _ _ _ => run_next rfl rfl),
  (fun _ _ _ _ _ s0 _ => run_next rfl rfl),
  (fun _ _ _ _ _ s0 _ _ => run_next rfl rfl),
  (fun _ _ _ _ _ s0 _ _ => run_next rfl rfl),
  (fun _ _ _ _ _ s0 _ _ => run_next rfl rfl),
  (fun _ _ _ _ _ _ _ _ _ _ => run_next rfl rfl),
  (fun _ _ _ _ _ _ s0 _ _ => run_if rfl rfl (run_next rfl) (run_next rfl)),
  (fun _ _ _ _ _ _ _ => run_next rfl rfl),
  (fun _ _ _ _ _ _ _ _ _ => run_next rfl rfl),
  (fun _ _ _ _ _ s0 _ _ => run_next rfl rfl),
  (fun _ _ _ _ _ _ s0 _ _ => run_next rfl rfl),
  (fun _ _ _ _ _ s0 _ _ _ _ => run_next rfl rfl),
  (fun _ _ _ _ _ _ s0 _ _ _ _ => run_next rfl rfl),
  (fun _ _ _ _ _ _ s0 _ _ _ _ => run_if rfl rfl (run_fail rfl) (run_next rfl)),
  (fun _ _ _ _ _ _ => run_next rfl rfl),
  (fun _ _ _ _ _ _ _ => run_next rfl rfl),
  (fun _ _ _ _ _ _ _ => run_next rfl rfl),
  (fun _ _ _ _ _ _ _ => run_next rfl rfl),
  (fun _ _ _ _ _ _ _ => run_next rfl rfl),
  (fun _ _ _ _ _ s0 _ => run_next rfl rfl),
  (fun _ _ _ _ _ s0 _ _ => run_next rfl rfl),
  (fun _ _ _ _ _ s0 _ _ => run_next rfl rfl),
  (fun _ _ _ _ _ _ s0 _ => run_next rfl rfl),
  (fun _ _ _ _ _ _ s0 _ _ => run_if rfl rfl (run_next rfl) (run_next rfl)),
  (fun _ _ _ _ _ _ _ => run_next rfl rfl),
  (fun _ _ _ _ _ s0 _ _ => run_next rfl rfl),
  (fun _ _ _ _ _ _ s0 _ _ _ => run_calx rfl rfl (Nat.le_of_ble_eq_true rfl) (Nat.le_of_ble_eq_true rfl) rfl),
  (fun _ _ _ _ _ _ _ => run_next rfl rfl),
  (fun _ _ _ _ _ s0 _ _ => run_next rfl rfl),
  (fun _ _ _ _ _ _ s0 _ _ _ => run_calx rfl rfl (Nat.le_of_ble_eq_true rfl) (Nat.le_of_ble_eq_true rfl) rfl),
  (fun _ _ _ _ _ s0 _ => run_next rfl rfl),
  (fun _ _ _ _ _ s0 _ _ => run_next rfl rfl),
  (fun _ _ _ _ _ s0 _ _ => run_next rfl rfl),
  (fun _ _ _ _ _ _ _ => run_next rfl rfl),
  (fun _ _ _ _ _ _ _ _ _ => run_next rfl rfl),
  (fun _ _ _ _ _ s0 _ _ => run_next rfl rfl),
  (fun _ _ _ _ _ _ s0 _ _ _ => run_if rfl rfl (run_fail rfl) (run_next rfl)),
  (fun _ _ _ _ _ s0 _ _ => run_next rfl rfl),
  (fun _ _ _ _ _ _ s0 _ _ => run_next rfl rfl),
  (fun _ _ _ _ _ _ s0 _ => run_next rfl rfl),
  (fun _ _ _ _ _ _ s0 _ _ => run_next rfl rfl),
  (fun _ _ _ _ _ _ s0 _ => run_next rfl rfl),
  (fun _ _ _ _ _ _ s0 _ _ => run_if rfl rfl (run_next rfl) (run_next rfl)),
  (fun _ _ _ _ _ _ _ => run_next rfl rfl),
  (fun _ _ _ _ _ _ s0 _ => run_ret rfl rfl),
  (fun _ _ _ _ _ _ _ => run_next rfl rfl),
  (fun _ _ _ _ _ _ s0 _ => run_if rfl rfl (run_next rfl) (run_next rfl)),
  (fun _ _ _ _ _ _ _ => run_next rfl rfl),
  (fun _ _ _ _ _ _ s0 _ => run_ret rfl rfl),
  (fun _ _ _ _ _ _ => run_next rfl rfl),
  (fun _ _ _ _ _ _ _ => run_next rfl rfl),
  (fun _ _ _ _ _ _ _ => run_next rfl rfl),
  (fun _ _ _ _ _ _ _ => run_next rfl rfl),
  (fun _ _ _ _ _ _ _ => run_next rfl rfl),
  (fun _ _ _ _ _ _ s0 _ => run_ret rfl rfl)⟩
set_option maxRecDepth 20000 in
theorem x_1_29 : (∀ (l0 l1 l2 l3 l5 : Option AV) (w : Int32) (h : Hp), run 3 1 29 [l0, l1, l2, l3, some (vi w), l5] [] h = run 3 1 31 [l0, l1, l2, l3, some (vi w), l5] [vi w] h) := (fun _ _ _ _ _ _ _ => run_next rfl rfl)
set_option maxRecDepth 20000 in
theorem x_1_58 : (∀ (l0 l1 l2 l3 l5 : Option AV) (w : Int32) (h : Hp), run 3 1 58 [l0, l1, l2, l3, some (vi w), l5] [] h = run 3 1 60 [l0, l1, l2, l3, some (vi w), l5] [vi w] h) := (fun _ _ _ _ _ _ _ => run_next rfl rfl)
theorem e_1 (v : Option Rf) (a0 : Option Rf) (a1 : Int32) (a2 : Int32) (h : Hp) : call 1 [vo v, vo a0, vi a1, vi a2] h = run 3 1 0 [some (vo v), some (vo a0), some (vi a1), some (vi a2), none, none] [] h := rfl
set_option maxRecDepth 20000 in
theorem x_2 : (∀ (l1 l2 l3 l4 l5 : Option AV) (w : Option Rf) (h : Hp), run 4 2 0 [some (vo w), l1, l2, l3, l4, l5] [] h = run 4 2 1 [some (vo w), l1, l2, l3, l4, l5] [vo w] h) ∧
  (∀ (l0 l2 l3 l4 l5 : Option AV) (s0 : Option Rf) (w : Option Rf) (h : Hp), run 4 2 1 [l0, some (vo w), l2, l3, l4, l5] [vo s0] h = run 4 2 2 [l0, some (vo w), l2, l3, l4, l5] [vo w, vo s0] h) ∧
  (∀ (l0 l1 l3 l4 l5 : Option AV) (s0 : Option Rf) (s1 : Option Rf) (w : Int32) (h : Hp), run 4 2 2 [l0, l1, some (vi w), l3, l4, l5] [vo s0, vo s1] h = run 4 2 3 [l0, l1, some (vi w), l3, l4, l5] [vi w, vo s0, vo s1] h) ∧
  (∀ (l0 l1 l2 l4 l5 : Option AV) (s0 : Int32) (s1 : Option Rf) (s2 : Option Rf) (w : Int32) (h : Hp), run 4 2 3 [l0, l1, l2, some (vi w), l4, l5] [vi s0, vo s1, vo s2] h = run 4 2 4 [l0, l1, l2, some (vi w), l4, l5] [vi w, vi s0, vo s1, vo s2] h) ∧
  (∀ (l0 l1 l2 l3 l4 l5 : Option AV) (s0 : Int32) (s1 : Int32) (s2 : Option Rf) (o z : Nat) (h : Hp), run 4 2 4 [l0, l1, l2, l3, l4, l5] [vi s0, vi s1, vo s2, vo (some (o, 0, z))] h = (call 1 [vo (some (o, 0, z)), vo s2, vi s1, vi s0] h).bind (fun z => run 4 2 7 [l0, l1, l2, l3, l4, l5] (z.1.toList ++ []) z.2)) ∧
  (∀ (l0 l1 l2 l3 l4 l5 : Option AV) (s0 : Int32) (h : Hp), run 4 2 7 [l0, l1, l2, l3, l4, l5] [vi s0] h = if 0 < s0 then run 4 2 13 [l0, l1, l2, l3, l4, l5] [] h else run 4 2 10 [l0, l1, l2, l3, l4, l5] [] h) ∧
  (∀ (l0 l1 l2 l3 l4 l5 : Option AV) (h : Hp), run 4 2 10 [l0, l1, l2, l3, l4, l5] [] h = run 4 2 12 [l0, l1, l2, l3, l4, l5] [vi (-9 : Int32)] h) ∧
  (∀ (l0 l1 l2 l3 l4 l5 : Option AV) (s0 : Int32) (h : Hp), run 4 2 12 [l0, l1, l2, l3, l4, l5] [vi s0] h = some (some (vi s0), h)) ∧
  (∀ (l0 l1 l2 l3 l4 l5 : Option AV) (h : Hp), run 4 2 13 [l0, l1, l2, l3, l4, l5] [] h = run 4 2 14 [l0, l1, l2, l3, l4, l5] [vi (0 : Int32)] h) ∧
  (∀ (l0 l1 l2 l4 l5 : Option AV) (s0 : Int32) (h : Hp), run 4 2 14 [l0, l1, l2, none, l4, l5] [vi s0] h = run 4 2 16 [l0, l1, l2, none, some (vi s0), l5] [] h) ∧
  (∀ (l0 l1 l2 l4 l5 : Option AV) (s0 : Int32) (w1 : Int32) (h : Hp), run 4 2 14 [l0, l1, l2, some (vi w1), l4, l5] [vi s0] h = run 4 2 16 [l0, l1, l2, some (vi w1), some (vi s0), l5] [] h) ∧
  (∀ (l0 l1 l2 l4 l5 : Option AV) (s0 : Int32) (w1 : Option Rf) (h : Hp), run 4 2 14 [l0, l1, l2, some (vo w1), l4, l5] [vi s0] h = run 4 2 16 [l0, l1, l2, some (vo w1), some (vi s0), l5] [] h) ∧
  (∀ (l0 l1 l2 l3 l4 l5 : Option AV) (s0 : Int32) (h : Hp), run 4 2 18 [l0, l1, l2, l3, l4, l5] [vi s0] h = run 4 2 19 [l0, l1, l2, l3, l4, l5] [vi (5 : Int32), vi s0] h) ∧
  (∀ (l0 l1 l2 l3 l4 l5 : Option AV) (s0 : Int32) (s1 : Int32) (h : Hp), run 4 2 19 [l0, l1, l2, l3, l4, l5] [vi s0, vi s1] h = if s0 ≤ s1 then run 4 2 62 [l0, l1, l2, l3, l4, l5] [] h else run 4 2 22 [l0, l1, l2, l3, l4, l5] [] h) ∧
  (∀ (l0 l2 l3 l4 l5 : Option AV) (w : Option Rf) (h : Hp), run 4 2 22 [l0, some (vo w), l2, l3, l4, l5] [] h = run 4 2 23 [l0, some (vo w), l2, l3, l4, l5] [vo w] h) ∧
  (∀ (l0 l1 l3 l4 l5 : Option AV) (s0 : Option Rf) (w : Int32) (h : Hp), run 4 2 23 [l0, l1, some (vi w), l3, l4, l5] [vo s0] h = run 4 2 24 [l0, l1, some (vi w), l3, l4, l5] [vi w, vo s0] h) ∧
  (∀ (l0 l1 l2 l3 l5 : Option AV) (s0 : Int32) (s1 : Option Rf) (w : Int32) (h : Hp), run 4 2 24 [l0, l1, l2, l3, some (vi w), l5] [vi s0, vo s1] h = run 4 2 26 [l0, l1, l2, l3, some (vi w), l5] [vi w, vi s0, vo s1] h) ∧
  (∀ (l0 l1 l2 l3 l4 l5 : Option AV) (s0 : Int32) (s1 : Int32) (o z : Nat) (h : Hp), run 4 2 26 [l0, l1, l2, l3, l4, l5] [vi s0, vi s1, vo (some (o, 5, z))] h = (call 506 [vo (some (o, 5, z)), vi s1, vi s0] h).bind (fun z => run 4 2 29 [l0, l1, l2, l3, l4, l5] (z.1.toList ++ []) z.2)) ∧
  (∀ (l0 l1 l2 l3 l5 : Option AV) (s0 : Int32) (h : Hp), run 4 2 29 [l0, l1, l2, l3, none, l5] [vi s0] h = run 4 2 31 [l0, l1, l2, l3, none, some (vi s0)] [] h) ∧
  (∀ (l0 l1 l2 l3 l5 : Option AV) (s0 : Int32) (w1 : Int32) (h : Hp), run 4 2 29 [l0, l1, l2, l3, some (vi w1), l5] [vi s0] h = run 4 2 31 [l0, l1, l2, l3, some (vi w1), some (vi s0)] [] h) ∧
  (∀ (l0 l1 l2 l3 l5 : Option AV) (s0 : Int32) (w1 : Option Rf) (h : Hp), run 4 2 29 [l0, l1, l2, l3, some (vo w1), l5] [vi s0] h = run 4 2 31 [l0, l1, l2, l3, some (vo w1), some (vi s0)] [] h) ∧
  (∀ (l0 l1 l2 l3 l4 : Option AV) (w : Int32) (h : Hp), run 4 2 31 [l0, l1, l2, l3, l4, some (vi w)] [] h = run 4 2 33 [l0, l1, l2, l3, l4, some (vi w)] [vi w] h) ∧
  (∀ (l0 l1 l2 l3 l4 l5 : Option AV) (s0 : Int32) (h : Hp), run 4 2 33 [l0, l1, l2, l3, l4, l5] [vi s0] h = run 4 2 35 [l0, l1, l2, l3, l4, l5] [vi (-9 : Int32), vi s0] h) ∧
  (∀ (l0 l1 l2 l3 l4 l5 : Option AV) (s0 : Int32) (s1 : Int32) (h : Hp), run 4 2 35 [l0, l1, l2, l3, l4, l5] [vi s0, vi s1] h = if s1 = s0 then run 4 2 56 [l0, l1, l2, l3, l4, l5] [] h else run 4 2 38 [l0, l1, l2, l3, l4, l5] [] h) ∧
  (∀ (l1 l2 l3 l4 l5 : Option AV) (w : Option Rf) (h : Hp), run 4 2 38 [some (vo w), l1, l2, l3, l4, l5] [] h = run 4 2 39 [some (vo w), l1, l2, l3, l4, l5] [vo w] h) ∧
  (∀ (l0 l1 l2 l3 l4 l5 : Option AV) (o z : Nat) (h : Hp), run 4 2 39 [l0, l1, l2, l3, l4, l5] [vo (some (o, 0, z))] h = run 4 2 42 [l0, l1, l2, l3, l4, l5] [vo (hR h o 1)] h) ∧
  (∀ (l0 l1 l2 l3 l4 : Option AV) (s0 : Option Rf) (w : Int32) (h : Hp), run 4 2 42 [l0, l1, l2, l3, l4, some (vi w)] [vo s0] h = run 4 2 44 [l0, l1, l2, l3, l4, some (vi w)] [vi w, vo s0] h) ∧
  (∀ (l0 l1 l2 l3 l4 l5 : Option AV) (s0 : Int32) (o z : Nat) (h : Hp), run 4 2 44 [l0, l1, l2, l3, l4, l5] [vi s0, vo (some (o, 13, z))] h = if s0 < 0 ∨ z ≤ s0.toNatClampNeg then none else run 4 2 45 [l0, l1, l2, l3, l4, l5] [vi (hI h o s0.toNatClampNeg)] h) ∧
  (∀ (l0 l1 l2 l4 l5 : Option AV) (s0 : Int32) (w : Int32) (h : Hp), run 4 2 45 [l0, l1, l2, some (vi w), l4, l5] [vi s0] h = run 4 2 46 [l0, l1, l2, some (vi w), l4, l5] [vi w, vi s0] h) ∧
  (∀ (l0 l1 l2 l3 l4 l5 : Option AV) (s0 : Int32) (s1 : Int32) (h : Hp), run 4 2 46 [l0, l1, l2, l3, l4, l5] [vi s0, vi s1] h = run 4 2 47 [l0, l1, l2, l3, l4, l5] [vi (s1.toUInt32 >>> (s0.toUInt32 &&& Int32.toUInt32 31)).toInt32] h) ∧
  (∀ (l0 l1 l2 l3 l4 l5 : Option AV) (s0 : Int32) (h : Hp), run 4 2 47 [l0, l1, l2, l3, l4, l5] [vi s0] h = run 4 2 48 [l0, l1, l2, l3, l4, l5] [vi (1 : Int32), vi s0] h) ∧
  (∀ (l0 l1 l2 l3 l4 l5 : Option AV) (s0 : Int32) (s1 : Int32) (h : Hp), run 4 2 48 [l0, l1, l2, l3, l4, l5] [vi s0, vi s1] h = run 4 2 49 [l0, l1, l2, l3, l4, l5] [vi (s1 &&& s0)] h) ∧
  (∀ (l0 l1 l2 l3 l4 l5 : Option AV) (s0 : Int32) (h : Hp), run 4 2 49 [l0, l1, l2, l3, l4, l5] [vi s0] h = run 4 2 50 [l0, l1, l2, l3, l4, l5] [vi (1 : Int32), vi s0] h) ∧
  (∀ (l0 l1 l2 l3 l4 l5 : Option AV) (s0 : Int32) (s1 : Int32) (h : Hp), run 4 2 50 [l0, l1, l2, l3, l4, l5] [vi s0, vi s1] h = if s1 = s0 then run 4 2 53 [l0, l1, l2, l3, l4, l5] [] h else run 4 2 56 [l0, l1, l2, l3, l4, l5] [] h) ∧
  (∀ (l0 l1 l2 l3 l5 : Option AV) (w : Int32) (h : Hp), run 4 2 53 [l0, l1, l2, l3, some (vi w), l5] [] h = run 4 2 55 [l0, l1, l2, l3, some (vi w), l5] [vi w] h) ∧
  (∀ (l0 l1 l2 l3 l4 l5 : Option AV) (s0 : Int32) (h : Hp), run 4 2 55 [l0, l1, l2, l3, l4, l5] [vi s0] h = some (some (vi s0), h)) ∧
  (∀ (l0 l1 l2 l5 : Option AV) (w : Int32) (h : Hp), run 4 2 56 [l0, l1, l2, none, some (vi w), l5] [] h = run 4 2 59 [l0, l1, l2, none, some (vi (w + (1 : Int32))), l5] [] h) ∧
  (∀ (l0 l1 l2 l5 : Option AV) (w1 : Int32) (w : Int32) (h : Hp), run 4 2 56 [l0, l1, l2, some (vi w1), some (vi w), l5] [] h = run 4 2 59 [l0, l1, l2, some (vi w1), some (vi (w + (1 : Int32))), l5] [] h) ∧
  (∀ (l0 l1 l2 l5 : Option AV) (w1 : Option Rf) (w : Int32) (h : Hp), run 4 2 56 [l0, l1, l2, some (vo w1), some (vi w), l5] [] h = run 4 2 59 [l0, l1, l2, some (vo w1), some (vi (w + (1 : Int32))), l5] [] h) ∧
  (∀ (l0 l1 l2 l3 l4 l5 : Option AV) (h : Hp), run 4 2 59 [l0, l1, l2, l3, l4, l5] [] h = run 4 2 16 [l0, l1, l2, l3, l4, l5] [] h) ∧
  (∀ (l0 l1 l2 l3 l4 l5 : Option AV) (h : Hp), run 4 2 62 [l0, l1, l2, l3, l4, l5] [] h = run 4 2 64 [l0, l1, l2, l3, l4, l5] [vi (-9 : Int32)] h) ∧
  (∀ (l0 l1 l2 l3 l4 l5 : Option AV) (s0 : Int32) (h : Hp), run 4 2 64 [l0, l1, l2, l3, l4, l5] [vi s0] h = some (some (vi s0), h)) := ⟨(fun _ _ _ _ _ _ _ => run_next rfl rfl),
  (fun _ _ _ _ _ s0 _ _ => run_next rfl rfl),
  (fun _ _ _ _ _ s0 _ _ _ => run_next rfl rfl),
  (fun _ _ _ _ _ s0 _ _ _ _ => run_next rfl rfl),
  (fun _ _ _ _ _ _ s0 _ _ _ _ _ => run_calx rfl rfl (Nat.le_of_ble_eq_true rfl) (Nat.le_of_ble_eq_true rfl) rfl),
  (fun _ _ _ _ _ _ s0 _ => run_if rfl rfl (run_next rfl) (run_next rfl)),
  (fun _ _ _ _ _ _ _ => run_next rfl rfl),
  (fun _ _ _ _ _ _ s0 _ => run_ret rfl rfl),
  (fun _ _ _ _ _ _ _ => run_next rfl rfl),
  (fun _ _ _ _ _ s0 _ => run_next rfl rfl),
  (fun _ _ _ _ _ s0 _ _ => run_next rfl rfl),
  (fun _ _ _ _ _ s0 _ _ => run_next rfl rfl),
  (fun _ _ _ _ _ _ s0 _ => run_next rfl rfl),
  (fun _ _ _ _ _ _ s0 _ _ => run_if rfl rfl (run_next rfl) (run_next rfl)),
  (fun _ _ _ _ _ _ _ => run_next rfl rfl),
  (fun _ _ _ _ _ s0 _ _ => run_next rfl rfl),
  (fun _ _ _ _ _ s0 _ _ _ => run_next rfl rfl),
  (fun _ _ _ _ _ _ s0 _ _ _ _ => run_calx rfl rfl (Nat.le_of_ble_eq_true rfl) (Nat.le_of_ble_eq_true rfl) rfl),
  (fun _ _ _ _ _ s0 _ => run_next rfl rfl),
  (fun _ _ _ _ _ s0 _ _ => run_next rfl rfl),
  (fun _ _ _ _ _ s0 _ _ => run_next rfl rfl),
  (fun _ _ _ _ _ _ _ => run_next rfl rfl),
  (fun _ _ _ _ _ _ s0 _ => run_next rfl rfl),
  (fun _ _ _ _ _ _ s0 _ _ => run_if rfl rfl (run_next rfl) (run_next rfl)),
  (fun _ _ _ _ _ _ _ => run_next rfl rfl),
  (fun _ _ _ _ _ _ _ _ _ => run_next rfl rfl),
  (fun _ _ _ _ _ s0 _ _ => run_next rfl rfl),
  (fun _ _ _ _ _ _ s0 _ _ _ => run_if rfl rfl (run_fail rfl) (run_next rfl)),
  (fun _ _ _ _ _ s0 _ _ => run_next rfl rfl),
  (fun _ _ _ _ _ _ s0 _ _ => run_next rfl rfl),
  (fun _ _ _ _ _ _ s0 _ => run_next rfl rfl),
  (fun _ _ _ _ _ _ s0 _ _ => run_next rfl rfl),
  (fun _ _ _ _ _ _ s0 _ => run_next rfl rfl),
  (fun _ _ _ _ _ _ s0 _ _ => run_if rfl rfl (run_next rfl) (run_next rfl)),
  (fun _ _ _ _ _ _ _ => run_next rfl rfl),
  (fun _ _ _ _ _ _ s0 _ => run_ret rfl rfl),
  (fun _ _ _ _ _ _ => run_next rfl rfl),
  (fun _ _ _ _ _ _ _ => run_next rfl rfl),
  (fun _ _ _ _ _ _ _ => run_next rfl rfl),
  (fun _ _ _ _ _ _ _ => run_next rfl rfl),
  (fun _ _ _ _ _ _ _ => run_next rfl rfl),
  (fun _ _ _ _ _ _ s0 _ => run_ret rfl rfl)⟩
set_option maxRecDepth 20000 in
theorem x_2_16 : (∀ (l0 l1 l2 l3 l5 : Option AV) (w : Int32) (h : Hp), run 4 2 16 [l0, l1, l2, l3, some (vi w), l5] [] h = run 4 2 18 [l0, l1, l2, l3, some (vi w), l5] [vi w] h) := (fun _ _ _ _ _ _ _ => run_next rfl rfl)
theorem e_2 (v : Option Rf) (a0 : Option Rf) (a1 : Int32) (a2 : Int32) (h : Hp) : call 2 [vo v, vo a0, vi a1, vi a2] h = run 4 2 0 [some (vo v), some (vo a0), some (vi a1), some (vi a2), none, none] [] h := rfl
set_option maxRecDepth 20000 in
theorem x_3 : (∀ (l0 l1 l2 l3 l4 : Option AV) (h : Hp), run 2 3 0 [l0, l1, l2, l3, l4] [] h = run 2 3 1 [l0, l1, l2, l3, l4] [vi (0 : Int32)] h) ∧
  (∀ (l0 l2 l3 l4 : Option AV) (s0 : Int32) (h : Hp), run 2 3 1 [l0, none, l2, l3, l4] [vi s0] h = run 2 3 2 [l0, none, some (vi s0), l3, l4] [] h) ∧
  (∀ (l0 l2 l3 l4 : Option AV) (s0 : Int32) (w1 : Int32) (h : Hp), run 2 3 1 [l0, some (vi w1), l2, l3, l4] [vi s0] h = run 2 3 2 [l0, some (vi w1), some (vi s0), l3, l4] [] h) ∧
  (∀ (l0 l2 l3 l4 : Option AV) (s0 : Int32) (w1 : Option Rf) (h : Hp), run 2 3 1 [l0, some (vo w1), l2, l3, l4] [vi s0] h = run 2 3 2 [l0, some (vo w1), some (vi s0), l3, l4] [] h) ∧
  (∀ (l0 l2 l3 l4 : Option AV) (s0 : Int32) (w : Option Rf) (h : Hp), run 2 3 3 [l0, some (vo w), l2, l3, l4] [vi s0] h = run 2 3 4 [l0, some (vo w), l2, l3, l4] [vo w, vi s0] h) ∧
  (∀ (l0 l1 l2 l3 l4 : Option AV) (s1 : Int32) (o z : Nat) (h : Hp), run 2 3 4 [l0, l1, l2, l3, l4] [vo (some (o, 5, z)), vi s1] h = run 2 3 7 [l0, l1, l2, l3, l4] [vi (hI h o 2), vi s1] h) ∧
  (∀ (l0 l1 l2 l3 l4 : Option AV) (s0 : Int32) (s1 : Int32) (h : Hp), run 2 3 7 [l0, l1, l2, l3, l4] [vi s0, vi s1] h = if s0 ≤ s1 then run 2 3 79 [l0, l1, l2, l3, l4] [] h else run 2 3 10 [l0, l1, l2, l3, l4] [] h) ∧
  (∀ (l0 l1 l2 l3 l4 : Option AV) (h : Hp), run 2 3 10 [l0, l1, l2, l3, l4] [] h = run 2 3 11 [l0, l1, l2, l3, l4] [vi (1 : Int32)] h) ∧
  (∀ (l0 l1 l3 l4 : Option AV) (s0 : Int32) (w : Int32) (h : Hp), run 2 3 11 [l0, l1, some (vi w), l3, l4] [vi s0] h = run 2 3 12 [l0, l1, some (vi w), l3, l4] [vi w, vi s0] h) ∧
  (∀ (l0 l1 l2 l3 l4 : Option AV) (s0 : Int32) (s1 : Int32) (h : Hp), run 2 3 12 [l0, l1, l2, l3, l4] [vi s0, vi s1] h = run 2 3 13 [l0, l1, l2, l3, l4] [vi (s1 <<< (s0 &&& 31))] h) ∧
  (∀ (l0 l1 l3 l4 : Option AV) (s0 : Int32) (h : Hp), run 2 3 13 [l0, l1, none, l3, l4] [vi s0] h = run 2 3 14 [l0, l1, none, some (vi s0), l4] [] h) ∧
  (∀ (l0 l1 l3 l4 : Option AV) (s0 : Int32) (w1 : Int32) (h : Hp), run 2 3 13 [l0, l1, some (vi w1), l3, l4] [vi s0] h = run 2 3 14 [l0, l1, some (vi w1), some (vi s0), l4] [] h) ∧
  (∀ (l0 l1 l3 l4 : Option AV) (s0 : Int32) (w1 : Option Rf) (h : Hp), run 2 3 13 [l0, l1, some (vo w1), l3, l4] [vi s0] h = run 2 3 14 [l0, l1, some (vo w1), some (vi s0), l4] [] h) ∧
  (∀ (l0 l1 l2 l3 l4 : Option AV) (h : Hp), run 2 3 14 [l0, l1, l2, l3, l4] [] h = run 2 3 15 [l0, l1, l2, l3, l4] [vi (0 : Int32)] h) ∧
  (∀ (l0 l1 l2 l4 : Option AV) (s0 : Int32) (h : Hp), run 2 3 15 [l0, l1, l2, none, l4] [vi s0] h = run 2 3 17 [l0, l1, l2, none, some (vi s0)] [] h) ∧
  (∀ (l0 l1 l2 l4 : Option AV) (s0 : Int32) (w1 : Int32) (h : Hp), run 2 3 15 [l0, l1, l2, some (vi w1), l4] [vi s0] h = run 2 3 17 [l0, l1, l2, some (vi w1), some (vi s0)] [] h) ∧
  (∀ (l0 l1 l2 l4 : Option AV) (s0 : Int32) (w1 : Option Rf) (h : Hp), run 2 3 15 [l0, l1, l2, some (vo w1), l4] [vi s0] h = run 2 3 17 [l0, l1, l2, some (vo w1), some (vi s0)] [] h) ∧
  (∀ (l0 l2 l3 l4 : Option AV) (s0 : Int32) (w : Option Rf) (h : Hp), run 2 3 19 [l0, some (vo w), l2, l3, l4] [vi s0] h = run 2 3 20 [l0, some (vo w), l2, l3, l4] [vo w, vi s0] h) ∧
  (∀ (l0 l1 l2 l3 l4 : Option AV) (s1 : Int32) (o z : Nat) (h : Hp), run 2 3 20 [l0, l1, l2, l3, l4] [vo (some (o, 5, z)), vi s1] h = run 2 3 23 [l0, l1, l2, l3, l4] [vi (hI h o 2), vi s1] h) ∧
  (∀ (l0 l1 l2 l3 l4 : Option AV) (s0 : Int32) (s1 : Int32) (h : Hp), run 2 3 23 [l0, l1, l2, l3, l4] [vi s0, vi s1] h = if s0 ≤ s1 then run 2 3 66 [l0, l1, l2, l3, l4] [] h else run 2 3 26 [l0, l1, l2, l3, l4] [] h) ∧
  (∀ (l0 l2 l3 l4 : Option AV) (w : Option Rf) (h : Hp), run 2 3 26 [l0, some (vo w), l2, l3, l4] [] h = run 2 3 27 [l0, some (vo w), l2, l3, l4] [vo w] h) ∧
  (∀ (l0 l1 l2 l3 : Option AV) (s0 : Option Rf) (w : Int32) (h : Hp), run 2 3 27 [l0, l1, l2, l3, some (vi w)] [vo s0] h = run 2 3 29 [l0, l1, l2, l3, some (vi w)] [vi w, vo s0] h) ∧
  (∀ (l0 l1 l2 l3 l4 : Option AV) (s0 : Int32) (o z : Nat) (h : Hp), run 2 3 29 [l0, l1, l2, l3, l4] [vi s0, vo (some (o, 5, z))] h = (call 504 [vo (some (o, 5, z)), vi s0] h).bind (fun z => run 2 3 32 [l0, l1, l2, l3, l4] (z.1.toList ++ []) z.2)) ∧
  (∀ (l0 l1 l2 l3 l4 : Option AV) (s0 : Int32) (h : Hp), run 2 3 32 [l0, l1, l2, l3, l4] [vi s0] h = if s0 = 0 then run 2 3 60 [l0, l1, l2, l3, l4] [] h else run 2 3 35 [l0, l1, l2, l3, l4] [] h) ∧
  (∀ (l0 l2 l3 l4 : Option AV) (w : Option Rf) (h : Hp), run 2 3 35 [l0, some (vo w), l2, l3, l4] [] h = run 2 3 36 [l0, some (vo w), l2, l3, l4] [vo w] h) ∧
  (∀ (l0 l1 l2 l3 : Option AV) (s0 : Option Rf) (w : Int32) (h : Hp), run 2 3 36 [l0, l1, l2, l3, some (vi w)] [vo s0] h = run 2 3 38 [l0, l1, l2, l3, some (vi w)] [vi w, vo s0] h) ∧
  (∀ (l0 l1 l2 l3 l4 : Option AV) (s0 : Int32) (o z : Nat) (h : Hp), run 2 3 38 [l0, l1, l2, l3, l4] [vi s0, vo (some (o, 5, z))] h = (call 507 [vo (some (o, 5, z)), vi s0] h).bind (fun z => run 2 3 41 [l0, l1, l2, l3, l4] (z.1.toList ++ []) z.2)) ∧
  (∀ (l1 l2 l3 l4 : Option AV) (s0 : Int32) (w : Option Rf) (h : Hp), run 2 3 41 [some (vo w), l1, l2, l3, l4] [vi s0] h = run 2 3 42 [some (vo w), l1, l2, l3, l4] [vo w, vi s0] h) ∧
  (∀ (l0 l1 l2 l3 l4 : Option AV) (s1 : Int32) (o z : Nat) (h : Hp), run 2 3 42 [l0, l1, l2, l3, l4] [vo (some (o, 0, z)), vi s1] h = run 2 3 45 [l0, l1, l2, l3, l4] [vo (hR h o 0), vi s1] h) ∧
  (∀ (l0 l1 l3 l4 : Option AV) (s0 : Option Rf) (s1 : Int32) (w : Int32) (h : Hp), run 2 3 45 [l0, l1, some (vi w), l3, l4] [vo s0, vi s1] h = run 2 3 46 [l0, l1, some (vi w), l3, l4] [vi w, vo s0, vi s1] h) ∧
  (∀ (l0 l1 l2 l3 l4 : Option AV) (s0 : Int32) (s2 : Int32) (o z : Nat) (h : Hp), run 2 3 46 [l0, l1, l2, l3, l4] [vi s0, vo (some (o, 13, z)), vi s2] h = if s0 < 0 ∨ z ≤ s0.toNatClampNeg then none else run 2 3 47 [l0, l1, l2, l3, l4] [vi (hI h o s0.toNatClampNeg), vi s2] h) ∧
  (∀ (l0 l1 l2 l3 l4 : Option AV) (s0 : Int32) (s1 : Int32) (h : Hp), run 2 3 47 [l0, l1, l2, l3, l4] [vi s0, vi s1] h = run 2 3 48 [l0, l1, l2, l3, l4] [vi (-1 : Int32), vi s0, vi s1] h) ∧
  (∀ (l0 l1 l2 l3 l4 : Option AV) (s0 : Int32) (s1 : Int32) (s2 : Int32) (h : Hp), run 2 3 48 [l0, l1, l2, l3, l4] [vi s0, vi s1, vi s2] h = run 2 3 49 [l0, l1, l2, l3, l4] [vi (s1 ^^^ s0), vi s2] h) ∧
  (∀ (l0 l1 l2 l3 l4 : Option AV) (s0 : Int32) (s1 : Int32) (h : Hp), run 2 3 49 [l0, l1, l2, l3, l4] [vi s0, vi s1] h = run 2 3 50 [l0, l1, l2, l3, l4] [vi (s1 &&& s0)] h) ∧
  (∀ (l0 l1 l2 l3 l4 : Option AV) (s0 : Int32) (h : Hp), run 2 3 50 [l0, l1, l2, l3, l4] [vi s0] h = if s0 = 0 then run 2 3 53 [l0, l1, l2, l3, l4] [] h else run 2 3 60 [l0, l1, l2, l3, l4] [] h) ∧
  (∀ (l0 l1 l2 l4 : Option AV) (w : Int32) (h : Hp), run 2 3 53 [l0, l1, l2, some (vi w), l4] [] h = run 2 3 54 [l0, l1, l2, some (vi w), l4] [vi w] h) ∧
  (∀ (l0 l1 l2 l3 l4 : Option AV) (s0 : Int32) (h : Hp), run 2 3 54 [l0, l1, l2, l3, l4] [vi s0] h = run 2 3 55 [l0, l1, l2, l3, l4] [vi (1 : Int32), vi s0] h) ∧
  (∀ (l0 l1 l2 l3 : Option AV) (s0 : Int32) (s1 : Int32) (w : Int32) (h : Hp), run 2 3 55 [l0, l1, l2, l3, some (vi w)] [vi s0, vi s1] h = run 2 3 57 [l0, l1, l2, l3, some (vi w)] [vi w, vi s0, vi s1] h) ∧
  (∀ (l0 l1 l2 l3 l4 : Option AV) (s0 : Int32) (s1 : Int32) (s2 : Int32) (h : Hp), run 2 3 57 [l0, l1, l2, l3, l4] [vi s0, vi s1, vi s2] h = run 2 3 58 [l0, l1, l2, l3, l4] [vi (s1 <<< (s0 &&& 31)), vi s2] h) ∧
  (∀ (l0 l1 l2 l3 l4 : Option AV) (s0 : Int32) (s1 : Int32) (h : Hp), run 2 3 58 [l0, l1, l2, l3, l4] [vi s0, vi s1] h = run 2 3 59 [l0, l1, l2, l3, l4] [vi (s1 ||| s0)] h) ∧
  (∀ (l0 l1 l3 l4 : Option AV) (s0 : Int32) (h : Hp), run 2 3 59 [l0, l1, none, l3, l4] [vi s0] h = run 2 3 60 [l0, l1, none, some (vi s0), l4] [] h) ∧
  (∀ (l0 l1 l3 l4 : Option AV) (s0 : Int32) (w1 : Int32) (h : Hp), run 2 3 59 [l0, l1, some (vi w1), l3, l4] [vi s0] h = run 2 3 60 [l0, l1, some (vi w1), some (vi s0), l4] [] h) ∧
  (∀ (l0 l1 l3 l4 : Option AV) (s0 : Int32) (w1 : Option Rf) (h : Hp), run 2 3 59 [l0, l1, some (vo w1), l3, l4] [vi s0] h = run 2 3 60 [l0, l1, some (vo w1), some (vi s0), l4] [] h) ∧
  (∀ (l0 l1 l2 : Option AV) (w : Int32) (h : Hp), run 2 3 60 [l0, l1, l2, none, some (vi w)] [] h = run 2 3 63 [l0, l1, l2, none, some (vi (w + (1 : Int32)))] [] h) ∧
  (∀ (l0 l1 l2 : Option AV) (w1 : Int32) (w : Int32) (h : Hp), run 2 3 60 [l0, l1, l2, some (vi w1), some (vi w)] [] h = run 2 3 63 [l0, l1, l2, some (vi w1), some (vi (w + (1 : Int32)))] [] h) ∧
  (∀ (l0 l1 l2 : Option AV) (w1 : Option Rf) (w : Int32) (h : Hp), run 2 3 60 [l0, l1, l2, some (vo w1), some (vi w)] [] h = run 2 3 63 [l0, l1, l2, some (vo w1), some (vi (w + (1 : Int32)))] [] h) ∧
  (∀ (l0 l1 l2 l3 l4 : Option AV) (h : Hp), run 2 3 63 [l0, l1, l2, l3, l4] [] h = run 2 3 17 [l0, l1, l2, l3, l4] [] h) ∧
  (∀ (l1 l2 l3 l4 : Option AV) (w : Option Rf) (h : Hp), run 2 3 66 [some (vo w), l1, l2, l3, l4] [] h = run 2 3 67 [some (vo w), l1, l2, l3, l4] [vo w] h) ∧
  (∀ (l0 l1 l2 l3 l4 : Option AV) (o z : Nat) (h : Hp), run 2 3 67 [l0, l1, l2, l3, l4] [vo (some (o, 0, z))] h = run 2 3 70 [l0, l1, l2, l3, l4] [vo (hR h o 1)] h) ∧
  (∀ (l0 l1 l3 l4 : Option AV) (s0 : Option Rf) (w : Int32) (h : Hp), run 2 3 70 [l0, l1, some (vi w), l3, l4] [vo s0] h = run 2 3 71 [l0, l1, some (vi w), l3, l4] [vi w, vo s0] h) ∧
  (∀ (l0 l1 l2 l4 : Option AV) (s0 : Int32) (s1 : Option Rf) (w : Int32) (h : Hp), run 2 3 71 [l0, l1, l2, some (vi w), l4] [vi s0, vo s1] h = run 2 3 72 [l0, l1, l2, some (vi w), l4] [vi w, vi s0, vo s1] h) ∧
  (∀ (l0 l1 l2 l3 l4 : Option AV) (s0 : Int32) (s1 : Int32) (o z : Nat) (h : Hp), run 2 3 72 [l0, l1, l2, l3, l4] [vi s0, vi s1, vo (some (o, 13, z))] h = if s1 < 0 ∨ z ≤ s1.toNatClampNeg then none else run 2 3 73 [l0, l1, l2, l3, l4] [] (hsI h o s1.toNatClampNeg s0)) ∧
  (∀ (l0 l3 l4 : Option AV) (w : Int32) (h : Hp), run 2 3 73 [l0, none, some (vi w), l3, l4] [] h = run 2 3 76 [l0, none, some (vi (w + (1 : Int32))), l3, l4] [] h) ∧
  (∀ (l0 l3 l4 : Option AV) (w1 : Int32) (w : Int32) (h : Hp), run 2 3 73 [l0, some (vi w1), some (vi w), l3, l4] [] h = run 2 3 76 [l0, some (vi w1), some (vi (w + (1 : Int32))), l3, l4] [] h) ∧
  (∀ (l0 l3 l4 : Option AV) (w1 : Option Rf) (w : Int32) (h : Hp), run 2 3 73 [l0, some (vo w1), some (vi w), l3, l4] [] h = run 2 3 76 [l0, some (vo w1), some (vi (w + (1 : Int32))), l3, l4] [] h) ∧
  (∀ (l0 l1 l2 l3 l4 : Option AV) (h : Hp), run 2 3 76 [l0, l1, l2, l3, l4] [] h = run 2 3 2 [l0, l1, l2, l3, l4] [] h) ∧
  (∀ (l0 l1 l2 l3 l4 : Option AV) (h : Hp), run 2 3 79 [l0, l1, l2, l3, l4] [] h = some (none, h)) := ⟨(fun _ _ _ _ _ _ => run_next rfl rfl),
  (fun _ _ _ _ s0 _ => run_next rfl rfl),
  (fun _ _ _ _ s0 _ _ => run_next rfl rfl),
  (fun _ _ _ _ s0 _ _ => run_next rfl rfl),
  (fun _ _ _ _ s0 _ _ => run_next rfl rfl),
  (fun _ _ _ _ _ _ _ _ _ => run_next rfl rfl),
  (fun _ _ _ _ _ s0 _ _ => run_if rfl rfl (run_next rfl) (run_next rfl)),
  (fun _ _ _ _ _ _ => run_next rfl rfl),
  (fun _ _ _ _ s0 _ _ => run_next rfl rfl),
  (fun _ _ _ _ _ s0 _ _ => run_next rfl rfl),
  (fun _ _ _ _ s0 _ => run_next rfl rfl),
  (fun _ _ _ _ s0 _ _ => run_next rfl rfl),
  (fun _ _ _ _ s0 _ _ => run_next rfl rfl),
  (fun _ _ _ _ _ _ => run_next rfl rfl),
  (fun _ _ _ _ s0 _ => run_next rfl rfl),
  (fun _ _ _ _ s0 _ _ => run_next rfl rfl),
  (fun _ _ _ _ s0 _ _ => run_next rfl rfl),
  (fun _ _ _ _ s0 _ _ => run_next rfl rfl),
  (fun _ _ _ _ _ _ _ _ _ => run_next rfl rfl),
  (fun _ _ _ _ _ s0 _ _ => run_if rfl rfl (run_next rfl) (run_next rfl)),
  (fun _ _ _ _ _ _ => run_next rfl rfl),
  (fun _ _ _ _ s0 _ _ => run_next rfl rfl),
  (fun _ _ _ _ _ s0 _ _ _ => run_calx rfl rfl (Nat.le_of_ble_eq_true rfl) (Nat.le_of_ble_eq_true rfl) rfl),
  (fun _ _ _ _ _ s0 _ => run_if rfl rfl (run_next rfl) (run_next rfl)),
  (fun _ _ _ _ _ _ => run_next rfl rfl),
  (fun _ _ _ _ s0 _ _ => run_next rfl rfl),
  (fun _ _ _ _ _ s0 _ _ _ => run_calx rfl rfl (Nat.le_of_ble_eq_true rfl) (Nat.le_of_ble_eq_true rfl) rfl),
  (fun _ _ _ _ s0 _ _ => run_next rfl rfl),
  (fun _ _ _ _ _ _ _ _ _ => run_next rfl rfl),
  (fun _ _ _ _ s0 _ _ _ => run_next rfl rfl),
  (fun _ _ _ _ _ s0 _ _ _ _ => run_if rfl rfl (run_fail rfl) (run_next rfl)),
  (fun _ _ _ _ _ s0 _ _ => run_next rfl rfl),
  (fun _ _ _ _ _ s0 _ _ _ => run_next rfl rfl),
  (fun _ _ _ _ _ s0 _ _ => run_next rfl rfl),
  (fun _ _ _ _ _ s0 _ => run_if rfl rfl (run_next rfl) (run_next rfl)),
  (fun _ _ _ _ _ _ => run_next rfl rfl),
  (fun _ _ _ _ _ s0 _ => run_next rfl rfl),
  (fun _ _ _ _ s0 _ _ _ => run_next rfl rfl),
  (fun _ _ _ _ _ s0 _ _ _ => run_next rfl rfl),
  (fun _ _ _ _ _ s0 _ _ => run_next rfl rfl),
  (fun _ _ _ _ s0 _ => run_next rfl rfl),
  (fun _ _ _ _ s0 _ _ => run_next rfl rfl),
  (fun _ _ _ _ s0 _ _ => run_next rfl rfl),
  (fun _ _ _ _ _ => run_next rfl rfl),
  (fun _ _ _ _ _ _ => run_next rfl rfl),
  (fun _ _ _ _ _ _ => run_next rfl rfl),
  (fun _ _ _ _ _ _ => run_next rfl rfl),
  (fun _ _ _ _ _ _ => run_next rfl rfl),
  (fun _ _ _ _ _ _ _ _ => run_next rfl rfl),
  (fun _ _ _ _ s0 _ _ => run_next rfl rfl),
  (fun _ _ _ _ s0 _ _ _ => run_next rfl rfl),
  (fun _ _ _ _ _ s0 _ _ _ _ => run_if rfl rfl (run_fail rfl) (run_next rfl)),
  (fun _ _ _ _ _ => run_next rfl rfl),
  (fun _ _ _ _ _ _ => run_next rfl rfl),
  (fun _ _ _ _ _ _ => run_next rfl rfl),
  (fun _ _ _ _ _ _ => run_next rfl rfl),
  (fun _ _ _ _ _ _ => run_ret rfl rfl)⟩
set_option maxRecDepth 20000 in
theorem x_3_2 : (∀ (l0 l1 l3 l4 : Option AV) (w : Int32) (h : Hp), run 2 3 2 [l0, l1, some (vi w), l3, l4] [] h = run 2 3 3 [l0, l1, some (vi w), l3, l4] [vi w] h) := (fun _ _ _ _ _ _ => run_next rfl rfl)
set_option maxRecDepth 20000 in
theorem x_3_17 : (∀ (l0 l1 l2 l3 : Option AV) (w : Int32) (h : Hp), run 2 3 17 [l0, l1, l2, l3, some (vi w)] [] h = run 2 3 19 [l0, l1, l2, l3, some (vi w)] [vi w] h) := (fun _ _ _ _ _ _ => run_next rfl rfl)
theorem e_3 (v : Option Rf) (a0 : Option Rf) (h : Hp) : call 3 [vo v, vo a0] h = run 2 3 0 [some (vo v), some (vo a0), none, none, none] [] h := rfl
set_option maxRecDepth 20000 in
theorem x_4 : (∀ (l0 l1 l2 l3 l4 l5 l6 : Option AV) (h : Hp), run 2 4 0 [l0, l1, l2, l3, l4, l5, l6] [] h = run 2 4 1 [l0, l1, l2, l3, l4, l5, l6] [vi (0 : Int32)] h) ∧
  (∀ (l0 l2 l3 l4 l5 l6 : Option AV) (s0 : Int32) (h : Hp), run 2 4 1 [l0, none, l2, l3, l4, l5, l6] [vi s0] h = run 2 4 2 [l0, none, some (vi s0), l3, l4, l5, l6] [] h) ∧
  (∀ (l0 l2 l3 l4 l5 l6 : Option AV) (s0 : Int32) (w1 : Int32) (h : Hp), run 2 4 1 [l0, some (vi w1), l2, l3, l4, l5, l6] [vi s0] h = run 2 4 2 [l0, some (vi w1), some (vi s0), l3, l4, l5, l6] [] h) ∧
  (∀ (l0 l2 l3 l4 l5 l6 : Option AV) (s0 : Int32) (w1 : Option Rf) (h : Hp), run 2 4 1 [l0, some (vo w1), l2, l3, l4, l5, l6] [vi s0] h = run 2 4 2 [l0, some (vo w1), some (vi s0), l3, l4, l5, l6] [] h) ∧
  (∀ (l0 l1 l2 l3 l4 l5 l6 : Option AV) (h : Hp), run 2 4 2 [l0, l1, l2, l3, l4, l5, l6] [] h = run 2 4 3 [l0, l1, l2, l3, l4, l5, l6] [vi (0 : Int32)] h) ∧
  (∀ (l0 l1 l3 l4 l5 l6 : Option AV) (s0 : Int32) (h : Hp), run 2 4 3 [l0, l1, none, l3, l4, l5, l6] [vi s0] h = run 2 4 4 [l0, l1, none, some (vi s0), l4, l5, l6] [] h) ∧
  (∀ (l0 l1 l3 l4 l5 l6 : Option AV) (s0 : Int32) (w1 : Int32) (h : Hp), run 2 4 3 [l0, l1, some (vi w1), l3, l4, l5, l6] [vi s0] h = run 2 4 4 [l0, l1, some (vi w1), some (vi s0), l4, l5, l6] [] h) ∧
  (∀ (l0 l1 l3 l4 l5 l6 : Option AV) (s0 : Int32) (w1 : Option Rf) (h : Hp), run 2 4 3 [l0, l1, some (vo w1), l3, l4, l5, l6] [vi s0] h = run 2 4 4 [l0, l1, some (vo w1), some (vi s0), l4, l5, l6] [] h) ∧
  (∀ (l0 l2 l3 l4 l5 l6 : Option AV) (s0 : Int32) (w : Option Rf) (h : Hp), run 2 4 5 [l0, some (vo w), l2, l3, l4, l5, l6] [vi s0] h = run 2 4 6 [l0, some (vo w), l2, l3, l4, l5, l6] [vo w, vi s0] h) ∧
  (∀ (l0 l1 l2 l3 l4 l5 l6 : Option AV) (s1 : Int32) (o z : Nat) (h : Hp), run 2 4 6 [l0, l1, l2, l3, l4, l5, l6] [vo (some (o, 5, z)), vi s1] h = run 2 4 9 [l0, l1, l2, l3, l4, l5, l6] [vi (hI h o 2), vi s1] h) ∧
  (∀ (l0 l1 l2 l3 l4 l5 l6 : Option AV) (s0 : Int32) (s1 : Int32) (h : Hp), run 2 4 9 [l0, l1, l2, l3, l4, l5, l6] [vi s0, vi s1] h = if s0 ≤ s1 then run 2 4 100 [l0, l1, l2, l3, l4, l5, l6] [] h else run 2 4 12 [l0, l1, l2, l3, l4, l5, l6] [] h) ∧
  (∀ (l1 l2 l3 l4 l5 l6 : Option AV) (w : Option Rf) (h : Hp), run 2 4 12 [some (vo w), l1, l2, l3, l4, l5, l6] [] h = run 2 4 13 [some (vo w), l1, l2, l3, l4, l5, l6] [vo w] h) ∧
  (∀ (l0 l1 l2 l3 l4 l5 l6 : Option AV) (o z : Nat) (h : Hp), run 2 4 13 [l0, l1, l2, l3, l4, l5, l6] [vo (some (o, 0, z))] h = run 2 4 16 [l0, l1, l2, l3, l4, l5, l6] [vo (hR h o 0)] h) ∧
  (∀ (l0 l1 l2 l4 l5 l6 : Option AV) (s0 : Option Rf) (w : Int32) (h : Hp), run 2 4 16 [l0, l1, l2, some (vi w), l4, l5, l6] [vo s0] h = run 2 4 17 [l0, l1, l2, some (vi w), l4, l5, l6] [vi w, vo s0] h) ∧
  (∀ (l0 l1 l2 l3 l4 l5 l6 : Option AV) (s0 : Int32) (o z : Nat) (h : Hp), run 2 4 17 [l0, l1, l2, l3, l4, l5, l6] [vi s0, vo (some (o, 13, z))] h = if s0 < 0 ∨ z ≤ s0.toNatClampNeg then none else run 2 4 18 [l0, l1, l2, l3, l4, l5, l6] [vi (hI h o s0.toNatClampNeg)] h) ∧
  (∀ (l0 l1 l2 l4 l5 l6 : Option AV) (s0 : Int32) (h : Hp), run 2 4 18 [l0, l1, l2, none, l4, l5, l6] [vi s0] h = run 2 4 20 [l0, l1, l2, none, some (vi s0), l5, l6] [] h) ∧
  (∀ (l0 l1 l2 l4 l5 l6 : Option AV) (s0 : Int32) (w1 : Int32) (h : Hp), run 2 4 18 [l0, l1, l2, some (vi w1), l4, l5, l6] [vi s0] h = run 2 4 20 [l0, l1, l2, some (vi w1), some (vi s0), l5, l6] [] h) ∧
  (∀ (l0 l1 l2 l4 l5 l6 : Option AV) (s0 : Int32) (w1 : Option Rf) (h : Hp), run 2 4 18 [l0, l1, l2, some (vo w1), l4, l5, l6] [vi s0] h = run 2 4 20 [l0, l1, l2, some (vo w1), some (vi s0), l5, l6] [] h) ∧
  (∀ (l0 l1 l2 l3 l4 l5 l6 : Option AV) (h : Hp), run 2 4 20 [l0, l1, l2, l3, l4, l5, l6] [] h = run 2 4 21 [l0, l1, l2, l3, l4, l5, l6] [vi (0 : Int32)] h) ∧
  (∀ (l0 l1 l2 l3 l5 l6 : Option AV) (s0 : Int32) (h : Hp), run 2 4 21 [l0, l1, l2, l3, none, l5, l6] [vi s0] h = run 2 4 23 [l0, l1, l2, l3, none, some (vi s0), l6] [] h) ∧
  (∀ (l0 l1 l2 l3 l5 l6 : Option AV) (s0 : Int32) (w1 : Int32) (h : Hp), run 2 4 21 [l0, l1, l2, l3, some (vi w1), l5, l6] [vi s0] h = run 2 4 23 [l0, l1, l2, l3, some (vi w1), some (vi s0), l6] [] h) ∧
  (∀ (l0 l1 l2 l3 l5 l6 : Option AV) (s0 : Int32) (w1 : Option Rf) (h : Hp), run 2 4 21 [l0, l1, l2, l3, some (vo w1), l5, l6] [vi s0] h = run 2 4 23 [l0, l1, l2, l3, some (vo w1), some (vi s0), l6] [] h) ∧
  (∀ (l0 l1 l2 l3 l4 l5 l6 : Option AV) (s0 : Int32) (h : Hp), run 2 4 25 [l0, l1, l2, l3, l4, l5, l6] [vi s0] h = run 2 4 26 [l0, l1, l2, l3, l4, l5, l6] [vi (5 : Int32), vi s0] h) ∧
  (∀ (l0 l1 l2 l3 l4 l5 l6 : Option AV) (s0 : Int32) (s1 : Int32) (h : Hp), run 2 4 26 [l0, l1, l2, l3, l4, l5, l6] [vi s0, vi s1] h = if s0 ≤ s1 then run 2 4 67 [l0, l1, l2, l3, l4, l5, l6] [] h else run 2 4 29 [l0, l1, l2, l3, l4, l5, l6] [] h) ∧
  (∀ (l0 l2 l3 l4 l5 l6 : Option AV) (w : Option Rf) (h : Hp), run 2 4 29 [l0, some (vo w), l2, l3, l4, l5, l6] [] h = run 2 4 30 [l0, some (vo w), l2, l3, l4, l5, l6] [vo w] h) ∧
  (∀ (l0 l1 l2 l4 l5 l6 : Option AV) (s0 : Option Rf) (w : Int32) (h : Hp), run 2 4 30 [l0, l1, l2, some (vi w), l4, l5, l6] [vo s0] h = run 2 4 31 [l0, l1, l2, some (vi w), l4, l5, l6] [vi w, vo s0] h) ∧
  (∀ (l0 l1 l2 l3 l4 l6 : Option AV) (s0 : Int32) (s1 : Option Rf) (w : Int32) (h : Hp), run 2 4 31 [l0, l1, l2, l3, l4, some (vi w), l6] [vi s0, vo s1] h = run 2 4 33 [l0, l1, l2, l3, l4, some (vi w), l6] [vi w, vi s0, vo s1] h) ∧
  (∀ (l0 l1 l2 l3 l4 l5 l6 : Option AV) (s0 : Int32) (s1 : Int32) (o z : Nat) (h : Hp), run 2 4 33 [l0, l1, l2, l3, l4, l5, l6] [vi s0, vi s1, vo (some (o, 5, z))] h = (call 506 [vo (some (o, 5, z)), vi s1, vi s0] h).bind (fun z => run 2 4 36 [l0, l1, l2, l3, l4, l5, l6] (z.1.toList ++ []) z.2)) ∧
  (∀ (l0 l1 l2 l3 l4 l6 : Option AV) (s0 : Int32) (h : Hp), run 2 4 36 [l0, l1, l2, l3, l4, none, l6] [vi s0] h = run 2 4 38 [l0, l1, l2, l3, l4, none, some (vi s0)] [] h) ∧
  (∀ (l0 l1 l2 l3 l4 l6 : Option AV) (s0 : Int32) (w1 : Int32) (h : Hp), run 2 4 36 [l0, l1, l2, l3, l4, some (vi w1), l6] [vi s0] h = run 2 4 38 [l0, l1, l2, l3, l4, some (vi w1), some (vi s0)] [] h) ∧
  (∀ (l0 l1 l2 l3 l4 l6 : Option AV) (s0 : Int32) (w1 : Option Rf) (h : Hp), run 2 4 36 [l0, l1, l2, l3, l4, some (vo w1), l6] [vi s0] h = run 2 4 38 [l0, l1, l2, l3, l4, some (vo w1), some (vi s0)] [] h) ∧
  (∀ (l0 l1 l2 l3 l5 l6 : Option AV) (w : Int32) (h : Hp), run 2 4 38 [l0, l1, l2, l3, some (vi w), l5, l6] [] h = run 2 4 40 [l0, l1, l2, l3, some (vi w), l5, l6] [vi w] h) ∧
  (∀ (l0 l1 l2 l3 l4 l5 : Option AV) (s0 : Int32) (w : Int32) (h : Hp), run 2 4 40 [l0, l1, l2, l3, l4, l5, some (vi w)] [vi s0] h = run 2 4 42 [l0, l1, l2, l3, l4, l5, some (vi w)] [vi w, vi s0] h) ∧
  (∀ (l0 l1 l2 l3 l4 l5 l6 : Option AV) (s0 : Int32) (s1 : Int32) (h : Hp), run 2 4 42 [l0, l1, l2, l3, l4, l5, l6] [vi s0, vi s1] h = run 2 4 44 [l0, l1, l2, l3, l4, l5, l6] [vi (-9 : Int32), vi s0, vi s1] h) ∧
  (∀ (l0 l1 l2 l3 l4 l5 l6 : Option AV) (s0 : Int32) (s1 : Int32) (s2 : Int32) (h : Hp), run 2 4 44 [l0, l1, l2, l3, l4, l5, l6] [vi s0, vi s1, vi s2] h = if s1 = s0 then run 2 4 47 [l0, l1, l2, l3, l4, l5, l6] [vi s2] h else run 2 4 51 [l0, l1, l2, l3, l4, l5, l6] [vi s2] h) ∧
  (∀ (l0 l1 l2 l3 l4 l5 l6 : Option AV) (s0 : Int32) (h : Hp), run 2 4 47 [l0, l1, l2, l3, l4, l5, l6] [vi s0] h = run 2 4 48 [l0, l1, l2, l3, l4, l5, l6] [vi (0 : Int32), vi s0] h) ∧
  (∀ (l0 l1 l2 l3 l4 l5 l6 : Option AV) (s0 : Int32) (s1 : Int32) (h : Hp), run 2 4 48 [l0, l1, l2, l3, l4, l5, l6] [vi s0, vi s1] h = run 2 4 58 [l0, l1, l2, l3, l4, l5, l6] [vi s0, vi s1] h) ∧
  (∀ (l1 l2 l3 l4 l5 l6 : Option AV) (s0 : Int32) (w : Option Rf) (h : Hp), run 2 4 51 [some (vo w), l1, l2, l3, l4, l5, l6] [vi s0] h = run 2 4 52 [some (vo w), l1, l2, l3, l4, l5, l6] [vo w, vi s0] h) ∧
  (∀ (l0 l1 l2 l3 l4 l5 l6 : Option AV) (s1 : Int32) (o z : Nat) (h : Hp), run 2 4 52 [l0, l1, l2, l3, l4, l5, l6] [vo (some (o, 0, z)), vi s1] h = run 2 4 55 [l0, l1, l2, l3, l4, l5, l6] [vo (hR h o 1), vi s1] h) ∧
  (∀ (l0 l1 l2 l3 l4 l5 : Option AV) (s0 : Option Rf) (s1 : Int32) (w : Int32) (h : Hp), run 2 4 55 [l0, l1, l2, l3, l4, l5, some (vi w)] [vo s0, vi s1] h = run 2 4 57 [l0, l1, l2, l3, l4, l5, some (vi w)] [vi w, vo s0, vi s1] h) ∧
  (∀ (l0 l1 l2 l3 l4 l5 l6 : Option AV) (s0 : Int32) (s2 : Int32) (o z : Nat) (h : Hp), run 2 4 57 [l0, l1, l2, l3, l4, l5, l6] [vi s0, vo (some (o, 13, z)), vi s2] h = if s0 < 0 ∨ z ≤ s0.toNatClampNeg then none else run 2 4 58 [l0, l1, l2, l3, l4, l5, l6] [vi (hI h o s0.toNatClampNeg), vi s2] h) ∧
  (∀ (l0 l1 l2 l3 l4 l5 l6 : Option AV) (s0 : Int32) (s1 : Int32) (h : Hp), run 2 4 58 [l0, l1, l2, l3, l4, l5, l6] [vi s0, vi s1] h = run 2 4 59 [l0, l1, l2, l3, l4, l5, l6] [vi (s1 ||| s0)] h) ∧
  (∀ (l0 l1 l2 l4 l5 l6 : Option AV) (s0 : Int32) (h : Hp), run 2 4 59 [l0, l1, l2, none, l4, l5, l6] [vi s0] h = run 2 4 61 [l0, l1, l2, none, some (vi s0), l5, l6] [] h) ∧
  (∀ (l0 l1 l2 l4 l5 l6 : Option AV) (s0 : Int32) (w1 : Int32) (h : Hp), run 2 4 59 [l0, l1, l2, some (vi w1), l4, l5, l6] [vi s0] h = run 2 4 61 [l0, l1, l2, some (vi w1), some (vi s0), l5, l6] [] h) ∧
  (∀ (l0 l1 l2 l4 l5 l6 : Option AV) (s0 : Int32) (w1 : Option Rf) (h : Hp), run 2 4 59 [l0, l1, l2, some (vo w1), l4, l5, l6] [vi s0] h = run 2 4 61 [l0, l1, l2, some (vo w1), some (vi s0), l5, l6] [] h) ∧
  (∀ (l0 l1 l2 l3 l6 : Option AV) (w : Int32) (h : Hp), run 2 4 61 [l0, l1, l2, l3, none, some (vi w), l6] [] h = run 2 4 64 [l0, l1, l2, l3, none, some (vi (w + (1 : Int32))), l6] [] h) ∧
  (∀ (l0 l1 l2 l3 l6 : Option AV) (w1 : Int32) (w : Int32) (h : Hp), run 2 4 61 [l0, l1, l2, l3, some (vi w1), some (vi w), l6] [] h = run 2 4 64 [l0, l1, l2, l3, some (vi w1), some (vi (w + (1 : Int32))), l6] [] h) ∧
  (∀ (l0 l1 l2 l3 l6 : Option AV) (w1 : Option Rf) (w : Int32) (h : Hp), run 2 4 61 [l0, l1, l2, l3, some (vo w1), some (vi w), l6] [] h = run 2 4 64 [l0, l1, l2, l3, some (vo w1), some (vi (w + (1 : Int32))), l6] [] h) ∧
  (∀ (l0 l1 l2 l3 l4 l5 l6 : Option AV) (h : Hp), run 2 4 64 [l0, l1, l2, l3, l4, l5, l6] [] h = run 2 4 23 [l0, l1, l2, l3, l4, l5, l6] [] h) ∧
  (∀ (l0 l1 l3 l4 l5 l6 : Option AV) (w : Int32) (h : Hp), run 2 4 67 [l0, l1, some (vi w), l3, l4, l5, l6] [] h = run 2 4 68 [l0, l1, some (vi w), l3, l4, l5, l6] [vi w] h) ∧
  (∀ (l0 l1 l2 l3 l5 l6 : Option AV) (s0 : Int32) (w : Int32) (h : Hp), run 2 4 68 [l0, l1, l2, l3, some (vi w), l5, l6] [vi s0] h = run 2 4 70 [l0, l1, l2, l3, some (vi w), l5, l6] [vi w, vi s0] h) ∧
  (∀ (l1 l2 l3 l4 l5 l6 : Option AV) (s0 : Int32) (s1 : Int32) (w : Option Rf) (h : Hp), run 2 4 70 [some (vo w), l1, l2, l3, l4, l5, l6] [vi s0, vi s1] h = run 2 4 71 [some (vo w), l1, l2, l3, l4, l5, l6] [vo w, vi s0, vi s1] h) ∧
  (∀ (l0 l1 l2 l3 l4 l5 l6 : Option AV) (s1 : Int32) (s2 : Int32) (o z : Nat) (h : Hp), run 2 4 71 [l0, l1, l2, l3, l4, l5, l6] [vo (some (o, 0, z)), vi s1, vi s2] h = run 2 4 74 [l0, l1, l2, l3, l4, l5, l6] [vo (hR h o 0), vi s1, vi s2] h) ∧
  (∀ (l0 l1 l2 l4 l5 l6 : Option AV) (s0 : Option Rf) (s1 : Int32) (s2 : Int32) (w : Int32) (h : Hp), run 2 4 74 [l0, l1, l2, some (vi w), l4, l5, l6] [vo s0, vi s1, vi s2] h = run 2 4 75 [l0, l1, l2, some (vi w), l4, l5, l6] [vi w, vo s0, vi s1, vi s2] h) ∧
  (∀ (l0 l1 l2 l3 l4 l5 l6 : Option AV) (s0 : Int32) (s2 : Int32) (s3 : Int32) (o z : Nat) (h : Hp), run 2 4 75 [l0, l1, l2, l3, l4, l5, l6] [vi s0, vo (some (o, 13, z)), vi s2, vi s3] h = if s0 < 0 ∨ z ≤ s0.toNatClampNeg then none else run 2 4 76 [l0, l1, l2, l3, l4, l5, l6] [vi (hI h o s0.toNatClampNeg), vi s2, vi s3] h) ∧
  (∀ (l0 l1 l2 l3 l4 l5 l6 : Option AV) (s0 : Int32) (s1 : Int32) (s2 : Int32) (h : Hp), run 2 4 76 [l0, l1, l2, l3, l4, l5, l6] [vi s0, vi s1, vi s2] h = if s1 = s0 then run 2 4 83 [l0, l1, l2, l3, l4, l5, l6] [vi s2] h else run 2 4 79 [l0, l1, l2, l3, l4, l5, l6] [vi s2] h) ∧
  (∀ (l0 l1 l2 l3 l4 l5 l6 : Option AV) (s0 : Int32) (h : Hp), run 2 4 79 [l0, l1, l2, l3, l4, l5, l6] [vi s0] h = run 2 4 80 [l0, l1, l2, l3, l4, l5, l6] [vi (1 : Int32), vi s0] h) ∧
  (∀ (l0 l1 l2 l3 l4 l5 l6 : Option AV) (s0 : Int32) (s1 : Int32) (h : Hp), run 2 4 80 [l0, l1, l2, l3, l4, l5, l6] [vi s0, vi s1] h = run 2 4 84 [l0, l1, l2, l3, l4, l5, l6] [vi s0, vi s1] h) ∧
  (∀ (l0 l1 l2 l3 l4 l5 l6 : Option AV) (s0 : Int32) (h : Hp), run 2 4 83 [l0, l1, l2, l3, l4, l5, l6] [vi s0] h = run 2 4 84 [l0, l1, l2, l3, l4, l5, l6] [vi (0 : Int32), vi s0] h) ∧
  (∀ (l0 l1 l2 l3 l4 l5 l6 : Option AV) (s0 : Int32) (s1 : Int32) (h : Hp), run 2 4 84 [l0, l1, l2, l3, l4, l5, l6] [vi s0, vi s1] h = run 2 4 85 [l0, l1, l2, l3, l4, l5, l6] [vi (s1 ||| s0)] h) ∧
  (∀ (l0 l2 l3 l4 l5 l6 : Option AV) (s0 : Int32) (h : Hp), run 2 4 85 [l0, none, l2, l3, l4, l5, l6] [vi s0] h = run 2 4 86 [l0, none, some (vi s0), l3, l4, l5, l6] [] h) ∧
  (∀ (l0 l2 l3 l4 l5 l6 : Option AV) (s0 : Int32) (w1 : Int32) (h : Hp), run 2 4 85 [l0, some (vi w1), l2, l3, l4, l5, l6] [vi s0] h = run 2 4 86 [l0, some (vi w1), some (vi s0), l3, l4, l5, l6] [] h) ∧
  (∀ (l0 l2 l3 l4 l5 l6 : Option AV) (s0 : Int32) (w1 : Option Rf) (h : Hp), run 2 4 85 [l0, some (vo w1), l2, l3, l4, l5, l6] [vi s0] h = run 2 4 86 [l0, some (vo w1), some (vi s0), l3, l4, l5, l6] [] h) ∧
  (∀ (l1 l2 l3 l4 l5 l6 : Option AV) (w : Option Rf) (h : Hp), run 2 4 86 [some (vo w), l1, l2, l3, l4, l5, l6] [] h = run 2 4 87 [some (vo w), l1, l2, l3, l4, l5, l6] [vo w] h) ∧
  (∀ (l0 l1 l2 l3 l4 l5 l6 : Option AV) (o z : Nat) (h : Hp), run 2 4 87 [l0, l1, l2, l3, l4, l5, l6] [vo (some (o, 0, z))] h = run 2 4 90 [l0, l1, l2, l3, l4, l5, l6] [vo (hR h o 0)] h) ∧
  (∀ (l0 l1 l2 l4 l5 l6 : Option AV) (s0 : Option Rf) (w : Int32) (h : Hp), run 2 4 90 [l0, l1, l2, some (vi w), l4, l5, l6] [vo s0] h = run 2 4 91 [l0, l1, l2, some (vi w), l4, l5, l6] [vi w, vo s0] h) ∧
  (∀ (l0 l1 l2 l3 l5 l6 : Option AV) (s0 : Int32) (s1 : Option Rf) (w : Int32) (h : Hp), run 2 4 91 [l0, l1, l2, l3, some (vi w), l5, l6] [vi s0, vo s1] h = run 2 4 93 [l0, l1, l2, l3, some (vi w), l5, l6] [vi w, vi s0, vo s1] h) ∧
  (∀ (l0 l1 l2 l3 l4 l5 l6 : Option AV) (s0 : Int32) (s1 : Int32) (o z : Nat) (h : Hp), run 2 4 93 [l0, l1, l2, l3, l4, l5, l6] [vi s0, vi s1, vo (some (o, 13, z))] h = if s1 < 0 ∨ z ≤ s1.toNatClampNeg then none else run 2 4 94 [l0, l1, l2, l3, l4, l5, l6] [] (hsI h o s1.toNatClampNeg s0)) ∧
  (∀ (l0 l1 l4 l5 l6 : Option AV) (w : Int32) (h : Hp), run 2 4 94 [l0, l1, none, some (vi w), l4, l5, l6] [] h = run 2 4 97 [l0, l1, none, some (vi (w + (1 : Int32))), l4, l5, l6] [] h) ∧
  (∀ (l0 l1 l4 l5 l6 : Option AV) (w1 : Int32) (w : Int32) (h : Hp), run 2 4 94 [l0, l1, some (vi w1), some (vi w), l4, l5, l6] [] h = run 2 4 97 [l0, l1, some (vi w1), some (vi (w + (1 : Int32))), l4, l5, l6] [] h) ∧
  (∀ (l0 l1 l4 l5 l6 : Option AV) (w1 : Option Rf) (w : Int32) (h : Hp), run 2 4 94 [l0, l1, some (vo w1), some (vi w), l4, l5, l6] [] h = run 2 4 97 [l0, l1, some (vo w1), some (vi (w + (1 : Int32))), l4, l5, l6] [] h) ∧
  (∀ (l0 l1 l2 l3 l4 l5 l6 : Option AV) (h : Hp), run 2 4 97 [l0, l1, l2, l3, l4, l5, l6] [] h = run 2 4 4 [l0, l1, l2, l3, l4, l5, l6] [] h) ∧
  (∀ (l0 l1 l3 l4 l5 l6 : Option AV) (w : Int32) (h : Hp), run 2 4 100 [l0, l1, some (vi w), l3, l4, l5, l6] [] h = run 2 4 101 [l0, l1, some (vi w), l3, l4, l5, l6] [vi w] h) ∧
  (∀ (l0 l1 l2 l3 l4 l5 l6 : Option AV) (s0 : Int32) (h : Hp), run 2 4 101 [l0, l1, l2, l3, l4, l5, l6] [vi s0] h = if am_isd s0 = true then some (some (vi s0), h) else none) := ⟨(fun _ _ _ _ _ _ _ _ => run_next rfl rfl),
  (fun _ _ _ _ _ _ s0 _ => run_next rfl rfl),
  (fun _ _ _ _ _ _ s0 _ _ => run_next rfl rfl),
  (fun _ _ _ _ _ _ s0 _ _ => run_next rfl rfl),
  (fun _ _ _ _ _ _ _ _ => run_next rfl rfl),
  (fun _ _ _ _ _ _ s0 _ => run_next rfl rfl),
  (fun _ _ _ _ _ _ s0 _ _ => run_next rfl rfl),
  (fun _ _ _ _ _ _ s0 _ _ => run_next rfl rfl),
  (fun _ _ _ _ _ _ s0 _ _ => run_next rfl rfl),
  (fun _ _ _ _ _ _ _ _ _ _ _ => run_next rfl rfl),
  (fun _ _ _ _ _ _ _ s0 _ _ => run_if rfl rfl (run_next rfl) (run_next rfl)),
  (fun _ _ _ _ _ _ _ _ => run_next rfl rfl),
  (fun _ _ _ _ _ _ _ _ _ _ => run_next rfl rfl),
  (fun _ _ _ _ _ _ s0 _ _ => run_next rfl rfl),
  (fun _ _ _ _ _ _ _ s0 _ _ _ => run_if rfl rfl (run_fail rfl) (run_next rfl)),
  (fun _ _ _ _ _ _ s0 _ => run_next rfl rfl),
  (fun _ _ _ _ _ _ s0 _ _ => run_next rfl rfl),
  (fun _ _ _ _ _ _ s0 _ _ => run_next rfl rfl),
  (fun _ _ _ _ _ _ _ _ => run_next rfl rfl),
  (fun _ _ _ _ _ _ s0 _ => run_next rfl rfl),
  (fun _ _ _ _ _ _ s0 _ _ => run_next rfl rfl),
  (fun _ _ _ _ _ _ s0 _ _ => run_next rfl rfl),
  (fun _ _ _ _ _ _ _ s0 _ => run_next rfl rfl),
  (fun _ _ _ _ _ _ _ s0 _ _ => run_if rfl rfl (run_next rfl) (run_next rfl)),
  (fun _ _ _ _ _ _ _ _ => run_next rfl rfl),
  (fun _ _ _ _ _ _ s0 _ _ => run_next rfl rfl),
  (fun _ _ _ _ _ _ s0 _ _ _ => run_next rfl rfl),
  (fun _ _ _ _ _ _ _ s0 _ _ _ _ => run_calx rfl rfl (Nat.le_of_ble_eq_true rfl) (Nat.le_of_ble_eq_true rfl) rfl),
  (fun _ _ _ _ _ _ s0 _ => run_next rfl rfl),
  (fun _ _ _ _ _ _ s0 _ _ => run_next rfl rfl),
  (fun _ _ _ _ _ _ s0 _ _ => run_next rfl rfl),
  (fun _ _ _ _ _ _ _ _ => run_next rfl rfl),
  (fun _ _ _ _ _ _ s0 _ _ => run_next rfl rfl),
  (fun _ _ _ _ _ _ _ s0 _ _ => run_next rfl rfl),
  (fun _ _ _ _ _ _ _ s0 _ _ _ => run_if rfl rfl (run_next rfl) (run_next rfl)),
  (fun _ _ _ _ _ _ _ s0 _ => run_next rfl rfl),
  (fun _ _ _ _ _ _ _ s0 _ _ => run_next rfl rfl),
  (fun _ _ _ _ _ _ s0 _ _ => run_next rfl rfl),
  (fun _ _ _ _ _ _ _ _ _ _ _ => run_next rfl rfl),
  (fun _ _ _ _ _ _ s0 _ _ _ => run_next rfl rfl),
  (fun _ _ _ _ _ _ _ s0 _ _ _ _ => run_if rfl rfl (run_fail rfl) (run_next rfl)),
  (fun _ _ _ _ _ _ _ s0 _ _ => run_next rfl rfl),
  (fun _ _ _ _ _ _ s0 _ => run_next rfl rfl),
  (fun _ _ _ _ _ _ s0 _ _ => run_next rfl rfl),
  (fun _ _ _ _ _ _ s0 _ _ => run_next rfl rfl),
  (fun _ _ _ _ _ _ _ => run_next rfl rfl),
  (fun _ _ _ _ _ _ _ _ => run_next rfl rfl),
  (fun _ _ _ _ _ _ _ _ => run_next rfl rfl),
  (fun _ _ _ _ _ _ _ _ => run_next rfl rfl),
  (fun _ _ _ _ _ _ _ _ => run_next rfl rfl),
  (fun _ _ _ _ _ _ s0 _ _ => run_next rfl rfl),
  (fun _ _ _ _ _ _ s0 _ _ _ => run_next rfl rfl),
  (fun _ _ _ _ _ _ _ _ _ _ _ _ => run_next rfl rfl),
  (fun _ _ _ _ _ _ s0 _ _ _ _ => run_next rfl rfl),
  (fun _ _ _ _ _ _ _ s0 _ _ _ _ _ => run_if rfl rfl (run_fail rfl) (run_next rfl)),
  (fun _ _ _ _ _ _ _ s0 _ _ _ => run_if rfl rfl (run_next rfl) (run_next rfl)),
  (fun _ _ _ _ _ _ _ s0 _ => run_next rfl rfl),
  (fun _ _ _ _ _ _ _ s0 _ _ => run_next rfl rfl),
  (fun _ _ _ _ _ _ _ s0 _ => run_next rfl rfl),
  (fun _ _ _ _ _ _ _ s0 _ _ => run_next rfl rfl),
  (fun _ _ _ _ _ _ s0 _ => run_next rfl rfl),
  (fun _ _ _ _ _ _ s0 _ _ => run_next rfl rfl),
  (fun _ _ _ _ _ _ s0 _ _ => run_next rfl rfl),
  (fun _ _ _ _ _ _ _ _ => run_next rfl rfl),
  (fun _ _ _ _ _ _ _ _ _ _ => run_next rfl rfl),
  (fun _ _ _ _ _ _ s0 _ _ => run_next rfl rfl),
  (fun _ _ _ _ _ _ s0 _ _ _ => run_next rfl rfl),
  (fun _ _ _ _ _ _ _ s0 _ _ _ _ => run_if rfl rfl (run_fail rfl) (run_next rfl)),
  (fun _ _ _ _ _ _ _ => run_next rfl rfl),
  (fun _ _ _ _ _ _ _ _ => run_next rfl rfl),
  (fun _ _ _ _ _ _ _ _ => run_next rfl rfl),
  (fun _ _ _ _ _ _ _ _ => run_next rfl rfl),
  (fun _ _ _ _ _ _ _ _ => run_next rfl rfl),
  (fun _ _ _ _ _ _ _ s0 _ => run_ifz rfl rfl (by simp) (run_ret rfl) (run_fail rfl))⟩
set_option maxRecDepth 20000 in
theorem x_4_4 : (∀ (l0 l1 l2 l4 l5 l6 : Option AV) (w : Int32) (h : Hp), run 2 4 4 [l0, l1, l2, some (vi w), l4, l5, l6] [] h = run 2 4 5 [l0, l1, l2, some (vi w), l4, l5, l6] [vi w] h) := (fun _ _ _ _ _ _ _ _ => run_next rfl rfl)
set_option maxRecDepth 20000 in
theorem x_4_23 : (∀ (l0 l1 l2 l3 l4 l6 : Option AV) (w : Int32) (h : Hp), run 2 4 23 [l0, l1, l2, l3, l4, some (vi w), l6] [] h = run 2 4 25 [l0, l1, l2, l3, l4, some (vi w), l6] [vi w] h) := (fun _ _ _ _ _ _ _ _ => run_next rfl rfl)
theorem e_4 (v : Option Rf) (a0 : Option Rf) (h : Hp) : call 4 [vo v, vo a0] h = run 2 4 0 [some (vo v), some (vo a0), none, none, none, none, none] [] h := rfl
set_option maxRecDepth 20000 in
theorem x_100 : (∀ (l1 l2 : Option AV) (w : Option Rf) (h : Hp), run 2 100 0 [some (vo w), l1, l2] [] h = run 2 100 1 [some (vo w), l1, l2] [vo w] h) ∧
  (∀ (l0 l2 : Option AV) (s0 : Option Rf) (w : Int32) (h : Hp), run 2 100 1 [l0, some (vi w), l2] [vo s0] h = run 2 100 2 [l0, some (vi w), l2] [vi w, vo s0] h) ∧
  (∀ (l0 l1 : Option AV) (s0 : Int32) (s1 : Option Rf) (w : Option Rf) (h : Hp), run 2 100 2 [l0, l1, some (vo w)] [vi s0, vo s1] h = run 2 100 3 [l0, l1, some (vo w)] [vo w, vi s0, vo s1] h) ∧
  (∀ (l0 l1 l2 : Option AV) (s0 : Option Rf) (s1 : Int32) (o z : Nat) (h : Hp), run 2 100 3 [l0, l1, l2] [vo s0, vi s1, vo (some (o, 3, z))] h = (call 300 [vo (some (o, 3, z)), vi s1, vo s0] h).bind (fun z => run 2 100 6 [l0, l1, l2] (z.1.toList ++ []) z.2)) ∧
  (∀ (l0 l1 l2 : Option AV) (s0 : Option Rf) (s1 : Int32) (o z : Nat) (h : Hp), run 2 100 3 [l0, l1, l2] [vo s0, vi s1, vo (some (o, 1, z))] h = (call 300 [vo (some (o, 1, z)), vi s1, vo s0] h).bind (fun z => run 2 100 6 [l0, l1, l2] (z.1.toList ++ []) z.2)) ∧
  (∀ (l0 l1 l2 : Option AV) (s0 : Option Rf) (s1 : Int32) (o z : Nat) (h : Hp), run 2 100 3 [l0, l1, l2] [vo s0, vi s1, vo (some (o, 6, z))] h = (call 300 [vo (some (o, 6, z)), vi s1, vo s0] h).bind (fun z => run 2 100 6 [l0, l1, l2] (z.1.toList ++ []) z.2)) ∧
  (∀ (l0 l1 l2 : Option AV) (h : Hp), run 2 100 6 [l0, l1, l2] [] h = some (none, h)) := ⟨(fun _ _ _ _ => run_next rfl rfl),
  (fun _ _ s0 _ _ => run_next rfl rfl),
  (fun _ _ s0 _ _ _ => run_next rfl rfl),
  (fun _ _ _ s0 _ _ _ _ => run_calx rfl rfl (Nat.le_of_ble_eq_true rfl) (Nat.le_of_ble_eq_true rfl) rfl),
  (fun _ _ _ s0 _ _ _ _ => run_calx rfl rfl (Nat.le_of_ble_eq_true rfl) (Nat.le_of_ble_eq_true rfl) rfl),
  (fun _ _ _ s0 _ _ _ _ => run_calx rfl rfl (Nat.le_of_ble_eq_true rfl) (Nat.le_of_ble_eq_true rfl) rfl),
  (fun _ _ _ _ => run_ret rfl rfl)⟩
theorem e_100 (v : Option Rf) (a0 : Int32) (a1 : Option Rf) (h : Hp) : call 100 [vo v, vi a0, vo a1] h = run 2 100 0 [some (vo v), some (vi a0), some (vo a1)] [] h := rfl
set_option maxRecDepth 20000 in
theorem x_101 : (∀ (l0 : Option AV) (h : Hp), run 0 101 0 [l0] [] h = run 0 101 1 [l0] [vi (3 : Int32)] h) ∧
  (∀ (l0 : Option AV) (s0 : Int32) (h : Hp), run 0 101 1 [l0] [vi s0] h = some (some (vi s0), h)) := ⟨(fun _ _ => run_next rfl rfl),
  (fun _ s0 _ => run_ret rfl rfl)⟩
theorem e_101 (v : Option Rf) (h : Hp) : call 101 [vo v] h = run 0 101 0 [some (vo v)] [] h := rfl
set_option maxRecDepth 20000 in
theorem x_102 : (∀ (l0 l2 l3 : Option AV) (w : Option Rf) (h : Hp), run 2 102 0 [l0, some (vo w), l2, l3] [] h = run 2 102 1 [l0, some (vo w), l2, l3] [vo w] h) ∧
  (∀ (l0 l1 l3 : Option AV) (s0 : Option Rf) (w : Int32) (h : Hp), run 2 102 1 [l0, l1, some (vi w), l3] [vo s0] h = run 2 102 2 [l0, l1, some (vi w), l3] [vi w, vo s0] h) ∧
  (∀ (l0 l1 l2 : Option AV) (s0 : Int32) (s1 : Option Rf) (w : Int32) (h : Hp), run 2 102 2 [l0, l1, l2, some (vi w)] [vi s0, vo s1] h = run 2 102 3 [l0, l1, l2, some (vi w)] [vi w, vi s0, vo s1] h) ∧
  (∀ (l0 l1 l2 l3 : Option AV) (s0 : Int32) (s1 : Int32) (s2 : Option Rf) (h : Hp), run 2 102 3 [l0, l1, l2, l3] [vi s0, vi s1, vo s2] h = run 2 102 4 [l0, l1, l2, l3] [vi (1 : Int32), vi s0, vi s1, vo s2] h) ∧
  (∀ (l0 l1 l2 l3 : Option AV) (s0 : Int32) (s1 : Int32) (s2 : Int32) (s3 : Option Rf) (h : Hp), run 2 102 4 [l0, l1, l2, l3] [vi s0, vi s1, vi s2, vo s3] h = run 2 102 5 [l0, l1, l2, l3] [vi (s1 - s0), vi s2, vo s3] h) ∧
  (∀ (l0 l1 l2 l3 : Option AV) (s0 : Int32) (s1 : Int32) (o z : Nat) (h : Hp), run 2 102 5 [l0, l1, l2, l3] [vi s0, vi s1, vo (some (o, 10, z))] h = (call 1007 [vo (some (o, 10, z)), vi s1, vi s0] h).bind (fun z => run 2 102 8 [l0, l1, l2, l3] (z.1.toList ++ []) z.2)) ∧
  (∀ (l0 l1 l2 l3 : Option AV) (s0 : Int32) (h : Hp), run 2 102 8 [l0, l1, l2, l3] [vi s0] h = some (some (vi s0), h)) := ⟨(fun _ _ _ _ _ => run_next rfl rfl),
  (fun _ _ _ s0 _ _ => run_next rfl rfl),
  (fun _ _ _ s0 _ _ _ => run_next rfl rfl),
  (fun _ _ _ _ s0 _ _ _ => run_next rfl rfl),
  (fun _ _ _ _ s0 _ _ _ _ => run_next rfl rfl),
  (fun _ _ _ _ s0 _ _ _ _ => run_calx rfl rfl (Nat.le_of_ble_eq_true rfl) (Nat.le_of_ble_eq_true rfl) rfl),
  (fun _ _ _ _ s0 _ => run_ret rfl rfl)⟩
theorem e_102 (v : Option Rf) (a0 : Option Rf) (a1 : Int32) (a2 : Int32) (h : Hp) : call 102 [vo v, vo a0, vi a1, vi a2] h = run 2 102 0 [some (vo v), some (vo a0), some (vi a1), some (vi a2)] [] h := rfl
set_option maxRecDepth 20000 in
theorem x_200 : (∀ (l1 l2 : Option AV) (w : Option Rf) (h : Hp), run 1 200 0 [some (vo w), l1, l2] [] h = run 1 200 1 [some (vo w), l1, l2] [vo w] h) ∧
  (∀ (l0 l2 : Option AV) (s0 : Option Rf) (w : Int32) (h : Hp), run 1 200 1 [l0, some (vi w), l2] [vo s0] h = run 1 200 2 [l0, some (vi w), l2] [vi w, vo s0] h) ∧
  (∀ (l0 l1 : Option AV) (s0 : Int32) (s1 : Option Rf) (w : Option Rf) (h : Hp), run 1 200 2 [l0, l1, some (vo w)] [vi s0, vo s1] h = run 1 200 3 [l0, l1, some (vo w)] [vo w, vi s0, vo s1] h) ∧
  (∀ (l0 l1 l2 : Option AV) (s0 : Option Rf) (s1 : Int32) (o z : Nat) (h : Hp), run 1 200 3 [l0, l1, l2] [vo s0, vi s1, vo (some (o, 9, z))] h = (call 900 [vo (some (o, 9, z)), vi s1, vo s0] h).bind (fun z => run 1 200 6 [l0, l1, l2] (z.1.toList ++ []) z.2)) ∧
  (∀ (l0 l1 l2 : Option AV) (s0 : Option Rf) (s1 : Int32) (o z : Nat) (h : Hp), run 1 200 3 [l0, l1, l2] [vo s0, vi s1, vo (some (o, 3, z))] h = (call 900 [vo (some (o, 3, z)), vi s1, vo s0] h).bind (fun z => run 1 200 6 [l0, l1, l2] (z.1.toList ++ []) z.2)) ∧
  (∀ (l0 l1 l2 : Option AV) (s0 : Option Rf) (s1 : Int32) (o z : Nat) (h : Hp), run 1 200 3 [l0, l1, l2] [vo s0, vi s1, vo (some (o, 2, z))] h = (call 900 [vo (some (o, 2, z)), vi s1, vo s0] h).bind (fun z => run 1 200 6 [l0, l1, l2] (z.1.toList ++ []) z.2)) ∧
  (∀ (l0 l1 l2 : Option AV) (s0 : Option Rf) (s1 : Int32) (o z : Nat) (h : Hp), run 1 200 3 [l0, l1, l2] [vo s0, vi s1, vo (some (o, 1, z))] h = (call 900 [vo (some (o, 1, z)), vi s1, vo s0] h).bind (fun z => run 1 200 6 [l0, l1, l2] (z.1.toList ++ []) z.2)) ∧
  (∀ (l0 l1 l2 : Option AV) (s0 : Option Rf) (s1 : Int32) (o z : Nat) (h : Hp), run 1 200 3 [l0, l1, l2] [vo s0, vi s1, vo (some (o, 8, z))] h = (call 900 [vo (some (o, 8, z)), vi s1, vo s0] h).bind (fun z => run 1 200 6 [l0, l1, l2] (z.1.toList ++ []) z.2)) ∧
  (∀ (l0 l1 l2 : Option AV) (s0 : Option Rf) (s1 : Int32) (o z : Nat) (h : Hp), run 1 200 3 [l0, l1, l2] [vo s0, vi s1, vo (some (o, 6, z))] h = (call 900 [vo (some (o, 6, z)), vi s1, vo s0] h).bind (fun z => run 1 200 6 [l0, l1, l2] (z.1.toList ++ []) z.2)) ∧
  (∀ (l0 l1 l2 : Option AV) (h : Hp), run 1 200 6 [l0, l1, l2] [] h = some (none, h)) := ⟨(fun _ _ _ _ => run_next rfl rfl),
  (fun _ _ s0 _ _ => run_next rfl rfl),
  (fun _ _ s0 _ _ _ => run_next rfl rfl),
  (fun _ _ _ s0 _ _ _ _ => run_calx rfl rfl (Nat.le_of_ble_eq_true rfl) (Nat.le_of_ble_eq_true rfl) rfl),
  (fun _ _ _ s0 _ _ _ _ => run_calx rfl rfl (Nat.le_of_ble_eq_true rfl) (Nat.le_of_ble_eq_true rfl) rfl),
  (fun _ _ _ s0 _ _ _ _ => run_calx rfl rfl (Nat.le_of_ble_eq_true rfl) (Nat.le_of_ble_eq_true rfl) rfl),
  (fun _ _ _ s0 _ _ _ _ => run_calx rfl rfl (Nat.le_of_ble_eq_true rfl) (Nat.le_of_ble_eq_true rfl) rfl),
  (fun _ _ _ s0 _ _ _ _ => run_calx rfl rfl (Nat.le_of_ble_eq_true rfl) (Nat.le_of_ble_eq_true rfl) rfl),
  (fun _ _ _ s0 _ _ _ _ => run_calx rfl rfl (Nat.le_of_ble_eq_true rfl) (Nat.le_of_ble_eq_true rfl) rfl),
  (fun _ _ _ _ => run_ret rfl rfl)⟩
theorem e_200 (v : Option Rf) (a0 : Int32) (a1 : Option Rf) (h : Hp) : call 200 [vo v, vi a0, vo a1] h = run 1 200 0 [some (vo v), some (vi a0), some (vo a1)] [] h := rfl
set_option maxRecDepth 20000 in
theorem x_201 : (∀ (l0 : Option AV) (h : Hp), run 0 201 0 [l0] [] h = run 0 201 1 [l0] [vi (2 : Int32)] h) ∧
  (∀ (l0 : Option AV) (s0 : Int32) (h : Hp), run 0 201 1 [l0] [vi s0] h = some (some (vi s0), h)) := ⟨(fun _ _ => run_next rfl rfl),
  (fun _ s0 _ => run_ret rfl rfl)⟩
theorem e_201 (v : Option Rf) (h : Hp) : call 201 [vo v] h = run 0 201 0 [some (vo v)] [] h := rfl
set_option maxRecDepth 20000 in
theorem x_202 : (∀ (l0 l2 l3 l4 l5 l6 l7 l8 l9 : Option AV) (w : Option Rf) (h : Hp), run 3 202 0 [l0, some (vo w), l2, l3, l4, l5, l6, l7, l8, l9] [] h = run 3 202 1 [l0, some (vo w), l2, l3, l4, l5, l6, l7, l8, l9] [vo w] h) ∧
  (∀ (l0 l1 l2 l3 l4 l5 l6 l7 l8 l9 : Option AV) (o z : Nat) (h : Hp), run 3 202 1 [l0, l1, l2, l3, l4, l5, l6, l7, l8, l9] [vo (some (o, 10, z))] h = run 3 202 4 [l0, l1, l2, l3, l4, l5, l6, l7, l8, l9] [vi (hI h o 3)] h) ∧
  (∀ (l0 l1 l2 l3 l4 l5 l6 l7 l8 l9 : Option AV) (s0 : Int32) (h : Hp), run 3 202 4 [l0, l1, l2, l3, l4, l5, l6, l7, l8, l9] [vi s0] h = run 3 202 5 [l0, l1, l2, l3, l4, l5, l6, l7, l8, l9] [vi (1 : Int32), vi s0] h) ∧
  (∀ (l0 l1 l2 l3 l4 l5 l6 l7 l8 l9 : Option AV) (s0 : Int32) (s1 : Int32) (h : Hp), run 3 202 5 [l0, l1, l2, l3, l4, l5, l6, l7, l8, l9] [vi s0, vi s1] h = if s0 < s1 then run 3 202 16 [l0, l1, l2, l3, l4, l5, l6, l7, l8, l9] [] h else run 3 202 8 [l0, l1, l2, l3, l4, l5, l6, l7, l8, l9] [] h) ∧
  (∀ (l1 l2 l3 l4 l5 l6 l7 l8 l9 : Option AV) (w : Option Rf) (h : Hp), run 3 202 8 [some (vo w), l1, l2, l3, l4, l5, l6, l7, l8, l9] [] h = run 3 202 9 [some (vo w), l1, l2, l3, l4, l5, l6, l7, l8, l9] [vo w] h) ∧
  (∀ (l0 l2 l3 l4 l5 l6 l7 l8 l9 : Option AV) (s0 : Option Rf) (w : Option Rf) (h : Hp), run 3 202 9 [l0, some (vo w), l2, l3, l4, l5, l6, l7, l8, l9] [vo s0] h = run 3 202 10 [l0, some (vo w), l2, l3, l4, l5, l6, l7, l8, l9] [vo w, vo s0] h) ∧
  (∀ (l0 l1 l3 l4 l5 l6 l7 l8 l9 : Option AV) (s0 : Option Rf) (s1 : Option Rf) (w : Int32) (h : Hp), run 3 202 10 [l0, l1, some (vi w), l3, l4, l5, l6, l7, l8, l9] [vo s0, vo s1] h = run 3 202 11 [l0, l1, some (vi w), l3, l4, l5, l6, l7, l8, l9] [vi w, vo s0, vo s1] h) ∧
  (∀ (l0 l1 l2 l4 l5 l6 l7 l8 l9 : Option AV) (s0 : Int32) (s1 : Option Rf) (s2 : Option Rf) (w : Int32) (h : Hp), run 3 202 11 [l0, l1, l2, some (vi w), l4, l5, l6, l7, l8, l9] [vi s0, vo s1, vo s2] h = run 3 202 12 [l0, l1, l2, some (vi w), l4, l5, l6, l7, l8, l9] [vi w, vi s0, vo s1, vo s2] h) ∧
  (∀ (l0 l1 l2 l3 l4 l5 l6 l7 l8 l9 : Option AV) (s0 : Int32) (s1 : Int32) (s2 : Option Rf) (o z : Nat) (h : Hp), run 3 202 12 [l0, l1, l2, l3, l4, l5, l6, l7, l8, l9] [vi s0, vi s1, vo s2, vo (some (o, 2, z))] h = (call 904 [vo (some (o, 2, z)), vo s2, vi s1, vi s0] h).bind (fun z => run 3 202 15 [l0, l1, l2, l3, l4, l5, l6, l7, l8, l9] (z.1.toList ++ []) z.2)) ∧
  (∀ (l0 l1 l2 l3 l4 l5 l6 l7 l8 l9 : Option AV) (s0 : Int32) (h : Hp), run 3 202 15 [l0, l1, l2, l3, l4, l5, l6, l7, l8, l9] [vi s0] h = some (some (vi s0), h)) ∧
  (∀ (l0 l2 l3 l4 l5 l6 l7 l8 l9 : Option AV) (w : Option Rf) (h : Hp), run 3 202 16 [l0, some (vo w), l2, l3, l4, l5, l6, l7, l8, l9] [] h = run 3 202 17 [l0, some (vo w), l2, l3, l4, l5, l6, l7, l8, l9] [vo w] h) ∧
  (∀ (l0 l1 l3 l4 l5 l6 l7 l8 l9 : Option AV) (s0 : Option Rf) (w : Int32) (h : Hp), run 3 202 17 [l0, l1, some (vi w), l3, l4, l5, l6, l7, l8, l9] [vo s0] h = run 3 202 18 [l0, l1, some (vi w), l3, l4, l5, l6, l7, l8, l9] [vi w, vo s0] h) ∧
  (∀ (l0 l1 l2 l4 l5 l6 l7 l8 l9 : Option AV) (s0 : Int32) (s1 : Option Rf) (w : Int32) (h : Hp), run 3 202 18 [l0, l1, l2, some (vi w), l4, l5, l6, l7, l8, l9] [vi s0, vo s1] h = run 3 202 19 [l0, l1, l2, some (vi w), l4, l5, l6, l7, l8, l9] [vi w, vi s0, vo s1] h) ∧
  (∀ (l0 l1 l2 l3 l4 l5 l6 l7 l8 l9 : Option AV) (s0 : Int32) (s1 : Int32) (o z : Nat) (h : Hp), run 3 202 19 [l0, l1, l2, l3, l4, l5, l6, l7, l8, l9] [vi s0, vi s1, vo (some (o, 10, z))] h = (call 1006 [vo (some (o, 10, z)), vi s1, vi s0] h).bind (fun z => run 3 202 22 [l0, l1, l2, l3, l4, l5, l6, l7, l8, l9] (z.1.toList ++ []) z.2)) ∧
  (∀ (l0 l1 l2 l4 l5 l6 l7 l8 l9 : Option AV) (s0 : Int32) (h : Hp), run 3 202 22 [l0, l1, l2, none, l4, l5, l6, l7, l8, l9] [vi s0] h = run 3 202 24 [l0, l1, l2, none, some (vi s0), l5, l6, l7, l8, l9] [] h) ∧
  (∀ (l0 l1 l2 l4 l5 l6 l7 l8 l9 : Option AV) (s0 : Int32) (w1 : Int32) (h : Hp), run 3 202 22 [l0, l1, l2, some (vi w1), l4, l5, l6, l7, l8, l9] [vi s0] h = run 3 202 24 [l0, l1, l2, some (vi w1), some (vi s0), l5, l6, l7, l8, l9] [] h) ∧
  (∀ (l0 l1 l2 l4 l5 l6 l7 l8 l9 : Option AV) (s0 : Int32) (w1 : Option Rf) (h : Hp), run 3 202 22 [l0, l1, l2, some (vo w1), l4, l5, l6, l7, l8, l9] [vi s0] h = run 3 202 24 [l0, l1, l2, some (vo w1), some (vi s0), l5, l6, l7, l8, l9] [] h) ∧
  (∀ (l0 l1 l2 l3 l4 l5 l6 l7 l8 l9 : Option AV) (h : Hp), run 3 202 24 [l0, l1, l2, l3, l4, l5, l6, l7, l8, l9] [] h = run 3 202 25 [l0, l1, l2, l3, l4, l5, l6, l7, l8, l9] [vi (4 : Int32)] h) ∧
  (∀ (l0 l1 l2 l3 l5 l6 l7 l8 l9 : Option AV) (s0 : Int32) (h : Hp), run 3 202 25 [l0, l1, l2, l3, none, l5, l6, l7, l8, l9] [vi s0] h = run 3 202 27 [l0, l1, l2, l3, none, some (vi s0), l6, l7, l8, l9] [] h) ∧
  (∀ (l0 l1 l2 l3 l5 l6 l7 l8 l9 : Option AV) (s0 : Int32) (w1 : Int32) (h : Hp), run 3 202 25 [l0, l1, l2, l3, some (vi w1), l5, l6, l7, l8, l9] [vi s0] h = run 3 202 27 [l0, l1, l2, l3, some (vi w1), some (vi s0), l6, l7, l8, l9] [] h) ∧
  (∀ (l0 l1 l2 l3 l5 l6 l7 l8 l9 : Option AV) (s0 : Int32) (w1 : Option Rf) (h : Hp), run 3 202 25 [l0, l1, l2, l3, some (vo w1), l5, l6, l7, l8, l9] [vi s0] h = run 3 202 27 [l0, l1, l2, l3, some (vo w1), some (vi s0), l6, l7, l8, l9] [] h) ∧
  (∀ (l0 l1 l2 l3 l4 l5 l6 l7 l8 l9 : Option AV) (h : Hp), run 3 202 27 [l0, l1, l2, l3, l4, l5, l6, l7, l8, l9] [] h = run 3 202 28 [l0, l1, l2, l3, l4, l5, l6, l7, l8, l9] [vi (-1 : Int32)] h) ∧
  (∀ (l0 l1 l2 l3 l4 l6 l7 l8 l9 : Option AV) (s0 : Int32) (h : Hp), run 3 202 28 [l0, l1, l2, l3, l4, none, l6, l7, l8, l9] [vi s0] h = run 3 202 30 [l0, l1, l2, l3, l4, none, some (vi s0), l7, l8, l9] [] h) ∧
  (∀ (l0 l1 l2 l3 l4 l6 l7 l8 l9 : Option AV) (s0 : Int32) (w1 : Int32) (h : Hp), run 3 202 28 [l0, l1, l2, l3, l4, some (vi w1), l6, l7, l8, l9] [vi s0] h = run 3 202 30 [l0, l1, l2, l3, l4, some (vi w1), some (vi s0), l7, l8, l9] [] h) ∧
  (∀ (l0 l1 l2 l3 l4 l6 l7 l8 l9 : Option AV) (s0 : Int32) (w1 : Option Rf) (h : Hp), run 3 202 28 [l0, l1, l2, l3, l4, some (vo w1), l6, l7, l8, l9] [vi s0] h = run 3 202 30 [l0, l1, l2, l3, l4, some (vo w1), some (vi s0), l7, l8, l9] [] h) ∧
  (∀ (l0 l1 l2 l3 l4 l5 l6 l7 l8 l9 : Option AV) (h : Hp), run 3 202 30 [l0, l1, l2, l3, l4, l5, l6, l7, l8, l9] [] h = run 3 202 31 [l0, l1, l2, l3, l4, l5, l6, l7, l8, l9] [vi (0 : Int32)] h) ∧
  (∀ (l0 l1 l2 l3 l4 l5 l7 l8 l9 : Option AV) (s0 : Int32) (h : Hp), run 3 202 31 [l0, l1, l2, l3, l4, l5, none, l7, l8, l9] [vi s0] h = run 3 202 33 [l0, l1, l2, l3, l4, l5, none, some (vi s0), l8, l9] [] h) ∧
  (∀ (l0 l1 l2 l3 l4 l5 l7 l8 l9 : Option AV) (s0 : Int32) (w1 : Int32) (h : Hp), run 3 202 31 [l0, l1, l2, l3, l4, l5, some (vi w1), l7, l8, l9] [vi s0] h = run 3 202 33 [l0, l1, l2, l3, l4, l5, some (vi w1), some (vi s0), l8, l9] [] h) ∧
  (∀ (l0 l1 l2 l3 l4 l5 l7 l8 l9 : Option AV) (s0 : Int32) (w1 : Option Rf) (h : Hp), run 3 202 31 [l0, l1, l2, l3, l4, l5, some (vo w1), l7, l8, l9] [vi s0] h = run 3 202 33 [l0, l1, l2, l3, l4, l5, some (vo w1), some (vi s0), l8, l9] [] h) ∧
  (∀ (l0 l1 l2 l3 l4 l5 l6 l7 l8 l9 : Option AV) (s0 : Int32) (h : Hp), run 3 202 35 [l0, l1, l2, l3, l4, l5, l6, l7, l8, l9] [vi s0] h = run 3 202 36 [l0, l1, l2, l3, l4, l5, l6, l7, l8, l9] [vi (5 : Int32), vi s0] h) ∧
  (∀ (l0 l1 l2 l3 l4 l5 l6 l7 l8 l9 : Option AV) (s0 : Int32) (s1 : Int32) (h : Hp), run 3 202 36 [l0, l1, l2, l3, l4, l5, l6, l7, l8, l9] [vi s0, vi s1] h = if s0 ≤ s1 then run 3 202 90 [l0, l1, l2, l3, l4, l5, l6, l7, l8, l9] [] h else run 3 202 39 [l0, l1, l2, l3, l4, l5, l6, l7, l8, l9] [] h) ∧
  (∀ (l0 l2 l3 l4 l5 l6 l7 l8 l9 : Option AV) (w : Option Rf) (h : Hp), run 3 202 39 [l0, some (vo w), l2, l3, l4, l5, l6, l7, l8, l9] [] h = run 3 202 40 [l0, some (vo w), l2, l3, l4, l5, l6, l7, l8, l9] [vo w] h) ∧
  (∀ (l0 l1 l2 l3 l4 l5 l6 l7 l8 l9 : Option AV) (o z : Nat) (h : Hp), run 3 202 40 [l0, l1, l2, l3, l4, l5, l6, l7, l8, l9] [vo (some (o, 10, z))] h = run 3 202 43 [l0, l1, l2, l3, l4, l5, l6, l7, l8, l9] [vo (hR h o 0)] h) ∧
  (∀ (l0 l1 l2 l3 l5 l6 l7 l8 l9 : Option AV) (s0 : Option Rf) (w : Int32) (h : Hp), run 3 202 43 [l0, l1, l2, l3, some (vi w), l5, l6, l7, l8, l9] [vo s0] h = run 3 202 45 [l0, l1, l2, l3, some (vi w), l5, l6, l7, l8, l9] [vi w, vo s0] h) ∧
  (∀ (l0 l1 l2 l3 l4 l5 l6 l8 l9 : Option AV) (s0 : Int32) (s1 : Option Rf) (w : Int32) (h : Hp), run 3 202 45 [l0, l1, l2, l3, l4, l5, l6, some (vi w), l8, l9] [vi s0, vo s1] h = run 3 202 47 [l0, l1, l2, l3, l4, l5, l6, some (vi w), l8, l9] [vi w, vi s0, vo s1] h) ∧
  (∀ (l0 l1 l2 l3 l4 l5 l6 l7 l8 l9 : Option AV) (s0 : Int32) (s1 : Int32) (o z : Nat) (h : Hp), run 3 202 47 [l0, l1, l2, l3, l4, l5, l6, l7, l8, l9] [vi s0, vi s1, vo (some (o, 5, z))] h = (call 506 [vo (some (o, 5, z)), vi s1, vi s0] h).bind (fun z => run 3 202 50 [l0, l1, l2, l3, l4, l5, l6, l7, l8, l9] (z.1.toList ++ []) z.2)) ∧
  (∀ (l0 l1 l2 l3 l4 l5 l6 l8 l9 : Option AV) (s0 : Int32) (h : Hp), run 3 202 50 [l0, l1, l2, l3, l4, l5, l6, none, l8, l9] [vi s0] h = run 3 202 52 [l0, l1, l2, l3, l4, l5, l6, none, some (vi s0), l9] [] h) ∧
  (∀ (l0 l1 l2 l3 l4 l5 l6 l8 l9 : Option AV) (s0 : Int32) (w1 : Int32) (h : Hp), run 3 202 50 [l0, l1, l2, l3, l4, l5, l6, some (vi w1), l8, l9] [vi s0] h = run 3 202 52 [l0, l1, l2, l3, l4, l5, l6, some (vi w1), some (vi s0), l9] [] h) ∧
  (∀ (l0 l1 l2 l3 l4 l5 l6 l8 l9 : Option AV) (s0 : Int32) (w1 : Option Rf) (h : Hp), run 3 202 50 [l0, l1, l2, l3, l4, l5, l6, some (vo w1), l8, l9] [vi s0] h = run 3 202 52 [l0, l1, l2, l3, l4, l5, l6, some (vo w1), some (vi s0), l9] [] h) ∧
  (∀ (l0 l1 l2 l3 l4 l5 l6 l7 l9 : Option AV) (w : Int32) (h : Hp), run 3 202 52 [l0, l1, l2, l3, l4, l5, l6, l7, some (vi w), l9] [] h = run 3 202 54 [l0, l1, l2, l3, l4, l5, l6, l7, some (vi w), l9] [vi w] h) ∧
  (∀ (l0 l1 l2 l3 l4 l5 l6 l7 l8 l9 : Option AV) (s0 : Int32) (h : Hp), run 3 202 54 [l0, l1, l2, l3, l4, l5, l6, l7, l8, l9] [vi s0] h = run 3 202 56 [l0, l1, l2, l3, l4, l5, l6, l7, l8, l9] [vi (-9 : Int32), vi s0] h) ∧
  (∀ (l0 l1 l2 l3 l4 l5 l6 l7 l8 l9 : Option AV) (s0 : Int32) (s1 : Int32) (h : Hp), run 3 202 56 [l0, l1, l2, l3, l4, l5, l6, l7, l8, l9] [vi s0, vi s1] h = if s1 = s0 then run 3 202 84 [l0, l1, l2, l3, l4, l5, l6, l7, l8, l9] [] h else run 3 202 59 [l0, l1, l2, l3, l4, l5, l6, l7, l8, l9] [] h) ∧
  (∀ (l0 l2 l3 l4 l5 l6 l7 l8 l9 : Option AV) (w : Option Rf) (h : Hp), run 3 202 59 [l0, some (vo w), l2, l3, l4, l5, l6, l7, l8, l9] [] h = run 3 202 60 [l0, some (vo w), l2, l3, l4, l5, l6, l7, l8, l9] [vo w] h) ∧
  (∀ (l0 l1 l2 l3 l4 l5 l6 l7 l9 : Option AV) (s0 : Option Rf) (w : Int32) (h : Hp), run 3 202 60 [l0, l1, l2, l3, l4, l5, l6, l7, some (vi w), l9] [vo s0] h = run 3 202 62 [l0, l1, l2, l3, l4, l5, l6, l7, some (vi w), l9] [vi w, vo s0] h) ∧
  (∀ (l0 l1 l3 l4 l5 l6 l7 l8 l9 : Option AV) (s0 : Int32) (s1 : Option Rf) (w : Int32) (h : Hp), run 3 202 62 [l0, l1, some (vi w), l3, l4, l5, l6, l7, l8, l9] [vi s0, vo s1] h = run 3 202 63 [l0, l1, some (vi w), l3, l4, l5, l6, l7, l8, l9] [vi w, vi s0, vo s1] h) ∧
  (∀ (l0 l1 l2 l4 l5 l6 l7 l8 l9 : Option AV) (s0 : Int32) (s1 : Int32) (s2 : Option Rf) (w : Int32) (h : Hp), run 3 202 63 [l0, l1, l2, some (vi w), l4, l5, l6, l7, l8, l9] [vi s0, vi s1, vo s2] h = run 3 202 64 [l0, l1, l2, some (vi w), l4, l5, l6, l7, l8, l9] [vi w, vi s0, vi s1, vo s2] h) ∧
  (∀ (l0 l1 l2 l3 l4 l5 l6 l7 l8 l9 : Option AV) (s0 : Int32) (s1 : Int32) (s2 : Int32) (o z : Nat) (h : Hp), run 3 202 64 [l0, l1, l2, l3, l4, l5, l6, l7, l8, l9] [vi s0, vi s1, vi s2, vo (some (o, 10, z))] h = (call 1008 [vo (some (o, 10, z)), vi s2, vi s1, vi s0] h).bind (fun z => run 3 202 67 [l0, l1, l2, l3, l4, l5, l6, l7, l8, l9] (z.1.toList ++ []) z.2)) ∧
  (∀ (l0 l1 l2 l3 l4 l5 l6 l7 l9 : Option AV) (s0 : Int32) (h : Hp), run 3 202 67 [l0, l1, l2, l3, l4, l5, l6, l7, none, l9] [vi s0] h = run 3 202 69 [l0, l1, l2, l3, l4, l5, l6, l7, none, some (vi s0)] [] h) ∧
  (∀ (l0 l1 l2 l3 l4 l5 l6 l7 l9 : Option AV) (s0 : Int32) (w1 : Int32) (h : Hp), run 3 202 67 [l0, l1, l2, l3, l4, l5, l6, l7, some (vi w1), l9] [vi s0] h = run 3 202 69 [l0, l1, l2, l3, l4, l5, l6, l7, some (vi w1), some (vi s0)] [] h) ∧
  (∀ (l0 l1 l2 l3 l4 l5 l6 l7 l9 : Option AV) (s0 : Int32) (w1 : Option Rf) (h : Hp), run 3 202 67 [l0, l1, l2, l3, l4, l5, l6, l7, some (vo w1), l9] [vi s0] h = run 3 202 69 [l0, l1, l2, l3, l4, l5, l6, l7, some (vo w1), some (vi s0)] [] h) ∧
  (∀ (l0 l1 l2 l3 l4 l5 l6 l7 l8 : Option AV) (w : Int32) (h : Hp), run 3 202 69 [l0, l1, l2, l3, l4, l5, l6, l7, l8, some (vi w)] [] h = run 3 202 71 [l0, l1, l2, l3, l4, l5, l6, l7, l8, some (vi w)] [vi w] h) ∧
  (∀ (l0 l1 l2 l3 l4 l5 l7 l8 l9 : Option AV) (s0 : Int32) (w : Int32) (h : Hp), run 3 202 71 [l0, l1, l2, l3, l4, l5, some (vi w), l7, l8, l9] [vi s0] h = run 3 202 73 [l0, l1, l2, l3, l4, l5, some (vi w), l7, l8, l9] [vi w, vi s0] h) ∧
  (∀ (l0 l1 l2 l3 l4 l5 l6 l7 l8 l9 : Option AV) (s0 : Int32) (s1 : Int32) (h : Hp), run 3 202 73 [l0, l1, l2, l3, l4, l5, l6, l7, l8, l9] [vi s0, vi s1] h = if s1 ≤ s0 then run 3 202 84 [l0, l1, l2, l3, l4, l5, l6, l7, l8, l9] [] h else run 3 202 76 [l0, l1, l2, l3, l4, l5, l6, l7, l8, l9] [] h) ∧
  (∀ (l0 l1 l2 l3 l4 l5 l6 l8 l9 : Option AV) (w : Int32) (h : Hp), run 3 202 76 [l0, l1, l2, l3, l4, l5, l6, some (vi w), l8, l9] [] h = run 3 202 78 [l0, l1, l2, l3, l4, l5, l6, some (vi w), l8, l9] [vi w] h) ∧
  (∀ (l0 l1 l2 l3 l5 l6 l7 l8 l9 : Option AV) (s0 : Int32) (h : Hp), run 3 202 78 [l0, l1, l2, l3, none, l5, l6, l7, l8, l9] [vi s0] h = run 3 202 80 [l0, l1, l2, l3, none, some (vi s0), l6, l7, l8, l9] [] h) ∧
  (∀ (l0 l1 l2 l3 l5 l6 l7 l8 l9 : Option AV) (s0 : Int32) (w1 : Int32) (h : Hp), run 3 202 78 [l0, l1, l2, l3, some (vi w1), l5, l6, l7, l8, l9] [vi s0] h = run 3 202 80 [l0, l1, l2, l3, some (vi w1), some (vi s0), l6, l7, l8, l9] [] h) ∧
  (∀ (l0 l1 l2 l3 l5 l6 l7 l8 l9 : Option AV) (s0 : Int32) (w1 : Option Rf) (h : Hp), run 3 202 78 [l0, l1, l2, l3, some (vo w1), l5, l6, l7, l8, l9] [vi s0] h = run 3 202 80 [l0, l1, l2, l3, some (vo w1), some (vi s0), l6, l7, l8, l9] [] h) ∧
  (∀ (l0 l1 l2 l3 l4 l5 l6 l7 l8 : Option AV) (w : Int32) (h : Hp), run 3 202 80 [l0, l1, l2, l3, l4, l5, l6, l7, l8, some (vi w)] [] h = run 3 202 82 [l0, l1, l2, l3, l4, l5, l6, l7, l8, some (vi w)] [vi w] h) ∧
  (∀ (l0 l1 l2 l3 l4 l6 l7 l8 l9 : Option AV) (s0 : Int32) (h : Hp), run 3 202 82 [l0, l1, l2, l3, l4, none, l6, l7, l8, l9] [vi s0] h = run 3 202 84 [l0, l1, l2, l3, l4, none, some (vi s0), l7, l8, l9] [] h) ∧
  (∀ (l0 l1 l2 l3 l4 l6 l7 l8 l9 : Option AV) (s0 : Int32) (w1 : Int32) (h : Hp), run 3 202 82 [l0, l1, l2, l3, l4, some (vi w1), l6, l7, l8, l9] [vi s0] h = run 3 202 84 [l0, l1, l2, l3, l4, some (vi w1), some (vi s0), l7, l8, l9] [] h) ∧
  (∀ (l0 l1 l2 l3 l4 l6 l7 l8 l9 : Option AV) (s0 : Int32) (w1 : Option Rf) (h : Hp), run 3 202 82 [l0, l1, l2, l3, l4, some (vo w1), l6, l7, l8, l9] [vi s0] h = run 3 202 84 [l0, l1, l2, l3, l4, some (vo w1), some (vi s0), l7, l8, l9] [] h) ∧
  (∀ (l0 l1 l2 l3 l4 l5 l8 l9 : Option AV) (w : Int32) (h : Hp), run 3 202 84 [l0, l1, l2, l3, l4, l5, none, some (vi w), l8, l9] [] h = run 3 202 87 [l0, l1, l2, l3, l4, l5, none, some (vi (w + (1 : Int32))), l8, l9] [] h) ∧
  (∀ (l0 l1 l2 l3 l4 l5 l8 l9 : Option AV) (w1 : Int32) (w : Int32) (h : Hp), run 3 202 84 [l0, l1, l2, l3, l4, l5, some (vi w1), some (vi w), l8, l9] [] h = run 3 202 87 [l0, l1, l2, l3, l4, l5, some (vi w1), some (vi (w + (1 : Int32))), l8, l9] [] h) ∧
  (∀ (l0 l1 l2 l3 l4 l5 l8 l9 : Option AV) (w1 : Option Rf) (w : Int32) (h : Hp), run 3 202 84 [l0, l1, l2, l3, l4, l5, some (vo w1), some (vi w), l8, l9] [] h = run 3 202 87 [l0, l1, l2, l3, l4, l5, some (vo w1), some (vi (w + (1 : Int32))), l8, l9] [] h) ∧
  (∀ (l0 l1 l2 l3 l4 l5 l6 l7 l8 l9 : Option AV) (h : Hp), run 3 202 87 [l0, l1, l2, l3, l4, l5, l6, l7, l8, l9] [] h = run 3 202 33 [l0, l1, l2, l3, l4, l5, l6, l7, l8, l9] [] h) ∧
  (∀ (l0 l1 l2 l3 l4 l6 l7 l8 l9 : Option AV) (w : Int32) (h : Hp), run 3 202 90 [l0, l1, l2, l3, l4, some (vi w), l6, l7, l8, l9] [] h = run 3 202 92 [l0, l1, l2, l3, l4, some (vi w), l6, l7, l8, l9] [vi w] h) ∧
  (∀ (l0 l1 l2 l3 l4 l5 l6 l7 l8 l9 : Option AV) (s0 : Int32) (h : Hp), run 3 202 92 [l0, l1, l2, l3, l4, l5, l6, l7, l8, l9] [vi s0] h = some (some (vi s0), h)) := ⟨(fun _ _ _ _ _ _ _ _ _ _ _ => run_next rfl rfl),
  (fun _ _ _ _ _ _ _ _ _ _ _ _ _ => run_next rfl rfl),
  (fun _ _ _ _ _ _ _ _ _ _ s0 _ => run_next rfl rfl),
  (fun _ _ _ _ _ _ _ _ _ _ s0 _ _ => run_if rfl rfl (run_next rfl) (run_next rfl)),
  (fun _ _ _ _ _ _ _ _ _ _ _ => run_next rfl rfl),
  (fun _ _ _ _ _ _ _ _ _ s0 _ _ => run_next rfl rfl),
  (fun _ _ _ _ _ _ _ _ _ s0 _ _ _ => run_next rfl rfl),
  (fun _ _ _ _ _ _ _ _ _ s0 _ _ _ _ => run_next rfl rfl),
  (fun _ _ _ _ _ _ _ _ _ _ s0 _ _ _ _ _ => run_calx rfl rfl (Nat.le_of_ble_eq_true rfl) (Nat.le_of_ble_eq_true rfl) rfl),
  (fun _ _ _ _ _ _ _ _ _ _ s0 _ => run_ret rfl rfl),
  (fun _ _ _ _ _ _ _ _ _ _ _ => run_next rfl rfl),
  (fun _ _ _ _ _ _ _ _ _ s0 _ _ => run_next rfl rfl),
  (fun _ _ _ _ _ _ _ _ _ s0 _ _ _ => run_next rfl rfl),
  (fun _ _ _ _ _ _ _ _ _ _ s0 _ _ _ _ => run_calx rfl rfl (Nat.le_of_ble_eq_true rfl) (Nat.le_of_ble_eq_true rfl) rfl),
  (fun _ _ _ _ _ _ _ _ _ s0 _ => run_next rfl rfl),
  (fun _ _ _ _ _ _ _ _ _ s0 _ _ => run_next rfl rfl),
  (fun _ _ _ _ _ _ _ _ _ s0 _ _ => run_next rfl rfl),
  (fun _ _ _ _ _ _ _ _ _ _ _ => run_next rfl rfl),
  (fun _ _ _ _ _ _ _ _ _ s0 _ => run_next rfl rfl),
  (fun _ _ _ _ _ _ _ _ _ s0 _ _ => run_next rfl rfl),
  (fun _ _ _ _ _ _ _ _ _ s0 _ _ => run_next rfl rfl),
  (fun _ _ _ _ _ _ _ _ _ _ _ => run_next rfl rfl),
  (fun _ _ _ _ _ _ _ _ _ s0 _ => run_next rfl rfl),
  (fun _ _ _ _ _ _ _ _ _ s0 _ _ => run_next rfl rfl),
  (fun _ _ _ _ _ _ _ _ _ s0 _ _ => run_next rfl rfl),
  (fun _ _ _ _ _ _ _ _ _ _ _ => run_next rfl rfl),
  (fun _ _ _ _ _ _ _ _ _ s0 _ => run_next rfl rfl),
  (fun _ _ _ _ _ _ _ _ _ s0 _ _ => run_next rfl rfl),
  (fun _ _ _ _ _ _ _ _ _ s0 _ _ => run_next rfl rfl),
  (fun _ _ _ _ _ _ _ _ _ _ s0 _ => run_next rfl rfl),
  (fun _ _ _ _ _ _ _ _ _ _ s0 _ _ => run_if rfl rfl (run_next rfl) (run_next rfl)),
  (fun _ _ _ _ _ _ _ _ _ _ _ => run_next rfl rfl),
  (fun _ _ _ _ _ _ _ _ _ _ _ _ _ => run_next rfl rfl),
  (fun _ _ _ _ _ _ _ _ _ s0 _ _ => run_next rfl rfl),
  (fun _ _ _ _ _ _ _ _ _ s0 _ _ _ => run_next rfl rfl),
  (fun _ _ _ _ _ _ _ _ _ _ s0 _ _ _ _ => run_calx rfl rfl (Nat.le_of_ble_eq_true rfl) (Nat.le_of_ble_eq_true rfl) rfl),
  (fun _ _ _ _ _ _ _ _ _ s0 _ => run_next rfl rfl),
  (fun _ _ _ _ _ _ _ _ _ s0 _ _ => run_next rfl rfl),
  (fun _ _ _ _ _ _ _ _ _ s0 _ _ => run_next rfl rfl),
  (fun _ _ _ _ _ _ _ _ _ _ _ => run_next rfl rfl),
  (fun _ _ _ _ _ _ _ _ _ _ s0 _ => run_next rfl rfl),
  (fun _ _ _ _ _ _ _ _ _ _ s0 _ _ => run_if rfl rfl (run_next rfl) (run_next rfl)),
  (fun _ _ _ _ _ _ _ _ _ _ _ => run_next rfl rfl),
  (fun _ _ _ _ _ _ _ _ _ s0 _ _ => run_next rfl rfl),
  (fun _ _ _ _ _ _ _ _ _ s0 _ _ _ => run_next rfl rfl),
  (fun _ _ _ _ _ _ _ _ _ s0 _ _ _ _ => run_next rfl rfl),
  (fun _ _ _ _ _ _ _ _ _ _ s0 _ _ _ _ _ => run_calx rfl rfl (Nat.le_of_ble_eq_true rfl) (Nat.le_of_ble_eq_true rfl) rfl),
  (fun _ _ _ _ _ _ _ _ _ s0 _ => run_next rfl rfl),
  (fun _ _ _ _ _ _ _ _ _ s0 _ _ => run_next rfl rfl),
  (fun _ _ _ _ _ _ _ _ _ s0 _ _ => run_next rfl rfl),
  (fun _ _ _ _ _ _ _ _ _ _ _ => run_next rfl rfl),
  (fun _ _ _ _ _ _ _ _ _ s0 _ _ => run_next rfl rfl),
  (fun _ _ _ _ _ _ _ _ _ _ s0 _ _ => run_if rfl rfl (run_next rfl) (run_next rfl)),
  (fun _ _ _ _ _ _ _ _ _ _ _ => run_next rfl rfl),
  (fun _ _ _ _ _ _ _ _ _ s0 _ => run_next rfl rfl),
  (fun _ _ _ _ _ _ _ _ _ s0 _ _ => run_next rfl rfl),
  (fun _ _ _ _ _ _ _ _ _ s0 _ _ => run_next rfl rfl),
  (fun _ _ _ _ _ _ _ _ _ _ _ => run_next rfl rfl),
  (fun _ _ _ _ _ _ _ _ _ s0 _ => run_next rfl rfl),
  (fun _ _ _ _ _ _ _ _ _ s0 _ _ => run_next rfl rfl),
  (fun _ _ _ _ _ _ _ _ _ s0 _ _ => run_next rfl rfl),
  (fun _ _ _ _ _ _ _ _ _ _ => run_next rfl rfl),
  (fun _ _ _ _ _ _ _ _ _ _ _ => run_next rfl rfl),
  (fun _ _ _ _ _ _ _ _ _ _ _ => run_next rfl rfl),
  (fun _ _ _ _ _ _ _ _ _ _ _ => run_next rfl rfl),
  (fun _ _ _ _ _ _ _ _ _ _ _ => run_next rfl rfl),
  (fun _ _ _ _ _ _ _ _ _ _ s0 _ => run_ret rfl rfl)⟩
set_option maxRecDepth 20000 in
theorem x_202_33 : (∀ (l0 l1 l2 l3 l4 l5 l6 l8 l9 : Option AV) (w : Int32) (h : Hp), run 3 202 33 [l0, l1, l2, l3, l4, l5, l6, some (vi w), l8, l9] [] h = run 3 202 35 [l0, l1, l2, l3, l4, l5, l6, some (vi w), l8, l9] [vi w] h) := (fun _ _ _ _ _ _ _ _ _ _ _ => run_next rfl rfl)
theorem e_202 (v : Option Rf) (a0 : Option Rf) (a1 : Int32) (a2 : Int32) (h : Hp) : call 202 [vo v, vo a0, vi a1, vi a2] h = run 3 202 0 [some (vo v), some (vo a0), some (vi a1), some (vi a2), none, none, none, none, none, none] [] h := rfl
set_option maxRecDepth 20000 in
theorem x_300 : (∀ (l1 l2 : Option AV) (w : Option Rf) (h : Hp), run 1 300 0 [some (vo w), l1, l2] [] h = run 1 300 1 [some (vo w), l1, l2] [vo w] h) ∧
  (∀ (l0 l2 : Option AV) (s0 : Option Rf) (w : Int32) (h : Hp), run 1 300 1 [l0, some (vi w), l2] [vo s0] h = run 1 300 2 [l0, some (vi w), l2] [vi w, vo s0] h) ∧
  (∀ (l0 l1 : Option AV) (s0 : Int32) (s1 : Option Rf) (w : Option Rf) (h : Hp), run 1 300 2 [l0, l1, some (vo w)] [vi s0, vo s1] h = run 1 300 3 [l0, l1, some (vo w)] [vo w, vi s0, vo s1] h) ∧
  (∀ (l0 l1 l2 : Option AV) (s0 : Option Rf) (s1 : Int32) (o z : Nat) (h : Hp), run 1 300 3 [l0, l1, l2] [vo s0, vi s1, vo (some (o, 9, z))] h = (call 900 [vo (some (o, 9, z)), vi s1, vo s0] h).bind (fun z => run 1 300 6 [l0, l1, l2] (z.1.toList ++ []) z.2)) ∧
  (∀ (l0 l1 l2 : Option AV) (s0 : Option Rf) (s1 : Int32) (o z : Nat) (h : Hp), run 1 300 3 [l0, l1, l2] [vo s0, vi s1, vo (some (o, 3, z))] h = (call 900 [vo (some (o, 3, z)), vi s1, vo s0] h).bind (fun z => run 1 300 6 [l0, l1, l2] (z.1.toList ++ []) z.2)) ∧
  (∀ (l0 l1 l2 : Option AV) (s0 : Option Rf) (s1 : Int32) (o z : Nat) (h : Hp), run 1 300 3 [l0, l1, l2] [vo s0, vi s1, vo (some (o, 2, z))] h = (call 900 [vo (some (o, 2, z)), vi s1, vo s0] h).bind (fun z => run 1 300 6 [l0, l1, l2] (z.1.toList ++ []) z.2)) ∧
  (∀ (l0 l1 l2 : Option AV) (s0 : Option Rf) (s1 : Int32) (o z : Nat) (h : Hp), run 1 300 3 [l0, l1, l2] [vo s0, vi s1, vo (some (o, 1, z))] h = (call 900 [vo (some (o, 1, z)), vi s1, vo s0] h).bind (fun z => run 1 300 6 [l0, l1, l2] (z.1.toList ++ []) z.2)) ∧
  (∀ (l0 l1 l2 : Option AV) (s0 : Option Rf) (s1 : Int32) (o z : Nat) (h : Hp), run 1 300 3 [l0, l1, l2] [vo s0, vi s1, vo (some (o, 8, z))] h = (call 900 [vo (some (o, 8, z)), vi s1, vo s0] h).bind (fun z => run 1 300 6 [l0, l1, l2] (z.1.toList ++ []) z.2)) ∧
  (∀ (l0 l1 l2 : Option AV) (s0 : Option Rf) (s1 : Int32) (o z : Nat) (h : Hp), run 1 300 3 [l0, l1, l2] [vo s0, vi s1, vo (some (o, 6, z))] h = (call 900 [vo (some (o, 6, z)), vi s1, vo s0] h).bind (fun z => run 1 300 6 [l0, l1, l2] (z.1.toList ++ []) z.2)) ∧
  (∀ (l0 l1 l2 : Option AV) (h : Hp), run 1 300 6 [l0, l1, l2] [] h = some (none, h)) := ⟨(fun _ _ _ _ => run_next rfl rfl),
  (fun _ _ s0 _ _ => run_next rfl rfl),
  (fun _ _ s0 _ _ _ => run_next rfl rfl),
  (fun _ _ _ s0 _ _ _ _ => run_calx rfl rfl (Nat.le_of_ble_eq_true rfl) (Nat.le_of_ble_eq_true rfl) rfl),
  (fun _ _ _ s0 _ _ _ _ => run_calx rfl rfl (Nat.le_of_ble_eq_true rfl) (Nat.le_of_ble_eq_true rfl) rfl),
  (fun _ _ _ s0 _ _ _ _ => run_calx rfl rfl (Nat.le_of_ble_eq_true rfl) (Nat.le_of_ble_eq_true rfl) rfl),
  (fun _ _ _ s0 _ _ _ _ => run_calx rfl rfl (Nat.le_of_ble_eq_true rfl) (Nat.le_of_ble_eq_true rfl) rfl),
  (fun _ _ _ s0 _ _ _ _ => run_calx rfl rfl (Nat.le_of_ble_eq_true rfl) (Nat.le_of_ble_eq_true rfl) rfl),
  (fun _ _ _ s0 _ _ _ _ => run_calx rfl rfl (Nat.le_of_ble_eq_true rfl) (Nat.le_of_ble_eq_true rfl) rfl),
  (fun _ _ _ _ => run_ret rfl rfl)⟩
theorem e_300 (v : Option Rf) (a0 : Int32) (a1 : Option Rf) (h : Hp) : call 300 [vo v, vi a0, vo a1] h = run 1 300 0 [some (vo v), some (vi a0), some (vo a1)] [] h := rfl
set_option maxRecDepth 20000 in
theorem x_301 : (∀ (l0 : Option AV) (h : Hp), run 0 301 0 [l0] [] h = run 0 301 1 [l0] [vi (1 : Int32)] h) ∧
  (∀ (l0 : Option AV) (s0 : Int32) (h : Hp), run 0 301 1 [l0] [vi s0] h = some (some (vi s0), h)) := ⟨(fun _ _ => run_next rfl rfl),
  (fun _ s0 _ => run_ret rfl rfl)⟩
theorem e_301 (v : Option Rf) (h : Hp) : call 301 [vo v] h = run 0 301 0 [some (vo v)] [] h := rfl
set_option maxRecDepth 20000 in
theorem x_302 : (∀ (l0 l2 l3 l4 l5 l6 l7 l8 l9 l10 l11 : Option AV) (w : Option Rf) (h : Hp), run 3 302 0 [l0, some (vo w), l2, l3, l4, l5, l6, l7, l8, l9, l10, l11] [] h = run 3 302 1 [l0, some (vo w), l2, l3, l4, l5, l6, l7, l8, l9, l10, l11] [vo w] h) ∧
  (∀ (l0 l1 l2 l3 l4 l5 l6 l7 l8 l9 l10 l11 : Option AV) (o z : Nat) (h : Hp), run 3 302 1 [l0, l1, l2, l3, l4, l5, l6, l7, l8, l9, l10, l11] [vo (some (o, 10, z))] h = run 3 302 4 [l0, l1, l2, l3, l4, l5, l6, l7, l8, l9, l10, l11] [vi (hI h o 3)] h) ∧
  (∀ (l0 l1 l2 l3 l4 l5 l6 l7 l8 l9 l10 l11 : Option AV) (s0 : Int32) (h : Hp), run 3 302 4 [l0, l1, l2, l3, l4, l5, l6, l7, l8, l9, l10, l11] [vi s0] h = if s0 ≤ 0 then run 3 302 19 [l0, l1, l2, l3, l4, l5, l6, l7, l8, l9, l10, l11] [] h else run 3 302 7 [l0, l1, l2, l3, l4, l5, l6, l7, l8, l9, l10, l11] [] h) ∧
  (∀ (l1 l2 l3 l4 l5 l6 l7 l8 l9 l10 l11 : Option AV) (w : Option Rf) (h : Hp), run 3 302 7 [some (vo w), l1, l2, l3, l4, l5, l6, l7, l8, l9, l10, l11] [] h = run 3 302 8 [some (vo w), l1, l2, l3, l4, l5, l6, l7, l8, l9, l10, l11] [vo w] h) ∧
  (∀ (l0 l1 l2 l3 l4 l5 l6 l7 l8 l9 l10 l11 : Option AV) (o z : Nat) (h : Hp), run 3 302 8 [l0, l1, l2, l3, l4, l5, l6, l7, l8, l9, l10, l11] [vo (some (o, 9, z))] h = run 3 302 11 [l0, l1, l2, l3, l4, l5, l6, l7, l8, l9, l10, l11] [vi (hI h o 0)] h) ∧
  (∀ (l0 l1 l2 l3 l4 l5 l6 l7 l8 l9 l10 l11 : Option AV) (o z : Nat) (h : Hp), run 3 302 8 [l0, l1, l2, l3, l4, l5, l6, l7, l8, l9, l10, l11] [vo (some (o, 3, z))] h = run 3 302 11 [l0, l1, l2, l3, l4, l5, l6, l7, l8, l9, l10, l11] [vi (hI h o 0)] h) ∧
  (∀ (l0 l1 l2 l3 l4 l5 l6 l7 l8 l9 l10 l11 : Option AV) (o z : Nat) (h : Hp), run 3 302 8 [l0, l1, l2, l3, l4, l5, l6, l7, l8, l9, l10, l11] [vo (some (o, 2, z))] h = run 3 302 11 [l0, l1, l2, l3, l4, l5, l6, l7, l8, l9, l10, l11] [vi (hI h o 0)] h) ∧
  (∀ (l0 l1 l2 l3 l4 l5 l6 l7 l8 l9 l10 l11 : Option AV) (o z : Nat) (h : Hp), run 3 302 8 [l0, l1, l2, l3, l4, l5, l6, l7, l8, l9, l10, l11] [vo (some (o, 1, z))] h = run 3 302 11 [l0, l1, l2, l3, l4, l5, l6, l7, l8, l9, l10, l11] [vi (hI h o 0)] h) ∧
  (∀ (l0 l1 l2 l3 l4 l5 l6 l7 l8 l9 l10 l11 : Option AV) (o z : Nat) (h : Hp), run 3 302 8 [l0, l1, l2, l3, l4, l5, l6, l7, l8, l9, l10, l11] [vo (some (o, 8, z))] h = run 3 302 11 [l0, l1, l2, l3, l4, l5, l6, l7, l8, l9, l10, l11] [vi (hI h o 0)] h) ∧
  (∀ (l0 l1 l2 l3 l4 l5 l6 l7 l8 l9 l10 l11 : Option AV) (o z : Nat) (h : Hp), run 3 302 8 [l0, l1, l2, l3, l4, l5, l6, l7, l8, l9, l10, l11] [vo (some (o, 6, z))] h = run 3 302 11 [l0, l1, l2, l3, l4, l5, l6, l7, l8, l9, l10, l11] [vi (hI h o 0)] h) ∧
  (∀ (l0 l2 l3 l4 l5 l6 l7 l8 l9 l10 l11 : Option AV) (s0 : Int32) (w : Option Rf) (h : Hp), run 3 302 11 [l0, some (vo w), l2, l3, l4, l5, l6, l7, l8, l9, l10, l11] [vi s0] h = run 3 302 12 [l0, some (vo w), l2, l3, l4, l5, l6, l7, l8, l9, l10, l11] [vo w, vi s0] h) ∧
  (∀ (l0 l1 l2 l3 l4 l5 l6 l7 l8 l9 l10 l11 : Option AV) (s1 : Int32) (o z : Nat) (h : Hp), run 3 302 12 [l0, l1, l2, l3, l4, l5, l6, l7, l8, l9, l10, l11] [vo (some (o, 10, z)), vi s1] h = run 3 302 15 [l0, l1, l2, l3, l4, l5, l6, l7, l8, l9, l10, l11] [vi (hI h o 3), vi s1] h) ∧
  (∀ (l0 l1 l2 l3 l4 l5 l6 l7 l8 l9 l10 l11 : Option AV) (s0 : Int32) (s1 : Int32) (h : Hp), run 3 302 15 [l0, l1, l2, l3, l4, l5, l6, l7, l8, l9, l10, l11] [vi s0, vi s1] h = if s0 = 0 then none else run 3 302 16 [l0, l1, l2, l3, l4, l5, l6, l7, l8, l9, l10, l11] [vi (s1 - s1 / s0 * s0)] h) ∧
  (∀ (l0 l1 l2 l3 l4 l5 l6 l7 l8 l9 l10 l11 : Option AV) (s0 : Int32) (h : Hp), run 3 302 16 [l0, l1, l2, l3, l4, l5, l6, l7, l8, l9, l10, l11] [vi s0] h = run 3 302 20 [l0, l1, l2, l3, l4, l5, l6, l7, l8, l9, l10, l11] [vi s0] h) ∧
  (∀ (l0 l1 l3 l4 l5 l6 l7 l8 l9 l10 l11 : Option AV) (w : Int32) (h : Hp), run 3 302 19 [l0, l1, some (vi w), l3, l4, l5, l6, l7, l8, l9, l10, l11] [] h = run 3 302 20 [l0, l1, some (vi w), l3, l4, l5, l6, l7, l8, l9, l10, l11] [vi w] h) ∧
  (∀ (l0 l1 l2 l4 l5 l6 l7 l8 l9 l10 l11 : Option AV) (s0 : Int32) (h : Hp), run 3 302 20 [l0, l1, l2, none, l4, l5, l6, l7, l8, l9, l10, l11] [vi s0] h = run 3 302 22 [l0, l1, l2, none, some (vi s0), l5, l6, l7, l8, l9, l10, l11] [] h) ∧
  (∀ (l0 l1 l2 l4 l5 l6 l7 l8 l9 l10 l11 : Option AV) (s0 : Int32) (w1 : Int32) (h : Hp), run 3 302 20 [l0, l1, l2, some (vi w1), l4, l5, l6, l7, l8, l9, l10, l11] [vi s0] h = run 3 302 22 [l0, l1, l2, some (vi w1), some (vi s0), l5, l6, l7, l8, l9, l10, l11] [] h) ∧
  (∀ (l0 l1 l2 l4 l5 l6 l7 l8 l9 l10 l11 : Option AV) (s0 : Int32) (w1 : Option Rf) (h : Hp), run 3 302 20 [l0, l1, l2, some (vo w1), l4, l5, l6, l7, l8, l9, l10, l11] [vi s0] h = run 3 302 22 [l0, l1, l2, some (vo w1), some (vi s0), l5, l6, l7, l8, l9, l10, l11] [] h) ∧
  (∀ (l0 l1 l2 l3 l5 l6 l7 l8 l9 l10 l11 : Option AV) (w : Int32) (h : Hp), run 3 302 22 [l0, l1, l2, l3, some (vi w), l5, l6, l7, l8, l9, l10, l11] [] h = run 3 302 24 [l0, l1, l2, l3, some (vi w), l5, l6, l7, l8, l9, l10, l11] [vi w] h) ∧
  (∀ (l0 l1 l3 l4 l5 l6 l7 l8 l9 l10 l11 : Option AV) (s0 : Int32) (w : Int32) (h : Hp), run 3 302 24 [l0, l1, some (vi w), l3, l4, l5, l6, l7, l8, l9, l10, l11] [vi s0] h = run 3 302 25 [l0, l1, some (vi w), l3, l4, l5, l6, l7, l8, l9, l10, l11] [vi w, vi s0] h) ∧
  (∀ (l0 l1 l2 l3 l4 l5 l6 l7 l8 l9 l10 l11 : Option AV) (s0 : Int32) (s1 : Int32) (h : Hp), run 3 302 25 [l0, l1, l2, l3, l4, l5, l6, l7, l8, l9, l10, l11] [vi s0, vi s1] h = if s1 = s0 then run 3 302 28 [l0, l1, l2, l3, l4, l5, l6, l7, l8, l9, l10, l11] [] h else run 3 302 36 [l0, l1, l2, l3, l4, l5, l6, l7, l8, l9, l10, l11] [] h) ∧
  (∀ (l1 l2 l3 l4 l5 l6 l7 l8 l9 l10 l11 : Option AV) (w : Option Rf) (h : Hp), run 3 302 28 [some (vo w), l1, l2, l3, l4, l5, l6, l7, l8, l9, l10, l11] [] h = run 3 302 29 [some (vo w), l1, l2, l3, l4, l5, l6, l7, l8, l9, l10, l11] [vo w] h) ∧
  (∀ (l0 l2 l3 l4 l5 l6 l7 l8 l9 l10 l11 : Option AV) (s0 : Option Rf) (w : Option Rf) (h : Hp), run 3 302 29 [l0, some (vo w), l2, l3, l4, l5, l6, l7, l8, l9, l10, l11] [vo s0] h = run 3 302 30 [l0, some (vo w), l2, l3, l4, l5, l6, l7, l8, l9, l10, l11] [vo w, vo s0] h) ∧
  (∀ (l0 l1 l3 l4 l5 l6 l7 l8 l9 l10 l11 : Option AV) (s0 : Option Rf) (s1 : Option Rf) (w : Int32) (h : Hp), run 3 302 30 [l0, l1, some (vi w), l3, l4, l5, l6, l7, l8, l9, l10, l11] [vo s0, vo s1] h = run 3 302 31 [l0, l1, some (vi w), l3, l4, l5, l6, l7, l8, l9, l10, l11] [vi w, vo s0, vo s1] h) ∧
  (∀ (l0 l1 l2 l4 l5 l6 l7 l8 l9 l10 l11 : Option AV) (s0 : Int32) (s1 : Option Rf) (s2 : Option Rf) (w : Int32) (h : Hp), run 3 302 31 [l0, l1, l2, some (vi w), l4, l5, l6, l7, l8, l9, l10, l11] [vi s0, vo s1, vo s2] h = run 3 302 32 [l0, l1, l2, some (vi w), l4, l5, l6, l7, l8, l9, l10, l11] [vi w, vi s0, vo s1, vo s2] h) ∧
  (∀ (l0 l1 l2 l3 l4 l5 l6 l7 l8 l9 l10 l11 : Option AV) (s0 : Int32) (s1 : Int32) (s2 : Option Rf) (o z : Nat) (h : Hp), run 3 302 32 [l0, l1, l2, l3, l4, l5, l6, l7, l8, l9, l10, l11] [vi s0, vi s1, vo s2, vo (some (o, 3, z))] h = (call 904 [vo (some (o, 3, z)), vo s2, vi s1, vi s0] h).bind (fun z => run 3 302 35 [l0, l1, l2, l3, l4, l5, l6, l7, l8, l9, l10, l11] (z.1.toList ++ []) z.2)) ∧
  (∀ (l0 l1 l2 l3 l4 l5 l6 l7 l8 l9 l10 l11 : Option AV) (s0 : Int32) (s1 : Int32) (s2 : Option Rf) (o z : Nat) (h : Hp), run 3 302 32 [l0, l1, l2, l3, l4, l5, l6, l7, l8, l9, l10, l11] [vi s0, vi s1, vo s2, vo (some (o, 1, z))] h = (call 904 [vo (some (o, 1, z)), vo s2, vi s1, vi s0] h).bind (fun z => run 3 302 35 [l0, l1, l2, l3, l4, l5, l6, l7, l8, l9, l10, l11] (z.1.toList ++ []) z.2)) ∧
  (∀ (l0 l1 l2 l3 l4 l5 l6 l7 l8 l9 l10 l11 : Option AV) (s0 : Int32) (s1 : Int32) (s2 : Option Rf) (o z : Nat) (h : Hp), run 3 302 32 [l0, l1, l2, l3, l4, l5, l6, l7, l8, l9, l10, l11] [vi s0, vi s1, vo s2, vo (some (o, 6, z))] h = (call 904 [vo (some (o, 6, z)), vo s2, vi s1, vi s0] h).bind (fun z => run 3 302 35 [l0, l1, l2, l3, l4, l5, l6, l7, l8, l9, l10, l11] (z.1.toList ++ []) z.2)) ∧
  (∀ (l0 l1 l2 l3 l4 l5 l6 l7 l8 l9 l10 l11 : Option AV) (s0 : Int32) (h : Hp), run 3 302 35 [l0, l1, l2, l3, l4, l5, l6, l7, l8, l9, l10, l11] [vi s0] h = some (some (vi s0), h)) ∧
  (∀ (l1 l2 l3 l4 l5 l6 l7 l8 l9 l10 l11 : Option AV) (w : Option Rf) (h : Hp), run 3 302 36 [some (vo w), l1, l2, l3, l4, l5, l6, l7, l8, l9, l10, l11] [] h = run 3 302 37 [some (vo w), l1, l2, l3, l4, l5, l6, l7, l8, l9, l10, l11] [vo w] h) ∧
  (∀ (l0 l2 l3 l4 l5 l6 l7 l8 l9 l10 l11 : Option AV) (s0 : Option Rf) (w : Option Rf) (h : Hp), run 3 302 37 [l0, some (vo w), l2, l3, l4, l5, l6, l7, l8, l9, l10, l11] [vo s0] h = run 3 302 38 [l0, some (vo w), l2, l3, l4, l5, l6, l7, l8, l9, l10, l11] [vo w, vo s0] h) ∧
  (∀ (l0 l1 l2 l3 l5 l6 l7 l8 l9 l10 l11 : Option AV) (s0 : Option Rf) (s1 : Option Rf) (w : Int32) (h : Hp), run 3 302 38 [l0, l1, l2, l3, some (vi w), l5, l6, l7, l8, l9, l10, l11] [vo s0, vo s1] h = run 3 302 40 [l0, l1, l2, l3, some (vi w), l5, l6, l7, l8, l9, l10, l11] [vi w, vo s0, vo s1] h) ∧
  (∀ (l0 l1 l2 l4 l5 l6 l7 l8 l9 l10 l11 : Option AV) (s0 : Int32) (s1 : Option Rf) (s2 : Option Rf) (w : Int32) (h : Hp), run 3 302 40 [l0, l1, l2, some (vi w), l4, l5, l6, l7, l8, l9, l10, l11] [vi s0, vo s1, vo s2] h = run 3 302 41 [l0, l1, l2, some (vi w), l4, l5, l6, l7, l8, l9, l10, l11] [vi w, vi s0, vo s1, vo s2] h) ∧
  (∀ (l0 l1 l2 l3 l4 l5 l6 l7 l8 l9 l10 l11 : Option AV) (s0 : Int32) (s1 : Int32) (s2 : Option Rf) (o z : Nat) (h : Hp), run 3 302 41 [l0, l1, l2, l3, l4, l5, l6, l7, l8, l9, l10, l11] [vi s0, vi s1, vo s2, vo (some (o, 3, z))] h = (call 303 [vo (some (o, 3, z)), vo s2, vi s1, vi s0] h).bind (fun z => run 3 302 44 [l0, l1, l2, l3, l4, l5, l6, l7, l8, l9, l10, l11] (z.1.toList ++ []) z.2)) ∧
  (∀ (l0 l1 l2 l3 l4 l5 l6 l7 l8 l9 l10 l11 : Option AV) (s0 : Int32) (s1 : Int32) (s2 : Option Rf) (o z : Nat) (h : Hp), run 3 302 41 [l0, l1, l2, l3, l4, l5, l6, l7, l8, l9, l10, l11] [vi s0, vi s1, vo s2, vo (some (o, 1, z))] h = (call 102 [vo (some (o, 1, z)), vo s2, vi s1, vi s0] h).bind (fun z => run 3 302 44 [l0, l1, l2, l3, l4, l5, l6, l7, l8, l9, l10, l11] (z.1.toList ++ []) z.2)) ∧
  (∀ (l0 l1 l2 l3 l4 l5 l6 l7 l8 l9 l10 l11 : Option AV) (s0 : Int32) (s1 : Int32) (s2 : Option Rf) (o z : Nat) (h : Hp), run 3 302 41 [l0, l1, l2, l3, l4, l5, l6, l7, l8, l9, l10, l11] [vi s0, vi s1, vo s2, vo (some (o, 6, z))] h = (call 602 [vo (some (o, 6, z)), vo s2, vi s1, vi s0] h).bind (fun z => run 3 302 44 [l0, l1, l2, l3, l4, l5, l6, l7, l8, l9, l10, l11] (z.1.toList ++ []) z.2)) ∧
  (∀ (l0 l1 l2 l3 l5 l6 l7 l8 l9 l10 l11 : Option AV) (s0 : Int32) (h : Hp), run 3 302 44 [l0, l1, l2, l3, none, l5, l6, l7, l8, l9, l10, l11] [vi s0] h = run 3 302 46 [l0, l1, l2, l3, none, some (vi s0), l6, l7, l8, l9, l10, l11] [] h) ∧
  (∀ (l0 l1 l2 l3 l5 l6 l7 l8 l9 l10 l11 : Option AV) (s0 : Int32) (w1 : Int32) (h : Hp), run 3 302 44 [l0, l1, l2, l3, some (vi w1), l5, l6, l7, l8, l9, l10, l11] [vi s0] h = run 3 302 46 [l0, l1, l2, l3, some (vi w1), some (vi s0), l6, l7, l8, l9, l10, l11] [] h) ∧
  (∀ (l0 l1 l2 l3 l5 l6 l7 l8 l9 l10 l11 : Option AV) (s0 : Int32) (w1 : Option Rf) (h : Hp), run 3 302 44 [l0, l1, l2, l3, some (vo w1), l5, l6, l7, l8, l9, l10, l11] [vi s0] h = run 3 302 46 [l0, l1, l2, l3, some (vo w1), some (vi s0), l6, l7, l8, l9, l10, l11] [] h) ∧
  (∀ (l0 l2 l3 l4 l5 l6 l7 l8 l9 l10 l11 : Option AV) (w : Option Rf) (h : Hp), run 3 302 46 [l0, some (vo w), l2, l3, l4, l5, l6, l7, l8, l9, l10, l11] [] h = run 3 302 47 [l0, some (vo w), l2, l3, l4, l5, l6, l7, l8, l9, l10, l11] [vo w] h) ∧
  (∀ (l0 l1 l3 l4 l5 l6 l7 l8 l9 l10 l11 : Option AV) (s0 : Option Rf) (w : Int32) (h : Hp), run 3 302 47 [l0, l1, some (vi w), l3, l4, l5, l6, l7, l8, l9, l10, l11] [vo s0] h = run 3 302 48 [l0, l1, some (vi w), l3, l4, l5, l6, l7, l8, l9, l10, l11] [vi w, vo s0] h) ∧
  (∀ (l0 l1 l2 l4 l5 l6 l7 l8 l9 l10 l11 : Option AV) (s0 : Int32) (s1 : Option Rf) (w : Int32) (h : Hp), run 3 302 48 [l0, l1, l2, some (vi w), l4, l5, l6, l7, l8, l9, l10, l11] [vi s0, vo s1] h = run 3 302 49 [l0, l1, l2, some (vi w), l4, l5, l6, l7, l8, l9, l10, l11] [vi w, vi s0, vo s1] h) ∧
  (∀ (l0 l1 l2 l3 l4 l5 l6 l7 l8 l9 l10 l11 : Option AV) (s0 : Int32) (s1 : Int32) (o z : Nat) (h : Hp), run 3 302 49 [l0, l1, l2, l3, l4, l5, l6, l7, l8, l9, l10, l11] [vi s0, vi s1, vo (some (o, 10, z))] h = (call 1006 [vo (some (o, 10, z)), vi s1, vi s0] h).bind (fun z => run 3 302 52 [l0, l1, l2, l3, l4, l5, l6, l7, l8, l9, l10, l11] (z.1.toList ++ []) z.2)) ∧
  (∀ (l0 l1 l2 l3 l4 l6 l7 l8 l9 l10 l11 : Option AV) (s0 : Int32) (h : Hp), run 3 302 52 [l0, l1, l2, l3, l4, none, l6, l7, l8, l9, l10, l11] [vi s0] h = run 3 302 54 [l0, l1, l2, l3, l4, none, some (vi s0), l7, l8, l9, l10, l11] [] h) ∧
  (∀ (l0 l1 l2 l3 l4 l6 l7 l8 l9 l10 l11 : Option AV) (s0 : Int32) (w1 : Int32) (h : Hp), run 3 302 52 [l0, l1, l2, l3, l4, some (vi w1), l6, l7, l8, l9, l10, l11] [vi s0] h = run 3 302 54 [l0, l1, l2, l3, l4, some (vi w1), some (vi s0), l7, l8, l9, l10, l11] [] h) ∧
  (∀ (l0 l1 l2 l3 l4 l6 l7 l8 l9 l10 l11 : Option AV) (s0 : Int32) (w1 : Option Rf) (h : Hp), run 3 302 52 [l0, l1, l2, l3, l4, some (vo w1), l6, l7, l8, l9, l10, l11] [vi s0] h = run 3 302 54 [l0, l1, l2, l3, l4, some (vo w1), some (vi s0), l7, l8, l9, l10, l11] [] h) ∧
  (∀ (l0 l1 l2 l3 l4 l5 l6 l7 l8 l9 l10 l11 : Option AV) (h : Hp), run 3 302 54 [l0, l1, l2, l3, l4, l5, l6, l7, l8, l9, l10, l11] [] h = run 3 302 55 [l0, l1, l2, l3, l4, l5, l6, l7, l8, l9, l10, l11] [vi (4 : Int32)] h) ∧
  (∀ (l0 l1 l2 l3 l4 l5 l7 l8 l9 l10 l11 : Option AV) (s0 : Int32) (h : Hp), run 3 302 55 [l0, l1, l2, l3, l4, l5, none, l7, l8, l9, l10, l11] [vi s0] h = run 3 302 57 [l0, l1, l2, l3, l4, l5, none, some (vi s0), l8, l9, l10, l11] [] h) ∧
  (∀ (l0 l1 l2 l3 l4 l5 l7 l8 l9 l10 l11 : Option AV) (s0 : Int32) (w1 : Int32) (h : Hp), run 3 302 55 [l0, l1, l2, l3, l4, l5, some (vi w1), l7, l8, l9, l10, l11] [vi s0] h = run 3 302 57 [l0, l1, l2, l3, l4, l5, some (vi w1), some (vi s0), l8, l9, l10, l11] [] h) ∧
  (∀ (l0 l1 l2 l3 l4 l5 l7 l8 l9 l10 l11 : Option AV) (s0 : Int32) (w1 : Option Rf) (h : Hp), run 3 302 55 [l0, l1, l2, l3, l4, l5, some (vo w1), l7, l8, l9, l10, l11] [vi s0] h = run 3 302 57 [l0, l1, l2, l3, l4, l5, some (vo w1), some (vi s0), l8, l9, l10, l11] [] h) ∧
  (∀ (l0 l1 l2 l3 l4 l5 l6 l7 l8 l9 l10 l11 : Option AV) (h : Hp), run 3 302 57 [l0, l1, l2, l3, l4, l5, l6, l7, l8, l9, l10, l11] [] h = run 3 302 59 [l0, l1, l2, l3, l4, l5, l6, l7, l8, l9, l10, l11] [vi (2147483647 : Int32)] h) ∧
  (∀ (l0 l1 l2 l3 l4 l5 l6 l8 l9 l10 l11 : Option AV) (s0 : Int32) (h : Hp), run 3 302 59 [l0, l1, l2, l3, l4, l5, l6, none, l8, l9, l10, l11] [vi s0] h = run 3 302 61 [l0, l1, l2, l3, l4, l5, l6, none, some (vi s0), l9, l10, l11] [] h) ∧
  (∀ (l0 l1 l2 l3 l4 l5 l6 l8 l9 l10 l11 : Option AV) (s0 : Int32) (w1 : Int32) (h : Hp), run 3 302 59 [l0, l1, l2, l3, l4, l5, l6, some (vi w1), l8, l9, l10, l11] [vi s0] h = run 3 302 61 [l0, l1, l2, l3, l4, l5, l6, some (vi w1), some (vi s0), l9, l10, l11] [] h) ∧
  (∀ (l0 l1 l2 l3 l4 l5 l6 l8 l9 l10 l11 : Option AV) (s0 : Int32) (w1 : Option Rf) (h : Hp), run 3 302 59 [l0, l1, l2, l3, l4, l5, l6, some (vo w1), l8, l9, l10, l11] [vi s0] h = run 3 302 61 [l0, l1, l2, l3, l4, l5, l6, some (vo w1), some (vi s0), l9, l10, l11] [] h) ∧
  (∀ (l0 l1 l2 l3 l4 l5 l6 l7 l8 l9 l10 l11 : Option AV) (h : Hp), run 3 302 61 [l0, l1, l2, l3, l4, l5, l6, l7, l8, l9, l10, l11] [] h = run 3 302 62 [l0, l1, l2, l3, l4, l5, l6, l7, l8, l9, l10, l11] [vi (0 : Int32)] h) ∧
  (∀ (l0 l1 l2 l3 l4 l5 l6 l7 l9 l10 l11 : Option AV) (s0 : Int32) (h : Hp), run 3 302 62 [l0, l1, l2, l3, l4, l5, l6, l7, none, l9, l10, l11] [vi s0] h = run 3 302 64 [l0, l1, l2, l3, l4, l5, l6, l7, none, some (vi s0), l10, l11] [] h) ∧
  (∀ (l0 l1 l2 l3 l4 l5 l6 l7 l9 l10 l11 : Option AV) (s0 : Int32) (w1 : Int32) (h : Hp), run 3 302 62 [l0, l1, l2, l3, l4, l5, l6, l7, some (vi w1), l9, l10, l11] [vi s0] h = run 3 302 64 [l0, l1, l2, l3, l4, l5, l6, l7, some (vi w1), some (vi s0), l10, l11] [] h) ∧
  (∀ (l0 l1 l2 l3 l4 l5 l6 l7 l9 l10 l11 : Option AV) (s0 : Int32) (w1 : Option Rf) (h : Hp), run 3 302 62 [l0, l1, l2, l3, l4, l5, l6, l7, some (vo w1), l9, l10, l11] [vi s0] h = run 3 302 64 [l0, l1, l2, l3, l4, l5, l6, l7, some (vo w1), some (vi s0), l10, l11] [] h) ∧
  (∀ (l0 l1 l2 l3 l4 l5 l6 l7 l8 l9 l10 l11 : Option AV) (s0 : Int32) (h : Hp), run 3 302 66 [l0, l1, l2, l3, l4, l5, l6, l7, l8, l9, l10, l11] [vi s0] h = run 3 302 67 [l0, l1, l2, l3, l4, l5, l6, l7, l8, l9, l10, l11] [vi (5 : Int32), vi s0] h) ∧
  (∀ (l0 l1 l2 l3 l4 l5 l6 l7 l8 l9 l10 l11 : Option AV) (s0 : Int32) (s1 : Int32) (h : Hp), run 3 302 67 [l0, l1, l2, l3, l4, l5, l6, l7, l8, l9, l10, l11] [vi s0, vi s1] h = if s0 ≤ s1 then run 3 302 124 [l0, l1, l2, l3, l4, l5, l6, l7, l8, l9, l10, l11] [] h else run 3 302 70 [l0, l1, l2, l3, l4, l5, l6, l7, l8, l9, l10, l11] [] h) ∧
  (∀ (l0 l2 l3 l4 l5 l6 l7 l8 l9 l10 l11 : Option AV) (w : Option Rf) (h : Hp), run 3 302 70 [l0, some (vo w), l2, l3, l4, l5, l6, l7, l8, l9, l10, l11] [] h = run 3 302 71 [l0, some (vo w), l2, l3, l4, l5, l6, l7, l8, l9, l10, l11] [vo w] h) ∧
  (∀ (l0 l1 l2 l3 l4 l5 l6 l7 l8 l9 l10 l11 : Option AV) (o z : Nat) (h : Hp), run 3 302 71 [l0, l1, l2, l3, l4, l5, l6, l7, l8, l9, l10, l11] [vo (some (o, 10, z))] h = run 3 302 74 [l0, l1, l2, l3, l4, l5, l6, l7, l8, l9, l10, l11] [vo (hR h o 0)] h) ∧
  (∀ (l0 l1 l2 l3 l4 l5 l7 l8 l9 l10 l11 : Option AV) (s0 : Option Rf) (w : Int32) (h : Hp), run 3 302 74 [l0, l1, l2, l3, l4, l5, some (vi w), l7, l8, l9, l10, l11] [vo s0] h = run 3 302 76 [l0, l1, l2, l3, l4, l5, some (vi w), l7, l8, l9, l10, l11] [vi w, vo s0] h) ∧
  (∀ (l0 l1 l2 l3 l4 l5 l6 l7 l8 l10 l11 : Option AV) (s0 : Int32) (s1 : Option Rf) (w : Int32) (h : Hp), run 3 302 76 [l0, l1, l2, l3, l4, l5, l6, l7, l8, some (vi w), l10, l11] [vi s0, vo s1] h = run 3 302 78 [l0, l1, l2, l3, l4, l5, l6, l7, l8, some (vi w), l10, l11] [vi w, vi s0, vo s1] h) ∧
  (∀ (l0 l1 l2 l3 l4 l5 l6 l7 l8 l9 l10 l11 : Option AV) (s0 : Int32) (s1 : Int32) (o z : Nat) (h : Hp), run 3 302 78 [l0, l1, l2, l3, l4, l5, l6, l7, l8, l9, l10, l11] [vi s0, vi s1, vo (some (o, 5, z))] h = (call 506 [vo (some (o, 5, z)), vi s1, vi s0] h).bind (fun z => run 3 302 81 [l0, l1, l2, l3, l4, l5, l6, l7, l8, l9, l10, l11] (z.1.toList ++ []) z.2)) ∧
  (∀ (l0 l1 l2 l3 l4 l5 l6 l7 l8 l10 l11 : Option AV) (s0 : Int32) (h : Hp), run 3 302 81 [l0, l1, l2, l3, l4, l5, l6, l7, l8, none, l10, l11] [vi s0] h = run 3 302 83 [l0, l1, l2, l3, l4, l5, l6, l7, l8, none, some (vi s0), l11] [] h) ∧
  (∀ (l0 l1 l2 l3 l4 l5 l6 l7 l8 l10 l11 : Option AV) (s0 : Int32) (w1 : Int32) (h : Hp), run 3 302 81 [l0, l1, l2, l3, l4, l5, l6, l7, l8, some (vi w1), l10, l11] [vi s0] h = run 3 302 83 [l0, l1, l2, l3, l4, l5, l6, l7, l8, some (vi w1), some (vi s0), l11] [] h) ∧
  (∀ (l0 l1 l2 l3 l4 l5 l6 l7 l8 l10 l11 : Option AV) (s0 : Int32) (w1 : Option Rf) (h : Hp), run 3 302 81 [l0, l1, l2, l3, l4, l5, l6, l7, l8, some (vo w1), l10, l11] [vi s0] h = run 3 302 83 [l0, l1, l2, l3, l4, l5, l6, l7, l8, some (vo w1), some (vi s0), l11] [] h) ∧
  (∀ (l0 l1 l2 l3 l4 l5 l6 l7 l8 l9 l11 : Option AV) (w : Int32) (h : Hp), run 3 302 83 [l0, l1, l2, l3, l4, l5, l6, l7, l8, l9, some (vi w), l11] [] h = run 3 302 85 [l0, l1, l2, l3, l4, l5, l6, l7, l8, l9, some (vi w), l11] [vi w] h) ∧
  (∀ (l0 l1 l2 l3 l4 l5 l6 l7 l8 l9 l10 l11 : Option AV) (s0 : Int32) (h : Hp), run 3 302 85 [l0, l1, l2, l3, l4, l5, l6, l7, l8, l9, l10, l11] [vi s0] h = run 3 302 87 [l0, l1, l2, l3, l4, l5, l6, l7, l8, l9, l10, l11] [vi (-9 : Int32), vi s0] h) ∧
  (∀ (l0 l1 l2 l3 l4 l5 l6 l7 l8 l9 l10 l11 : Option AV) (s0 : Int32) (s1 : Int32) (h : Hp), run 3 302 87 [l0, l1, l2, l3, l4, l5, l6, l7, l8, l9, l10, l11] [vi s0, vi s1] h = if s1 = s0 then run 3 302 118 [l0, l1, l2, l3, l4, l5, l6, l7, l8, l9, l10, l11] [] h else run 3 302 90 [l0, l1, l2, l3, l4, l5, l6, l7, l8, l9, l10, l11] [] h) ∧
  (∀ (l0 l2 l3 l4 l5 l6 l7 l8 l9 l10 l11 : Option AV) (w : Option Rf) (h : Hp), run 3 302 90 [l0, some (vo w), l2, l3, l4, l5, l6, l7, l8, l9, l10, l11] [] h = run 3 302 91 [l0, some (vo w), l2, l3, l4, l5, l6, l7, l8, l9, l10, l11] [vo w] h) ∧
  (∀ (l0 l1 l2 l3 l4 l5 l6 l7 l8 l9 l10 l11 : Option AV) (o z : Nat) (h : Hp), run 3 302 91 [l0, l1, l2, l3, l4, l5, l6, l7, l8, l9, l10, l11] [vo (some (o, 10, z))] h = run 3 302 94 [l0, l1, l2, l3, l4, l5, l6, l7, l8, l9, l10, l11] [vo (hR h o 0)] h) ∧
  (∀ (l0 l1 l2 l3 l4 l5 l6 l7 l8 l9 l11 : Option AV) (s0 : Option Rf) (w : Int32) (h : Hp), run 3 302 94 [l0, l1, l2, l3, l4, l5, l6, l7, l8, l9, some (vi w), l11] [vo s0] h = run 3 302 96 [l0, l1, l2, l3, l4, l5, l6, l7, l8, l9, some (vi w), l11] [vi w, vo s0] h) ∧
  (∀ (l0 l1 l2 l3 l4 l6 l7 l8 l9 l10 l11 : Option AV) (s0 : Int32) (s1 : Option Rf) (w : Int32) (h : Hp), run 3 302 96 [l0, l1, l2, l3, l4, some (vi w), l6, l7, l8, l9, l10, l11] [vi s0, vo s1] h = run 3 302 98 [l0, l1, l2, l3, l4, some (vi w), l6, l7, l8, l9, l10, l11] [vi w, vi s0, vo s1] h) ∧
  (∀ (l0 l1 l2 l3 l4 l5 l6 l7 l8 l9 l10 l11 : Option AV) (s0 : Int32) (s1 : Int32) (o z : Nat) (h : Hp), run 3 302 98 [l0, l1, l2, l3, l4, l5, l6, l7, l8, l9, l10, l11] [vi s0, vi s1, vo (some (o, 5, z))] h = (call 508 [vo (some (o, 5, z)), vi s1, vi s0] h).bind (fun z => run 3 302 101 [l0, l1, l2, l3, l4, l5, l6, l7, l8, l9, l10, l11] (z.1.toList ++ []) z.2)) ∧
  (∀ (l0 l1 l2 l3 l4 l5 l6 l7 l8 l9 l11 : Option AV) (s0 : Int32) (h : Hp), run 3 302 101 [l0, l1, l2, l3, l4, l5, l6, l7, l8, l9, none, l11] [vi s0] h = run 3 302 103 [l0, l1, l2, l3, l4, l5, l6, l7, l8, l9, none, some (vi s0)] [] h) ∧
  (∀ (l0 l1 l2 l3 l4 l5 l6 l7 l8 l9 l11 : Option AV) (s0 : Int32) (w1 : Int32) (h : Hp), run 3 302 101 [l0, l1, l2, l3, l4, l5, l6, l7, l8, l9, some (vi w1), l11] [vi s0] h = run 3 302 103 [l0, l1, l2, l3, l4, l5, l6, l7, l8, l9, some (vi w1), some (vi s0)] [] h) ∧
  (∀ (l0 l1 l2 l3 l4 l5 l6 l7 l8 l9 l11 : Option AV) (s0 : Int32) (w1 : Option Rf) (h : Hp), run 3 302 101 [l0, l1, l2, l3, l4, l5, l6, l7, l8, l9, some (vo w1), l11] [vi s0] h = run 3 302 103 [l0, l1, l2, l3, l4, l5, l6, l7, l8, l9, some (vo w1), some (vi s0)] [] h) ∧
  (∀ (l0 l1 l2 l3 l4 l5 l6 l7 l8 l9 l10 : Option AV) (w : Int32) (h : Hp), run 3 302 103 [l0, l1, l2, l3, l4, l5, l6, l7, l8, l9, l10, some (vi w)] [] h = run 3 302 105 [l0, l1, l2, l3, l4, l5, l6, l7, l8, l9, l10, some (vi w)] [vi w] h) ∧
  (∀ (l0 l1 l2 l3 l4 l5 l6 l7 l9 l10 l11 : Option AV) (s0 : Int32) (w : Int32) (h : Hp), run 3 302 105 [l0, l1, l2, l3, l4, l5, l6, l7, some (vi w), l9, l10, l11] [vi s0] h = run 3 302 107 [l0, l1, l2, l3, l4, l5, l6, l7, some (vi w), l9, l10, l11] [vi w, vi s0] h) ∧
  (∀ (l0 l1 l2 l3 l4 l5 l6 l7 l8 l9 l10 l11 : Option AV) (s0 : Int32) (s1 : Int32) (h : Hp), run 3 302 107 [l0, l1, l2, l3, l4, l5, l6, l7, l8, l9, l10, l11] [vi s0, vi s1] h = if s0 ≤ s1 then run 3 302 118 [l0, l1, l2, l3, l4, l5, l6, l7, l8, l9, l10, l11] [] h else run 3 302 110 [l0, l1, l2, l3, l4, l5, l6, l7, l8, l9, l10, l11] [] h) ∧
  (∀ (l0 l1 l2 l3 l4 l5 l6 l7 l8 l10 l11 : Option AV) (w : Int32) (h : Hp), run 3 302 110 [l0, l1, l2, l3, l4, l5, l6, l7, l8, some (vi w), l10, l11] [] h = run 3 302 112 [l0, l1, l2, l3, l4, l5, l6, l7, l8, some (vi w), l10, l11] [vi w] h) ∧
  (∀ (l0 l1 l2 l3 l4 l5 l7 l8 l9 l10 l11 : Option AV) (s0 : Int32) (h : Hp), run 3 302 112 [l0, l1, l2, l3, l4, l5, none, l7, l8, l9, l10, l11] [vi s0] h = run 3 302 114 [l0, l1, l2, l3, l4, l5, none, some (vi s0), l8, l9, l10, l11] [] h) ∧
  (∀ (l0 l1 l2 l3 l4 l5 l7 l8 l9 l10 l11 : Option AV) (s0 : Int32) (w1 : Int32) (h : Hp), run 3 302 112 [l0, l1, l2, l3, l4, l5, some (vi w1), l7, l8, l9, l10, l11] [vi s0] h = run 3 302 114 [l0, l1, l2, l3, l4, l5, some (vi w1), some (vi s0), l8, l9, l10, l11] [] h) ∧
  (∀ (l0 l1 l2 l3 l4 l5 l7 l8 l9 l10 l11 : Option AV) (s0 : Int32) (w1 : Option Rf) (h : Hp), run 3 302 112 [l0, l1, l2, l3, l4, l5, some (vo w1), l7, l8, l9, l10, l11] [vi s0] h = run 3 302 114 [l0, l1, l2, l3, l4, l5, some (vo w1), some (vi s0), l8, l9, l10, l11] [] h) ∧
  (∀ (l0 l1 l2 l3 l4 l5 l6 l7 l8 l9 l10 : Option AV) (w : Int32) (h : Hp), run 3 302 114 [l0, l1, l2, l3, l4, l5, l6, l7, l8, l9, l10, some (vi w)] [] h = run 3 302 116 [l0, l1, l2, l3, l4, l5, l6, l7, l8, l9, l10, some (vi w)] [vi w] h) ∧
  (∀ (l0 l1 l2 l3 l4 l5 l6 l8 l9 l10 l11 : Option AV) (s0 : Int32) (h : Hp), run 3 302 116 [l0, l1, l2, l3, l4, l5, l6, none, l8, l9, l10, l11] [vi s0] h = run 3 302 118 [l0, l1, l2, l3, l4, l5, l6, none, some (vi s0), l9, l10, l11] [] h) ∧
  (∀ (l0 l1 l2 l3 l4 l5 l6 l8 l9 l10 l11 : Option AV) (s0 : Int32) (w1 : Int32) (h : Hp), run 3 302 116 [l0, l1, l2, l3, l4, l5, l6, some (vi w1), l8, l9, l10, l11] [vi s0] h = run 3 302 118 [l0, l1, l2, l3, l4, l5, l6, some (vi w1), some (vi s0), l9, l10, l11] [] h) ∧
  (∀ (l0 l1 l2 l3 l4 l5 l6 l8 l9 l10 l11 : Option AV) (s0 : Int32) (w1 : Option Rf) (h : Hp), run 3 302 116 [l0, l1, l2, l3, l4, l5, l6, some (vo w1), l8, l9, l10, l11] [vi s0] h = run 3 302 118 [l0, l1, l2, l3, l4, l5, l6, some (vo w1), some (vi s0), l9, l10, l11] [] h) ∧
  (∀ (l0 l1 l2 l3 l4 l5 l6 l7 l10 l11 : Option AV) (w : Int32) (h : Hp), run 3 302 118 [l0, l1, l2, l3, l4, l5, l6, l7, none, some (vi w), l10, l11] [] h = run 3 302 121 [l0, l1, l2, l3, l4, l5, l6, l7, none, some (vi (w + (1 : Int32))), l10, l11] [] h) ∧
  (∀ (l0 l1 l2 l3 l4 l5 l6 l7 l10 l11 : Option AV) (w1 : Int32) (w : Int32) (h : Hp), run 3 302 118 [l0, l1, l2, l3, l4, l5, l6, l7, some (vi w1), some (vi w), l10, l11] [] h = run 3 302 121 [l0, l1, l2, l3, l4, l5, l6, l7, some (vi w1), some (vi (w + (1 : Int32))), l10, l11] [] h) ∧
  (∀ (l0 l1 l2 l3 l4 l5 l6 l7 l10 l11 : Option AV) (w1 : Option Rf) (w : Int32) (h : Hp), run 3 302 118 [l0, l1, l2, l3, l4, l5, l6, l7, some (vo w1), some (vi w), l10, l11] [] h = run 3 302 121 [l0, l1, l2, l3, l4, l5, l6, l7, some (vo w1), some (vi (w + (1 : Int32))), l10, l11] [] h) ∧
  (∀ (l0 l1 l2 l3 l4 l5 l6 l7 l8 l9 l10 l11 : Option AV) (h : Hp), run 3 302 121 [l0, l1, l2, l3, l4, l5, l6, l7, l8, l9, l10, l11] [] h = run 3 302 64 [l0, l1, l2, l3, l4, l5, l6, l7, l8, l9, l10, l11] [] h) ∧
  (∀ (l0 l1 l2 l3 l4 l5 l6 l8 l9 l10 l11 : Option AV) (w : Int32) (h : Hp), run 3 302 124 [l0, l1, l2, l3, l4, l5, l6, some (vi w), l8, l9, l10, l11] [] h = run 3 302 126 [l0, l1, l2, l3, l4, l5, l6, some (vi w), l8, l9, l10, l11] [vi w] h) ∧
  (∀ (l0 l1 l2 l3 l4 l5 l6 l7 l8 l9 l10 l11 : Option AV) (s0 : Int32) (h : Hp), run 3 302 126 [l0, l1, l2, l3, l4, l5, l6, l7, l8, l9, l10, l11] [vi s0] h = some (some (vi s0), h)) := ⟨(fun _ _ _ _ _ _ _ _ _ _ _ _ _ => run_next rfl rfl),
  (fun _ _ _ _ _ _ _ _ _ _ _ _ _ _ _ => run_next rfl rfl),
  (fun _ _ _ _ _ _ _ _ _ _ _ _ s0 _ => run_if rfl rfl (run_next rfl) (run_next rfl)),
  (fun _ _ _ _ _ _ _ _ _ _ _ _ _ => run_next rfl rfl),
  (fun _ _ _ _ _ _ _ _ _ _ _ _ _ _ _ => run_next rfl rfl),
  (fun _ _ _ _ _ _ _ _ _ _ _ _ _ _ _ => run_next rfl rfl),
  (fun _ _ _ _ _ _ _ _ _ _ _ _ _ _ _ => run_next rfl rfl),
  (fun _ _ _ _ _ _ _ _ _ _ _ _ _ _ _ => run_next rfl rfl),
  (fun _ _ _ _ _ _ _ _ _ _ _ _ _ _ _ => run_next rfl rfl),
  (fun _ _ _ _ _ _ _ _ _ _ _ _ _ _ _ => run_next rfl rfl),
  (fun _ _ _ _ _ _ _ _ _ _ _ s0 _ _ => run_next rfl rfl),
  (fun _ _ _ _ _ _ _ _ _ _ _ _ _ _ _ _ => run_next rfl rfl),
  (fun _ _ _ _ _ _ _ _ _ _ _ _ s0 _ _ => run_if rfl rfl (run_fail rfl) (run_next rfl)),
  (fun _ _ _ _ _ _ _ _ _ _ _ _ s0 _ => run_next rfl rfl),
  (fun _ _ _ _ _ _ _ _ _ _ _ _ _ => run_next rfl rfl),
  (fun _ _ _ _ _ _ _ _ _ _ _ s0 _ => run_next rfl rfl),
  (fun _ _ _ _ _ _ _ _ _ _ _ s0 _ _ => run_next rfl rfl),
  (fun _ _ _ _ _ _ _ _ _ _ _ s0 _ _ => run_next rfl rfl),
  (fun _ _ _ _ _ _ _ _ _ _ _ _ _ => run_next rfl rfl),
  (fun _ _ _ _ _ _ _ _ _ _ _ s0 _ _ => run_next rfl rfl),
  (fun _ _ _ _ _ _ _ _ _ _ _ _ s0 _ _ => run_if rfl rfl (run_next rfl) (run_next rfl)),
  (fun _ _ _ _ _ _ _ _ _ _ _ _ _ => run_next rfl rfl),
  (fun _ _ _ _ _ _ _ _ _ _ _ s0 _ _ => run_next rfl rfl),
  (fun _ _ _ _ _ _ _ _ _ _ _ s0 _ _ _ => run_next rfl rfl),
  (fun _ _ _ _ _ _ _ _ _ _ _ s0 _ _ _ _ => run_next rfl rfl),
  (fun _ _ _ _ _ _ _ _ _ _ _ _ s0 _ _ _ _ _ => run_calx rfl rfl (Nat.le_of_ble_eq_true rfl) (Nat.le_of_ble_eq_true rfl) rfl),
  (fun _ _ _ _ _ _ _ _ _ _ _ _ s0 _ _ _ _ _ => run_calx rfl rfl (Nat.le_of_ble_eq_true rfl) (Nat.le_of_ble_eq_true rfl) rfl),
  (fun _ _ _ _ _ _ _ _ _ _ _ _ s0 _ _ _ _ _ => run_calx rfl rfl (Nat.le_of_ble_eq_true rfl) (Nat.le_of_ble_eq_true rfl) rfl),
  (fun _ _ _ _ _ _ _ _ _ _ _ _ s0 _ => run_ret rfl rfl),
  (fun _ _ _ _ _ _ _ _ _ _ _ _ _ => run_next rfl rfl),
  (fun _ _ _ _ _ _ _ _ _ _ _ s0 _ _ => run_next rfl rfl),
  (fun _ _ _ _ _ _ _ _ _ _ _ s0 _ _ _ => run_next rfl rfl),
  (fun _ _ _ _ _ _ _ _ _ _ _ s0 _ _ _ _ => run_next rfl rfl),
  (fun _ _ _ _ _ _ _ _ _ _ _ _ s0 _ _ _ _ _ => run_calx rfl rfl (Nat.le_of_ble_eq_true rfl) (Nat.le_of_ble_eq_true rfl) rfl),
  (fun _ _ _ _ _ _ _ _ _ _ _ _ s0 _ _ _ _ _ => run_calx rfl rfl (Nat.le_of_ble_eq_true rfl) (Nat.le_of_ble_eq_true rfl) rfl),
  (fun _ _ _ _ _ _ _ _ _ _ _ _ s0 _ _ _ _ _ => run_calx rfl rfl (Nat.le_of_ble_eq_true rfl) (Nat.le_of_ble_eq_true rfl) rfl),
  (fun _ _ _ _ _ _ _ _ _ _ _ s0 _ => run_next rfl rfl),
  (fun _ _ _ _ _ _ _ _ _ _ _ s0 _ _ => run_next rfl rfl),
  (fun _ _ _ _ _ _ _ _ _ _ _ s0 _ _ => run_next rfl rfl),
  (fun _ _ _ _ _ _ _ _ _ _ _ _ _ => run_next rfl rfl),
  (fun _ _ _ _ _ _ _ _ _ _ _ s0 _ _ => run_next rfl rfl),
  (fun _ _ _ _ _ _ _ _ _ _ _ s0 _ _ _ => run_next rfl rfl),
  (fun _ _ _ _ _ _ _ _ _ _ _ _ s0 _ _ _ _ => run_calx rfl rfl (Nat.le_of_ble_eq_true rfl) (Nat.le_of_ble_eq_true rfl) rfl),
  (fun _ _ _ _ _ _ _ _ _ _ _ s0 _ => run_next rfl rfl),
  (fun _ _ _ _ _ _ _ _ _ _ _ s0 _ _ => run_next rfl rfl),
  (fun _ _ _ _ _ _ _ _ _ _ _ s0 _ _ => run_next rfl rfl),
  (fun _ _ _ _ _ _ _ _ _ _ _ _ _ => run_next rfl rfl),
  (fun _ _ _ _ _ _ _ _ _ _ _ s0 _ => run_next rfl rfl),
  (fun _ _ _ _ _ _ _ _ _ _ _ s0 _ _ => run_next rfl rfl),
  (fun _ _ _ _ _ _ _ _ _ _ _ s0 _ _ => run_next rfl rfl),
  (fun _ _ _ _ _ _ _ _ _ _ _ _ _ => run_next rfl rfl),
  (fun _ _ _ _ _ _ _ _ _ _ _ s0 _ => run_next rfl rfl),
  (fun _ _ _ _ _ _ _ _ _ _ _ s0 _ _ => run_next rfl rfl),
  (fun _ _ _ _ _ _ _ _ _ _ _ s0 _ _ => run_next rfl rfl),
  (fun _ _ _ _ _ _ _ _ _ _ _ _ _ => run_next rfl rfl),
  (fun _ _ _ _ _ _ _ _ _ _ _ s0 _ => run_next rfl rfl),
  (fun _ _ _ _ _ _ _ _ _ _ _ s0 _ _ => run_next rfl rfl),
  (fun _ _ _ _ _ _ _ _ _ _ _ s0 _ _ => run_next rfl rfl),
  (fun _ _ _ _ _ _ _ _ _ _ _ _ s0 _ => run_next rfl rfl),
  (fun _ _ _ _ _ _ _ _ _ _ _ _ s0 _ _ => run_if rfl rfl (run_next rfl) (run_next rfl)),
  (fun _ _ _ _ _ _ _ _ _ _ _ _ _ => run_next rfl rfl),
  (fun _ _ _ _ _ _ _ _ _ _ _ _ _ _ _ => run_next rfl rfl),
  (fun _ _ _ _ _ _ _ _ _ _ _ s0 _ _ => run_next rfl rfl),
  (fun _ _ _ _ _ _ _ _ _ _ _ s0 _ _ _ => run_next rfl rfl),
  (fun _ _ _ _ _ _ _ _ _ _ _ _ s0 _ _ _ _ => run_calx rfl rfl (Nat.le_of_ble_eq_true rfl) (Nat.le_of_ble_eq_true rfl) rfl),
  (fun _ _ _ _ _ _ _ _ _ _ _ s0 _ => run_next rfl rfl),
  (fun _ _ _ _ _ _ _ _ _ _ _ s0 _ _ => run_next rfl rfl),
  (fun _ _ _ _ _ _ _ _ _ _ _ s0 _ _ => run_next rfl rfl),
  (fun _ _ _ _ _ _ _ _ _ _ _ _ _ => run_next rfl rfl),
  (fun _ _ _ _ _ _ _ _ _ _ _ _ s0 _ => run_next rfl rfl),
  (fun _ _ _ _ _ _ _ _ _ _ _ _ s0 _ _ => run_if rfl rfl (run_next rfl) (run_next rfl)),
  (fun _ _ _ _ _ _ _ _ _ _ _ _ _ => run_next rfl rfl),
  (fun _ _ _ _ _ _ _ _ _ _ _ _ _ _ _ => run_next rfl rfl),
  (fun _ _ _ _ _ _ _ _ _ _ _ s0 _ _ => run_next rfl rfl),
  (fun _ _ _ _ _ _ _ _ _ _ _ s0 _ _ _ => run_next rfl rfl),
  (fun _ _ _ _ _ _ _ _ _ _ _ _ s0 _ _ _ _ => run_calx rfl rfl (Nat.le_of_ble_eq_true rfl) (Nat.le_of_ble_eq_true rfl) rfl),
  (fun _ _ _ _ _ _ _ _ _ _ _ s0 _ => run_next rfl rfl),
  (fun _ _ _ _ _ _ _ _ _ _ _ s0 _ _ => run_next rfl rfl),
  (fun _ _ _ _ _ _ _ _ _ _ _ s0 _ _ => run_next rfl rfl),
  (fun _ _ _ _ _ _ _ _ _ _ _ _ _ => run_next rfl rfl),
  (fun _ _ _ _ _ _ _ _ _ _ _ s0 _ _ => run_next rfl rfl),
  (fun _ _ _ _ _ _ _ _ _ _ _ _ s0 _ _ => run_if rfl rfl (run_next rfl) (run_next rfl)),
  (fun _ _ _ _ _ _ _ _ _ _ _ _ _ => run_next rfl rfl),
  (fun _ _ _ _ _ _ _ _ _ _ _ s0 _ => run_next rfl rfl),
  (fun _ _ _ _ _ _ _ _ _ _ _ s0 _ _ => run_next rfl rfl),
  (fun _ _ _ _ _ _ _ _ _ _ _ s0 _ _ => run_next rfl rfl),
  (fun _ _ _ _ _ _ _ _ _ _ _ _ _ => run_next rfl rfl),
  (fun _ _ _ _ _ _ _ _ _ _ _ s0 _ => run_next rfl rfl),
  (fun _ _ _ _ _ _ _ _ _ _ _ s0 _ _ => run_next rfl rfl),
  (fun _ _ _ _ _ _ _ _ _ _ _ s0 _ _ => run_next rfl rfl),
  (fun _ _ _ _ _ _ _ _ _ _ _ _ => run_next rfl rfl),
  (fun _ _ _ _ _ _ _ _ _ _ _ _ _ => run_next rfl rfl),
  (fun _ _ _ _ _ _ _ _ _ _ _ _ _ => run_next rfl rfl),
  (fun _ _ _ _ _ _ _ _ _ _ _ _ _ => run_next rfl rfl),
  (fun _ _ _ _ _ _ _ _ _ _ _ _ _ => run_next rfl rfl),
  (fun _ _ _ _ _ _ _ _ _ _ _ _ s0 _ => run_ret rfl rfl)⟩
set_option maxRecDepth 20000 in
theorem x_302_64 : (∀ (l0 l1 l2 l3 l4 l5 l6 l7 l8 l10 l11 : Option AV) (w : Int32) (h : Hp), run 3 302 64 [l0, l1, l2, l3, l4, l5, l6, l7, l8, some (vi w), l10, l11] [] h = run 3 302 66 [l0, l1, l2, l3, l4, l5, l6, l7, l8, some (vi w), l10, l11] [vi w] h) := (fun _ _ _ _ _ _ _ _ _ _ _ _ _ => run_next rfl rfl)
theorem e_302 (v : Option Rf) (a0 : Option Rf) (a1 : Int32) (a2 : Int32) (h : Hp) : call 302 [vo v, vo a0, vi a1, vi a2] h = run 3 302 0 [some (vo v), some (vo a0), some (vi a1), some (vi a2), none, none, none, none, none, none, none, none] [] h := rfl
set_option maxRecDepth 20000 in
theorem x_303 : (∀ (l0 l2 l3 : Option AV) (w : Option Rf) (h : Hp), run 2 303 0 [l0, some (vo w), l2, l3] [] h = run 2 303 1 [l0, some (vo w), l2, l3] [vo w] h) ∧
  (∀ (l0 l1 l3 : Option AV) (s0 : Option Rf) (w : Int32) (h : Hp), run 2 303 1 [l0, l1, some (vi w), l3] [vo s0] h = run 2 303 2 [l0, l1, some (vi w), l3] [vi w, vo s0] h) ∧
  (∀ (l0 l1 l2 : Option AV) (s0 : Int32) (s1 : Option Rf) (w : Int32) (h : Hp), run 2 303 2 [l0, l1, l2, some (vi w)] [vi s0, vo s1] h = run 2 303 3 [l0, l1, l2, some (vi w)] [vi w, vi s0, vo s1] h) ∧
  (∀ (l0 l1 l2 l3 : Option AV) (s0 : Int32) (s1 : Int32) (o z : Nat) (h : Hp), run 2 303 3 [l0, l1, l2, l3] [vi s0, vi s1, vo (some (o, 10, z))] h = (call 1007 [vo (some (o, 10, z)), vi s1, vi s0] h).bind (fun z => run 2 303 6 [l0, l1, l2, l3] (z.1.toList ++ []) z.2)) ∧
  (∀ (l0 l1 l2 l3 : Option AV) (s0 : Int32) (h : Hp), run 2 303 6 [l0, l1, l2, l3] [vi s0] h = some (some (vi s0), h)) := ⟨(fun _ _ _ _ _ => run_next rfl rfl),
  (fun _ _ _ s0 _ _ => run_next rfl rfl),
  (fun _ _ _ s0 _ _ _ => run_next rfl rfl),
  (fun _ _ _ _ s0 _ _ _ _ => run_calx rfl rfl (Nat.le_of_ble_eq_true rfl) (Nat.le_of_ble_eq_true rfl) rfl),
  (fun _ _ _ _ s0 _ => run_ret rfl rfl)⟩
theorem e_303 (v : Option Rf) (a0 : Option Rf) (a1 : Int32) (a2 : Int32) (h : Hp) : call 303 [vo v, vo a0, vi a1, vi a2] h = run 2 303 0 [some (vo v), some (vo a0), some (vi a1), some (vi a2)] [] h := rfl
set_option maxRecDepth 20000 in
theorem x_600 : (∀ (l1 l2 : Option AV) (w : Option Rf) (h : Hp), run 2 600 0 [some (vo w), l1, l2] [] h = run 2 600 1 [some (vo w), l1, l2] [vo w] h) ∧
  (∀ (l0 l2 : Option AV) (s0 : Option Rf) (w : Int32) (h : Hp), run 2 600 1 [l0, some (vi w), l2] [vo s0] h = run 2 600 2 [l0, some (vi w), l2] [vi w, vo s0] h) ∧
  (∀ (l0 l1 : Option AV) (s0 : Int32) (s1 : Option Rf) (w : Option Rf) (h : Hp), run 2 600 2 [l0, l1, some (vo w)] [vi s0, vo s1] h = run 2 600 3 [l0, l1, some (vo w)] [vo w, vi s0, vo s1] h) ∧
  (∀ (l0 l1 l2 : Option AV) (s0 : Option Rf) (s1 : Int32) (o z : Nat) (h : Hp), run 2 600 3 [l0, l1, l2] [vo s0, vi s1, vo (some (o, 3, z))] h = (call 300 [vo (some (o, 3, z)), vi s1, vo s0] h).bind (fun z => run 2 600 6 [l0, l1, l2] (z.1.toList ++ []) z.2)) ∧
  (∀ (l0 l1 l2 : Option AV) (s0 : Option Rf) (s1 : Int32) (o z : Nat) (h : Hp), run 2 600 3 [l0, l1, l2] [vo s0, vi s1, vo (some (o, 1, z))] h = (call 300 [vo (some (o, 1, z)), vi s1, vo s0] h).bind (fun z => run 2 600 6 [l0, l1, l2] (z.1.toList ++ []) z.2)) ∧
  (∀ (l0 l1 l2 : Option AV) (s0 : Option Rf) (s1 : Int32) (o z : Nat) (h : Hp), run 2 600 3 [l0, l1, l2] [vo s0, vi s1, vo (some (o, 6, z))] h = (call 300 [vo (some (o, 6, z)), vi s1, vo s0] h).bind (fun z => run 2 600 6 [l0, l1, l2] (z.1.toList ++ []) z.2)) ∧
  (∀ (l0 l1 l2 : Option AV) (h : Hp), run 2 600 6 [l0, l1, l2] [] h = some (none, h)) := ⟨(fun _ _ _ _ => run_next rfl rfl),
  (fun _ _ s0 _ _ => run_next rfl rfl),
  (fun _ _ s0 _ _ _ => run_next rfl rfl),
  (fun _ _ _ s0 _ _ _ _ => run_calx rfl rfl (Nat.le_of_ble_eq_true rfl) (Nat.le_of_ble_eq_true rfl) rfl),
  (fun _ _ _ s0 _ _ _ _ => run_calx rfl rfl (Nat.le_of_ble_eq_true rfl) (Nat.le_of_ble_eq_true rfl) rfl),
  (fun _ _ _ s0 _ _ _ _ => run_calx rfl rfl (Nat.le_of_ble_eq_true rfl) (Nat.le_of_ble_eq_true rfl) rfl),
  (fun _ _ _ _ => run_ret rfl rfl)⟩
theorem e_600 (v : Option Rf) (a0 : Int32) (a1 : Option Rf) (h : Hp) : call 600 [vo v, vi a0, vo a1] h = run 2 600 0 [some (vo v), some (vi a0), some (vo a1)] [] h := rfl
set_option maxRecDepth 20000 in
theorem x_601 : (∀ (l0 : Option AV) (h : Hp), run 0 601 0 [l0] [] h = run 0 601 1 [l0] [vi (5 : Int32)] h) ∧
  (∀ (l0 : Option AV) (s0 : Int32) (h : Hp), run 0 601 1 [l0] [vi s0] h = some (some (vi s0), h)) := ⟨(fun _ _ => run_next rfl rfl),
  (fun _ s0 _ => run_ret rfl rfl)⟩
theorem e_601 (v : Option Rf) (h : Hp) : call 601 [vo v] h = run 0 601 0 [some (vo v)] [] h := rfl
set_option maxRecDepth 20000 in
theorem x_602 : (∀ (l0 l2 l3 : Option AV) (w : Option Rf) (h : Hp), run 2 602 0 [l0, some (vo w), l2, l3] [] h = run 2 602 1 [l0, some (vo w), l2, l3] [vo w] h) ∧
  (∀ (l0 l1 l2 l3 : Option AV) (o z : Nat) (h : Hp), run 2 602 1 [l0, l1, l2, l3] [vo (some (o, 10, z))] h = run 2 602 4 [l0, l1, l2, l3] [vo (hR h o 0)] h) ∧
  (∀ (l0 l2 l3 : Option AV) (s0 : Option Rf) (w : Option Rf) (h : Hp), run 2 602 4 [l0, some (vo w), l2, l3] [vo s0] h = run 2 602 5 [l0, some (vo w), l2, l3] [vo w, vo s0] h) ∧
  (∀ (l0 l1 l3 : Option AV) (s0 : Option Rf) (s1 : Option Rf) (w : Int32) (h : Hp), run 2 602 5 [l0, l1, some (vi w), l3] [vo s0, vo s1] h = run 2 602 6 [l0, l1, some (vi w), l3] [vi w, vo s0, vo s1] h) ∧
  (∀ (l0 l1 l2 : Option AV) (s0 : Int32) (s1 : Option Rf) (s2 : Option Rf) (w : Int32) (h : Hp), run 2 602 6 [l0, l1, l2, some (vi w)] [vi s0, vo s1, vo s2] h = run 2 602 7 [l0, l1, l2, some (vi w)] [vi w, vi s0, vo s1, vo s2] h) ∧
  (∀ (l0 l1 l2 l3 : Option AV) (s0 : Int32) (s1 : Int32) (s2 : Option Rf) (s3 : Option Rf) (h : Hp), run 2 602 7 [l0, l1, l2, l3] [vi s0, vi s1, vo s2, vo s3] h = run 2 602 8 [l0, l1, l2, l3] [vi (1 : Int32), vi s0, vi s1, vo s2, vo s3] h) ∧
  (∀ (l0 l1 l2 l3 : Option AV) (s0 : Int32) (s1 : Int32) (s2 : Int32) (s3 : Option Rf) (s4 : Option Rf) (h : Hp), run 2 602 8 [l0, l1, l2, l3] [vi s0, vi s1, vi s2, vo s3, vo s4] h = run 2 602 9 [l0, l1, l2, l3] [vi (s1 - s0), vi s2, vo s3, vo s4] h) ∧
  (∀ (l0 l1 l2 l3 : Option AV) (s0 : Int32) (s1 : Int32) (s3 : Option Rf) (o z : Nat) (h : Hp), run 2 602 9 [l0, l1, l2, l3] [vi s0, vi s1, vo (some (o, 10, z)), vo s3] h = (call 1007 [vo (some (o, 10, z)), vi s1, vi s0] h).bind (fun z => run 2 602 12 [l0, l1, l2, l3] (z.1.toList ++ [vo s3]) z.2)) ∧
  (∀ (l0 l2 l3 : Option AV) (s0 : Int32) (s1 : Option Rf) (w : Option Rf) (h : Hp), run 2 602 12 [l0, some (vo w), l2, l3] [vi s0, vo s1] h = run 2 602 13 [l0, some (vo w), l2, l3] [vo w, vi s0, vo s1] h) ∧
  (∀ (l0 l1 l3 : Option AV) (s0 : Option Rf) (s1 : Int32) (s2 : Option Rf) (w : Int32) (h : Hp), run 2 602 13 [l0, l1, some (vi w), l3] [vo s0, vi s1, vo s2] h = run 2 602 14 [l0, l1, some (vi w), l3] [vi w, vo s0, vi s1, vo s2] h) ∧
  (∀ (l0 l1 l2 : Option AV) (s0 : Int32) (s1 : Option Rf) (s2 : Int32) (s3 : Option Rf) (w : Int32) (h : Hp), run 2 602 14 [l0, l1, l2, some (vi w)] [vi s0, vo s1, vi s2, vo s3] h = run 2 602 15 [l0, l1, l2, some (vi w)] [vi w, vi s0, vo s1, vi s2, vo s3] h) ∧
  (∀ (l0 l1 l2 l3 : Option AV) (s0 : Int32) (s1 : Int32) (s3 : Int32) (s4 : Option Rf) (o z : Nat) (h : Hp), run 2 602 15 [l0, l1, l2, l3] [vi s0, vi s1, vo (some (o, 10, z)), vi s3, vo s4] h = (call 1007 [vo (some (o, 10, z)), vi s1, vi s0] h).bind (fun z => run 2 602 18 [l0, l1, l2, l3] (z.1.toList ++ [vi s3, vo s4]) z.2)) ∧
  (∀ (l0 l2 l3 : Option AV) (s0 : Int32) (s1 : Int32) (s2 : Option Rf) (w : Option Rf) (h : Hp), run 2 602 18 [l0, some (vo w), l2, l3] [vi s0, vi s1, vo s2] h = run 2 602 19 [l0, some (vo w), l2, l3] [vo w, vi s0, vi s1, vo s2] h) ∧
  (∀ (l0 l1 l2 l3 : Option AV) (s1 : Int32) (s2 : Int32) (s3 : Option Rf) (o z : Nat) (h : Hp), run 2 602 19 [l0, l1, l2, l3] [vo (some (o, 10, z)), vi s1, vi s2, vo s3] h = run 2 602 22 [l0, l1, l2, l3] [vi (hI h o 1), vi s1, vi s2, vo s3] h) ∧
  (∀ (l0 l1 l2 l3 : Option AV) (s0 : Int32) (s1 : Int32) (s2 : Int32) (o z : Nat) (h : Hp), run 2 602 22 [l0, l1, l2, l3] [vi s0, vi s1, vi s2, vo (some (o, 5, z))] h = (call 509 [vo (some (o, 5, z)), vi s2, vi s1, vi s0] h).bind (fun z => run 2 602 25 [l0, l1, l2, l3] (z.1.toList ++ []) z.2)) ∧
  (∀ (l0 l1 l2 l3 : Option AV) (s0 : Int32) (h : Hp), run 2 602 25 [l0, l1, l2, l3] [vi s0] h = some (some (vi s0), h)) := ⟨(fun _ _ _ _ _ => run_next rfl rfl),
  (fun _ _ _ _ _ _ _ => run_next rfl rfl),
  (fun _ _ _ s0 _ _ => run_next rfl rfl),
  (fun _ _ _ s0 _ _ _ => run_next rfl rfl),
  (fun _ _ _ s0 _ _ _ _ => run_next rfl rfl),
  (fun _ _ _ _ s0 _ _ _ _ => run_next rfl rfl),
  (fun _ _ _ _ s0 _ _ _ _ _ => run_next rfl rfl),
  (fun _ _ _ _ s0 _ _ _ _ _ => run_calx rfl rfl (Nat.le_of_ble_eq_true rfl) (Nat.le_of_ble_eq_true rfl) rfl),
  (fun _ _ _ s0 _ _ _ => run_next rfl rfl),
  (fun _ _ _ s0 _ _ _ _ => run_next rfl rfl),
  (fun _ _ _ s0 _ _ _ _ _ => run_next rfl rfl),
  (fun _ _ _ _ s0 _ _ _ _ _ _ => run_calx rfl rfl (Nat.le_of_ble_eq_true rfl) (Nat.le_of_ble_eq_true rfl) rfl),
  (fun _ _ _ s0 _ _ _ _ => run_next rfl rfl),
  (fun _ _ _ _ _ _ _ _ _ _ => run_next rfl rfl),
  (fun _ _ _ _ s0 _ _ _ _ _ => run_calx rfl rfl (Nat.le_of_ble_eq_true rfl) (Nat.le_of_ble_eq_true rfl) rfl),
  (fun _ _ _ _ s0 _ => run_ret rfl rfl)⟩
theorem e_602 (v : Option Rf) (a0 : Option Rf) (a1 : Int32) (a2 : Int32) (h : Hp) : call 602 [vo v, vo a0, vi a1, vi a2] h = run 2 602 0 [some (vo v), some (vo a0), some (vi a1), some (vi a2)] [] h := rfl
set_option maxRecDepth 20000 in
theorem x_800 : (∀ (l1 l2 : Option AV) (w : Option Rf) (h : Hp), run 1 800 0 [some (vo w), l1, l2] [] h = run 1 800 1 [some (vo w), l1, l2] [vo w] h) ∧
  (∀ (l0 l2 : Option AV) (s0 : Option Rf) (w : Int32) (h : Hp), run 1 800 1 [l0, some (vi w), l2] [vo s0] h = run 1 800 2 [l0, some (vi w), l2] [vi w, vo s0] h) ∧
  (∀ (l0 l1 : Option AV) (s0 : Int32) (s1 : Option Rf) (w : Option Rf) (h : Hp), run 1 800 2 [l0, l1, some (vo w)] [vi s0, vo s1] h = run 1 800 3 [l0, l1, some (vo w)] [vo w, vi s0, vo s1] h) ∧
  (∀ (l0 l1 l2 : Option AV) (s0 : Option Rf) (s1 : Int32) (o z : Nat) (h : Hp), run 1 800 3 [l0, l1, l2] [vo s0, vi s1, vo (some (o, 9, z))] h = (call 900 [vo (some (o, 9, z)), vi s1, vo s0] h).bind (fun z => run 1 800 6 [l0, l1, l2] (z.1.toList ++ []) z.2)) ∧
  (∀ (l0 l1 l2 : Option AV) (s0 : Option Rf) (s1 : Int32) (o z : Nat) (h : Hp), run 1 800 3 [l0, l1, l2] [vo s0, vi s1, vo (some (o, 3, z))] h = (call 900 [vo (some (o, 3, z)), vi s1, vo s0] h).bind (fun z => run 1 800 6 [l0, l1, l2] (z.1.toList ++ []) z.2)) ∧
  (∀ (l0 l1 l2 : Option AV) (s0 : Option Rf) (s1 : Int32) (o z : Nat) (h : Hp), run 1 800 3 [l0, l1, l2] [vo s0, vi s1, vo (some (o, 2, z))] h = (call 900 [vo (some (o, 2, z)), vi s1, vo s0] h).bind (fun z => run 1 800 6 [l0, l1, l2] (z.1.toList ++ []) z.2)) ∧
  (∀ (l0 l1 l2 : Option AV) (s0 : Option Rf) (s1 : Int32) (o z : Nat) (h : Hp), run 1 800 3 [l0, l1, l2] [vo s0, vi s1, vo (some (o, 1, z))] h = (call 900 [vo (some (o, 1, z)), vi s1, vo s0] h).bind (fun z => run 1 800 6 [l0, l1, l2] (z.1.toList ++ []) z.2)) ∧
  (∀ (l0 l1 l2 : Option AV) (s0 : Option Rf) (s1 : Int32) (o z : Nat) (h : Hp), run 1 800 3 [l0, l1, l2] [vo s0, vi s1, vo (some (o, 8, z))] h = (call 900 [vo (some (o, 8, z)), vi s1, vo s0] h).bind (fun z => run 1 800 6 [l0, l1, l2] (z.1.toList ++ []) z.2)) ∧
  (∀ (l0 l1 l2 : Option AV) (s0 : Option Rf) (s1 : Int32) (o z : Nat) (h : Hp), run 1 800 3 [l0, l1, l2] [vo s0, vi s1, vo (some (o, 6, z))] h = (call 900 [vo (some (o, 6, z)), vi s1, vo s0] h).bind (fun z => run 1 800 6 [l0, l1, l2] (z.1.toList ++ []) z.2)) ∧
  (∀ (l0 l1 l2 : Option AV) (h : Hp), run 1 800 6 [l0, l1, l2] [] h = some (none, h)) := ⟨(fun _ _ _ _ => run_next rfl rfl),
  (fun _ _ s0 _ _ => run_next rfl rfl),
  (fun _ _ s0 _ _ _ => run_next rfl rfl),
  (fun _ _ _ s0 _ _ _ _ => run_calx rfl rfl (Nat.le_of_ble_eq_true rfl) (Nat.le_of_ble_eq_true rfl) rfl),
  (fun _ _ _ s0 _ _ _ _ => run_calx rfl rfl (Nat.le_of_ble_eq_true rfl) (Nat.le_of_ble_eq_true rfl) rfl),
  (fun _ _ _ s0 _ _ _ _ => run_calx rfl rfl (Nat.le_of_ble_eq_true rfl) (Nat.le_of_ble_eq_true rfl) rfl),
  (fun _ _ _ s0 _ _ _ _ => run_calx rfl rfl (Nat.le_of_ble_eq_true rfl) (Nat.le_of_ble_eq_true rfl) rfl),
  (fun _ _ _ s0 _ _ _ _ => run_calx rfl rfl (Nat.le_of_ble_eq_true rfl) (Nat.le_of_ble_eq_true rfl) rfl),
  (fun _ _ _ s0 _ _ _ _ => run_calx rfl rfl (Nat.le_of_ble_eq_true rfl) (Nat.le_of_ble_eq_true rfl) rfl),
  (fun _ _ _ _ => run_ret rfl rfl)⟩
theorem e_800 (v : Option Rf) (a0 : Int32) (a1 : Option Rf) (h : Hp) : call 800 [vo v, vi a0, vo a1] h = run 1 800 0 [some (vo v), some (vi a0), some (vo a1)] [] h := rfl
set_option maxRecDepth 20000 in
theorem x_801 : (∀ (l0 : Option AV) (h : Hp), run 0 801 0 [l0] [] h = run 0 801 1 [l0] [vi (4 : Int32)] h) ∧
  (∀ (l0 : Option AV) (s0 : Int32) (h : Hp), run 0 801 1 [l0] [vi s0] h = some (some (vi s0), h)) := ⟨(fun _ _ => run_next rfl rfl),
  (fun _ s0 _ => run_ret rfl rfl)⟩
theorem e_801 (v : Option Rf) (h : Hp) : call 801 [vo v] h = run 0 801 0 [some (vo v)] [] h := rfl
set_option maxRecDepth 20000 in
theorem x_802 : (∀ (l0 l1 l2 l3 : Option AV) (h : Hp), run 0 802 0 [l0, l1, l2, l3] [] h = run 0 802 1 [l0, l1, l2, l3] [vi (4 : Int32)] h) ∧
  (∀ (l0 l1 l2 l3 : Option AV) (s0 : Int32) (h : Hp), run 0 802 1 [l0, l1, l2, l3] [vi s0] h = some (some (vi s0), h)) := ⟨(fun _ _ _ _ _ => run_next rfl rfl),
  (fun _ _ _ _ s0 _ => run_ret rfl rfl)⟩
theorem e_802 (v : Option Rf) (a0 : Option Rf) (a1 : Int32) (a2 : Int32) (h : Hp) : call 802 [vo v, vo a0, vi a1, vi a2] h = run 0 802 0 [some (vo v), some (vo a0), some (vi a1), some (vi a2)] [] h := rfl
set_option maxRecDepth 20000 in
theorem x_900 : (∀ (l1 l2 : Option AV) (w : Option Rf) (h : Hp), run 0 900 0 [some (vo w), l1, l2] [] h = run 0 900 1 [some (vo w), l1, l2] [vo w] h) ∧
  (∀ (l0 l1 l2 : Option AV) (w : Rf) (h : Hp), run 0 900 1 [l0, l1, l2] [vo (some w)] h = run 0 900 4 [l0, l1, l2] [] h) ∧
  (∀ (l1 l2 : Option AV) (w : Option Rf) (h : Hp), run 0 900 4 [some (vo w), l1, l2] [] h = run 0 900 5 [some (vo w), l1, l2] [vo w] h) ∧
  (∀ (l0 l2 : Option AV) (s0 : Option Rf) (w : Int32) (h : Hp), run 0 900 5 [l0, some (vi w), l2] [vo s0] h = run 0 900 6 [l0, some (vi w), l2] [vi w, vo s0] h) ∧
  (∀ (l0 l1 l2 : Option AV) (s0 : Int32) (o z : Nat) (h : Hp), run 0 900 6 [l0, l1, l2] [vi s0, vo (some (o, 9, z))] h = run 0 900 9 [l0, l1, l2] [] (hsI h o 0 s0)) ∧
  (∀ (l0 l1 l2 : Option AV) (s0 : Int32) (o z : Nat) (h : Hp), run 0 900 6 [l0, l1, l2] [vi s0, vo (some (o, 3, z))] h = run 0 900 9 [l0, l1, l2] [] (hsI h o 0 s0)) ∧
  (∀ (l0 l1 l2 : Option AV) (s0 : Int32) (o z : Nat) (h : Hp), run 0 900 6 [l0, l1, l2] [vi s0, vo (some (o, 2, z))] h = run 0 900 9 [l0, l1, l2] [] (hsI h o 0 s0)) ∧
  (∀ (l0 l1 l2 : Option AV) (s0 : Int32) (o z : Nat) (h : Hp), run 0 900 6 [l0, l1, l2] [vi s0, vo (some (o, 1, z))] h = run 0 900 9 [l0, l1, l2] [] (hsI h o 0 s0)) ∧
  (∀ (l0 l1 l2 : Option AV) (s0 : Int32) (o z : Nat) (h : Hp), run 0 900 6 [l0, l1, l2] [vi s0, vo (some (o, 8, z))] h = run 0 900 9 [l0, l1, l2] [] (hsI h o 0 s0)) ∧
  (∀ (l0 l1 l2 : Option AV) (s0 : Int32) (o z : Nat) (h : Hp), run 0 900 6 [l0, l1, l2] [vi s0, vo (some (o, 6, z))] h = run 0 900 9 [l0, l1, l2] [] (hsI h o 0 s0)) ∧
  (∀ (l1 l2 : Option AV) (w : Option Rf) (h : Hp), run 0 900 9 [some (vo w), l1, l2] [] h = run 0 900 10 [some (vo w), l1, l2] [vo w] h) ∧
  (∀ (l0 l1 : Option AV) (s0 : Option Rf) (w : Option Rf) (h : Hp), run 0 900 10 [l0, l1, some (vo w)] [vo s0] h = run 0 900 11 [l0, l1, some (vo w)] [vo w, vo s0] h) ∧
  (∀ (l0 l1 l2 : Option AV) (s0 : Option Rf) (o z : Nat) (h : Hp), run 0 900 11 [l0, l1, l2] [vo s0, vo (some (o, 9, z))] h = run 0 900 14 [l0, l1, l2] [] (hsR h o 1 s0)) ∧
  (∀ (l0 l1 l2 : Option AV) (s0 : Option Rf) (o z : Nat) (h : Hp), run 0 900 11 [l0, l1, l2] [vo s0, vo (some (o, 3, z))] h = run 0 900 14 [l0, l1, l2] [] (hsR h o 1 s0)) ∧
  (∀ (l0 l1 l2 : Option AV) (s0 : Option Rf) (o z : Nat) (h : Hp), run 0 900 11 [l0, l1, l2] [vo s0, vo (some (o, 2, z))] h = run 0 900 14 [l0, l1, l2] [] (hsR h o 1 s0)) ∧
  (∀ (l0 l1 l2 : Option AV) (s0 : Option Rf) (o z : Nat) (h : Hp), run 0 900 11 [l0, l1, l2] [vo s0, vo (some (o, 1, z))] h = run 0 900 14 [l0, l1, l2] [] (hsR h o 1 s0)) ∧
  (∀ (l0 l1 l2 : Option AV) (s0 : Option Rf) (o z : Nat) (h : Hp), run 0 900 11 [l0, l1, l2] [vo s0, vo (some (o, 8, z))] h = run 0 900 14 [l0, l1, l2] [] (hsR h o 1 s0)) ∧
  (∀ (l0 l1 l2 : Option AV) (s0 : Option Rf) (o z : Nat) (h : Hp), run 0 900 11 [l0, l1, l2] [vo s0, vo (some (o, 6, z))] h = run 0 900 14 [l0, l1, l2] [] (hsR h o 1 s0)) ∧
  (∀ (l0 l1 l2 : Option AV) (h : Hp), run 0 900 14 [l0, l1, l2] [] h = some (none, h)) := ⟨(fun _ _ _ _ => run_next rfl rfl),
  (fun _ _ _ _ _ => run_next rfl rfl),
  (fun _ _ _ _ => run_next rfl rfl),
  (fun _ _ s0 _ _ => run_next rfl rfl),
  (fun _ _ _ s0 _ _ _ => run_next rfl rfl),
  (fun _ _ _ s0 _ _ _ => run_next rfl rfl),
  (fun _ _ _ s0 _ _ _ => run_next rfl rfl),
  (fun _ _ _ s0 _ _ _ => run_next rfl rfl),
  (fun _ _ _ s0 _ _ _ => run_next rfl rfl),
  (fun _ _ _ s0 _ _ _ => run_next rfl rfl),
  (fun _ _ _ _ => run_next rfl rfl),
  (fun _ _ s0 _ _ => run_next rfl rfl),
  (fun _ _ _ s0 _ _ _ => run_next rfl rfl),
  (fun _ _ _ s0 _ _ _ => run_next rfl rfl),
  (fun _ _ _ s0 _ _ _ => run_next rfl rfl),
  (fun _ _ _ s0 _ _ _ => run_next rfl rfl),
  (fun _ _ _ s0 _ _ _ => run_next rfl rfl),
  (fun _ _ _ s0 _ _ _ => run_next rfl rfl),
  (fun _ _ _ _ => run_ret rfl rfl)⟩
theorem e_900 (v : Option Rf) (a0 : Int32) (a1 : Option Rf) (h : Hp) : call 900 [vo v, vi a0, vo a1] h = run 0 900 0 [some (vo v), some (vi a0), some (vo a1)] [] h := rfl
set_option maxRecDepth 20000 in
theorem x_901 : (∀ (l1 l2 : Option AV) (w : Int32) (h : Hp), run 3 901 0 [some (vi w), l1, l2] [] h = run 3 901 1 [some (vi w), l1, l2] [vi w] h) ∧
  (∀ (l0 l1 l2 : Option AV) (s0 : Int32) (h : Hp), run 3 901 1 [l0, l1, l2] [vi s0] h = if s0 = 0 then run 3 901 40 [l0, l1, l2] [] h else if s0 = 1 then run 3 901 50 [l0, l1, l2] [] h else if s0 = 2 then run 3 901 60 [l0, l1, l2] [] h else if s0 = 3 then run 3 901 70 [l0, l1, l2] [] h else if s0 = 4 then run 3 901 80 [l0, l1, l2] [] h else if s0 = 5 then run 3 901 90 [l0, l1, l2] [] h else run 3 901 100 [l0, l1, l2] [] h) ∧
  (∀ (l0 l1 l2 : Option AV) (h : Hp), run 3 901 40 [l0, l1, l2] [] h = run 3 901 43 [l0, l1, l2] [vo (some (h.1.1, 9, 0))] (hmk h 2)) ∧
  (∀ (l0 l1 l2 : Option AV) (s0 : Option Rf) (h : Hp), run 3 901 43 [l0, l1, l2] [vo s0] h = run 3 901 44 [l0, l1, l2] [vo s0, vo s0] h) ∧
  (∀ (l0 l2 : Option AV) (s0 : Option Rf) (s1 : Option Rf) (w : Int32) (h : Hp), run 3 901 44 [l0, some (vi w), l2] [vo s0, vo s1] h = run 3 901 45 [l0, some (vi w), l2] [vi w, vo s0, vo s1] h) ∧
  (∀ (l0 l1 : Option AV) (s0 : Int32) (s1 : Option Rf) (s2 : Option Rf) (w : Option Rf) (h : Hp), run 3 901 45 [l0, l1, some (vo w)] [vi s0, vo s1, vo s2] h = run 3 901 46 [l0, l1, some (vo w)] [vo w, vi s0, vo s1, vo s2] h) ∧
  (∀ (l0 l1 l2 : Option AV) (s0 : Option Rf) (s1 : Int32) (s3 : Option Rf) (o z : Nat) (h : Hp), run 3 901 46 [l0, l1, l2] [vo s0, vi s1, vo (some (o, 9, z)), vo s3] h = (call 900 [vo (some (o, 9, z)), vi s1, vo s0] h).bind (fun z => run 3 901 49 [l0, l1, l2] (z.1.toList ++ [vo s3]) z.2)) ∧
  (∀ (l0 l1 l2 : Option AV) (s0 : Option Rf) (s1 : Int32) (s3 : Option Rf) (o z : Nat) (h : Hp), run 3 901 46 [l0, l1, l2] [vo s0, vi s1, vo (some (o, 3, z)), vo s3] h = (call 900 [vo (some (o, 3, z)), vi s1, vo s0] h).bind (fun z => run 3 901 49 [l0, l1, l2] (z.1.toList ++ [vo s3]) z.2)) ∧
  (∀ (l0 l1 l2 : Option AV) (s0 : Option Rf) (s1 : Int32) (s3 : Option Rf) (o z : Nat) (h : Hp), run 3 901 46 [l0, l1, l2] [vo s0, vi s1, vo (some (o, 2, z)), vo s3] h = (call 900 [vo (some (o, 2, z)), vi s1, vo s0] h).bind (fun z => run 3 901 49 [l0, l1, l2] (z.1.toList ++ [vo s3]) z.2)) ∧
  (∀ (l0 l1 l2 : Option AV) (s0 : Option Rf) (s1 : Int32) (s3 : Option Rf) (o z : Nat) (h : Hp), run 3 901 46 [l0, l1, l2] [vo s0, vi s1, vo (some (o, 1, z)), vo s3] h = (call 900 [vo (some (o, 1, z)), vi s1, vo s0] h).bind (fun z => run 3 901 49 [l0, l1, l2] (z.1.toList ++ [vo s3]) z.2)) ∧
  (∀ (l0 l1 l2 : Option AV) (s0 : Option Rf) (s1 : Int32) (s3 : Option Rf) (o z : Nat) (h : Hp), run 3 901 46 [l0, l1, l2] [vo s0, vi s1, vo (some (o, 8, z)), vo s3] h = (call 900 [vo (some (o, 8, z)), vi s1, vo s0] h).bind (fun z => run 3 901 49 [l0, l1, l2] (z.1.toList ++ [vo s3]) z.2)) ∧
  (∀ (l0 l1 l2 : Option AV) (s0 : Option Rf) (s1 : Int32) (s3 : Option Rf) (o z : Nat) (h : Hp), run 3 901 46 [l0, l1, l2] [vo s0, vi s1, vo (some (o, 6, z)), vo s3] h = (call 900 [vo (some (o, 6, z)), vi s1, vo s0] h).bind (fun z => run 3 901 49 [l0, l1, l2] (z.1.toList ++ [vo s3]) z.2)) ∧
  (∀ (l0 l1 l2 : Option AV) (s0 : Option Rf) (h : Hp), run 3 901 49 [l0, l1, l2] [vo s0] h = some (some (vo s0), h)) ∧
  (∀ (l0 l1 l2 : Option AV) (h : Hp), run 3 901 50 [l0, l1, l2] [] h = run 3 901 53 [l0, l1, l2] [vo (some (h.1.1, 3, 0))] (hmk h 2)) ∧
  (∀ (l0 l1 l2 : Option AV) (s0 : Option Rf) (h : Hp), run 3 901 53 [l0, l1, l2] [vo s0] h = run 3 901 54 [l0, l1, l2] [vo s0, vo s0] h) ∧
  (∀ (l0 l2 : Option AV) (s0 : Option Rf) (s1 : Option Rf) (w : Int32) (h : Hp), run 3 901 54 [l0, some (vi w), l2] [vo s0, vo s1] h = run 3 901 55 [l0, some (vi w), l2] [vi w, vo s0, vo s1] h) ∧
  (∀ (l0 l1 : Option AV) (s0 : Int32) (s1 : Option Rf) (s2 : Option Rf) (w : Option Rf) (h : Hp), run 3 901 55 [l0, l1, some (vo w)] [vi s0, vo s1, vo s2] h = run 3 901 56 [l0, l1, some (vo w)] [vo w, vi s0, vo s1, vo s2] h) ∧
  (∀ (l0 l1 l2 : Option AV) (s0 : Option Rf) (s1 : Int32) (s3 : Option Rf) (o z : Nat) (h : Hp), run 3 901 56 [l0, l1, l2] [vo s0, vi s1, vo (some (o, 3, z)), vo s3] h = (call 300 [vo (some (o, 3, z)), vi s1, vo s0] h).bind (fun z => run 3 901 59 [l0, l1, l2] (z.1.toList ++ [vo s3]) z.2)) ∧
  (∀ (l0 l1 l2 : Option AV) (s0 : Option Rf) (s1 : Int32) (s3 : Option Rf) (o z : Nat) (h : Hp), run 3 901 56 [l0, l1, l2] [vo s0, vi s1, vo (some (o, 1, z)), vo s3] h = (call 300 [vo (some (o, 1, z)), vi s1, vo s0] h).bind (fun z => run 3 901 59 [l0, l1, l2] (z.1.toList ++ [vo s3]) z.2)) ∧
  (∀ (l0 l1 l2 : Option AV) (s0 : Option Rf) (s1 : Int32) (s3 : Option Rf) (o z : Nat) (h : Hp), run 3 901 56 [l0, l1, l2] [vo s0, vi s1, vo (some (o, 6, z)), vo s3] h = (call 300 [vo (some (o, 6, z)), vi s1, vo s0] h).bind (fun z => run 3 901 59 [l0, l1, l2] (z.1.toList ++ [vo s3]) z.2)) ∧
  (∀ (l0 l1 l2 : Option AV) (s0 : Option Rf) (h : Hp), run 3 901 59 [l0, l1, l2] [vo s0] h = some (some (vo s0), h)) ∧
  (∀ (l0 l1 l2 : Option AV) (h : Hp), run 3 901 60 [l0, l1, l2] [] h = run 3 901 63 [l0, l1, l2] [vo (some (h.1.1, 2, 0))] (hmk h 2)) ∧
  (∀ (l0 l1 l2 : Option AV) (s0 : Option Rf) (h : Hp), run 3 901 63 [l0, l1, l2] [vo s0] h = run 3 901 64 [l0, l1, l2] [vo s0, vo s0] h) ∧
  (∀ (l0 l2 : Option AV) (s0 : Option Rf) (s1 : Option Rf) (w : Int32) (h : Hp), run 3 901 64 [l0, some (vi w), l2] [vo s0, vo s1] h = run 3 901 65 [l0, some (vi w), l2] [vi w, vo s0, vo s1] h) ∧
  (∀ (l0 l1 : Option AV) (s0 : Int32) (s1 : Option Rf) (s2 : Option Rf) (w : Option Rf) (h : Hp), run 3 901 65 [l0, l1, some (vo w)] [vi s0, vo s1, vo s2] h = run 3 901 66 [l0, l1, some (vo w)] [vo w, vi s0, vo s1, vo s2] h) ∧
  (∀ (l0 l1 l2 : Option AV) (s0 : Option Rf) (s1 : Int32) (s3 : Option Rf) (o z : Nat) (h : Hp), run 3 901 66 [l0, l1, l2] [vo s0, vi s1, vo (some (o, 2, z)), vo s3] h = (call 200 [vo (some (o, 2, z)), vi s1, vo s0] h).bind (fun z => run 3 901 69 [l0, l1, l2] (z.1.toList ++ [vo s3]) z.2)) ∧
  (∀ (l0 l1 l2 : Option AV) (s0 : Option Rf) (h : Hp), run 3 901 69 [l0, l1, l2] [vo s0] h = some (some (vo s0), h)) ∧
  (∀ (l0 l1 l2 : Option AV) (h : Hp), run 3 901 70 [l0, l1, l2] [] h = run 3 901 73 [l0, l1, l2] [vo (some (h.1.1, 1, 0))] (hmk h 2)) ∧
  (∀ (l0 l1 l2 : Option AV) (s0 : Option Rf) (h : Hp), run 3 901 73 [l0, l1, l2] [vo s0] h = run 3 901 74 [l0, l1, l2] [vo s0, vo s0] h) ∧
  (∀ (l0 l2 : Option AV) (s0 : Option Rf) (s1 : Option Rf) (w : Int32) (h : Hp), run 3 901 74 [l0, some (vi w), l2] [vo s0, vo s1] h = run 3 901 75 [l0, some (vi w), l2] [vi w, vo s0, vo s1] h) ∧
  (∀ (l0 l1 : Option AV) (s0 : Int32) (s1 : Option Rf) (s2 : Option Rf) (w : Option Rf) (h : Hp), run 3 901 75 [l0, l1, some (vo w)] [vi s0, vo s1, vo s2] h = run 3 901 76 [l0, l1, some (vo w)] [vo w, vi s0, vo s1, vo s2] h) ∧
  (∀ (l0 l1 l2 : Option AV) (s0 : Option Rf) (s1 : Int32) (s3 : Option Rf) (o z : Nat) (h : Hp), run 3 901 76 [l0, l1, l2] [vo s0, vi s1, vo (some (o, 1, z)), vo s3] h = (call 100 [vo (some (o, 1, z)), vi s1, vo s0] h).bind (fun z => run 3 901 79 [l0, l1, l2] (z.1.toList ++ [vo s3]) z.2)) ∧
  (∀ (l0 l1 l2 : Option AV) (s0 : Option Rf) (h : Hp), run 3 901 79 [l0, l1, l2] [vo s0] h = some (some (vo s0), h)) ∧
  (∀ (l0 l1 l2 : Option AV) (h : Hp), run 3 901 80 [l0, l1, l2] [] h = run 3 901 83 [l0, l1, l2] [vo (some (h.1.1, 8, 0))] (hmk h 2)) ∧
  (∀ (l0 l1 l2 : Option AV) (s0 : Option Rf) (h : Hp), run 3 901 83 [l0, l1, l2] [vo s0] h = run 3 901 84 [l0, l1, l2] [vo s0, vo s0] h) ∧
  (∀ (l0 l2 : Option AV) (s0 : Option Rf) (s1 : Option Rf) (w : Int32) (h : Hp), run 3 901 84 [l0, some (vi w), l2] [vo s0, vo s1] h = run 3 901 85 [l0, some (vi w), l2] [vi w, vo s0, vo s1] h) ∧
  (∀ (l0 l1 : Option AV) (s0 : Int32) (s1 : Option Rf) (s2 : Option Rf) (w : Option Rf) (h : Hp), run 3 901 85 [l0, l1, some (vo w)] [vi s0, vo s1, vo s2] h = run 3 901 86 [l0, l1, some (vo w)] [vo w, vi s0, vo s1, vo s2] h) ∧
  (∀ (l0 l1 l2 : Option AV) (s0 : Option Rf) (s1 : Int32) (s3 : Option Rf) (o z : Nat) (h : Hp), run 3 901 86 [l0, l1, l2] [vo s0, vi s1, vo (some (o, 8, z)), vo s3] h = (call 800 [vo (some (o, 8, z)), vi s1, vo s0] h).bind (fun z => run 3 901 89 [l0, l1, l2] (z.1.toList ++ [vo s3]) z.2)) ∧
  (∀ (l0 l1 l2 : Option AV) (s0 : Option Rf) (h : Hp), run 3 901 89 [l0, l1, l2] [vo s0] h = some (some (vo s0), h)) ∧
  (∀ (l0 l1 l2 : Option AV) (h : Hp), run 3 901 90 [l0, l1, l2] [] h = run 3 901 93 [l0, l1, l2] [vo (some (h.1.1, 6, 0))] (hmk h 2)) ∧
  (∀ (l0 l1 l2 : Option AV) (s0 : Option Rf) (h : Hp), run 3 901 93 [l0, l1, l2] [vo s0] h = run 3 901 94 [l0, l1, l2] [vo s0, vo s0] h) ∧
  (∀ (l0 l2 : Option AV) (s0 : Option Rf) (s1 : Option Rf) (w : Int32) (h : Hp), run 3 901 94 [l0, some (vi w), l2] [vo s0, vo s1] h = run 3 901 95 [l0, some (vi w), l2] [vi w, vo s0, vo s1] h) ∧
  (∀ (l0 l1 : Option AV) (s0 : Int32) (s1 : Option Rf) (s2 : Option Rf) (w : Option Rf) (h : Hp), run 3 901 95 [l0, l1, some (vo w)] [vi s0, vo s1, vo s2] h = run 3 901 96 [l0, l1, some (vo w)] [vo w, vi s0, vo s1, vo s2] h) ∧
  (∀ (l0 l1 l2 : Option AV) (s0 : Option Rf) (s1 : Int32) (s3 : Option Rf) (o z : Nat) (h : Hp), run 3 901 96 [l0, l1, l2] [vo s0, vi s1, vo (some (o, 6, z)), vo s3] h = (call 600 [vo (some (o, 6, z)), vi s1, vo s0] h).bind (fun z => run 3 901 99 [l0, l1, l2] (z.1.toList ++ [vo s3]) z.2)) ∧
  (∀ (l0 l1 l2 : Option AV) (s0 : Option Rf) (h : Hp), run 3 901 99 [l0, l1, l2] [vo s0] h = some (some (vo s0), h)) ∧
  (∀ (l0 l1 l2 : Option AV) (h : Hp), run 3 901 100 [l0, l1, l2] [] h = run 3 901 101 [l0, l1, l2] [vo none] h) ∧
  (∀ (l0 l1 l2 : Option AV) (s0 : Option Rf) (h : Hp), run 3 901 101 [l0, l1, l2] [vo s0] h = some (some (vo s0), h)) := ⟨(fun _ _ _ _ => run_next rfl rfl),
  (fun _ _ _ s0 _ => (run_sw (fun e => by subst e; exact run_next rfl rfl) fun n0 => (run_sw (fun e => by subst e; exact run_next rfl rfl) fun n1 => (run_sw (fun e => by subst e; exact run_next rfl rfl) fun n2 => (run_sw (fun e => by subst e; exact run_next rfl rfl) fun n3 => (run_sw (fun e => by subst e; exact run_next rfl rfl) fun n4 => (run_sw (fun e => by subst e; exact run_next rfl rfl) fun n5 => run_swd 6 rfl rfl (sw_out6 n0 n1 n2 n3 n4 n5)))))))),
  (fun _ _ _ _ => run_next rfl rfl),
  (fun _ _ _ s0 _ => run_next rfl rfl),
  (fun _ _ s0 _ _ _ => run_next rfl rfl),
  (fun _ _ s0 _ _ _ _ => run_next rfl rfl),
  (fun _ _ _ s0 _ _ _ _ _ => run_calx rfl rfl (Nat.le_of_ble_eq_true rfl) (Nat.le_of_ble_eq_true rfl) rfl),
  (fun _ _ _ s0 _ _ _ _ _ => run_calx rfl rfl (Nat.le_of_ble_eq_true rfl) (Nat.le_of_ble_eq_true rfl) rfl),
  (fun _ _ _ s0 _ _ _ _ _ => run_calx rfl rfl (Nat.le_of_ble_eq_true rfl) (Nat.le_of_ble_eq_true rfl) rfl),
  (fun _ _ _ s0 _ _ _ _ _ => run_calx rfl rfl (Nat.le_of_ble_eq_true rfl) (Nat.le_of_ble_eq_true rfl) rfl),
  (fun _ _ _ s0 _ _ _ _ _ => run_calx rfl rfl (Nat.le_of_ble_eq_true rfl) (Nat.le_of_ble_eq_true rfl) rfl),
  (fun _ _ _ s0 _ _ _ _ _ => run_calx rfl rfl (Nat.le_of_ble_eq_true rfl) (Nat.le_of_ble_eq_true rfl) rfl),
  (fun _ _ _ s0 _ => run_ret rfl rfl),
  (fun _ _ _ _ => run_next rfl rfl),
  (fun _ _ _ s0 _ => run_next rfl rfl),
  (fun _ _ s0 _ _ _ => run_next rfl rfl),
  (fun _ _ s0 _ _ _ _ => run_next rfl rfl),
  (fun _ _ _ s0 _ _ _ _ _ => run_calx rfl rfl (Nat.le_of_ble_eq_true rfl) (Nat.le_of_ble_eq_true rfl) rfl),
  (fun _ _ _ s0 _ _ _ _ _ => run_calx rfl rfl (Nat.le_of_ble_eq_true rfl) (Nat.le_of_ble_eq_true rfl) rfl),
  (fun _ _ _ s0 _ _ _ _ _ => run_calx rfl rfl (Nat.le_of_ble_eq_true rfl) (Nat.le_of_ble_eq_true rfl) rfl),
  (fun _ _ _ s0 _ => run_ret rfl rfl),
  (fun _ _ _ _ => run_next rfl rfl),
  (fun _ _ _ s0 _ => run_next rfl rfl),
  (fun _ _ s0 _ _ _ => run_next rfl rfl),
  (fun _ _ s0 _ _ _ _ => run_next rfl rfl),
  (fun _ _ _ s0 _ _ _ _ _ => run_calx rfl rfl (Nat.le_of_ble_eq_true rfl) (Nat.le_of_ble_eq_true rfl) rfl),
  (fun _ _ _ s0 _ => run_ret rfl rfl),
  (fun _ _ _ _ => run_next rfl rfl),
  (fun _ _ _ s0 _ => run_next rfl rfl),
  (fun _ _ s0 _ _ _ => run_next rfl rfl),
  (fun _ _ s0 _ _ _ _ => run_next rfl rfl),
  (fun _ _ _ s0 _ _ _ _ _ => run_calx rfl rfl (Nat.le_of_ble_eq_true rfl) (Nat.le_of_ble_eq_true rfl) rfl),
  (fun _ _ _ s0 _ => run_ret rfl rfl),
  (fun _ _ _ _ => run_next rfl rfl),
  (fun _ _ _ s0 _ => run_next rfl rfl),
  (fun _ _ s0 _ _ _ => run_next rfl rfl),
  (fun _ _ s0 _ _ _ _ => run_next rfl rfl),
  (fun _ _ _ s0 _ _ _ _ _ => run_calx rfl rfl (Nat.le_of_ble_eq_true rfl) (Nat.le_of_ble_eq_true rfl) rfl),
  (fun _ _ _ s0 _ => run_ret rfl rfl),
  (fun _ _ _ _ => run_next rfl rfl),
  (fun _ _ _ s0 _ => run_next rfl rfl),
  (fun _ _ s0 _ _ _ => run_next rfl rfl),
  (fun _ _ s0 _ _ _ _ => run_next rfl rfl),
  (fun _ _ _ s0 _ _ _ _ _ => run_calx rfl rfl (Nat.le_of_ble_eq_true rfl) (Nat.le_of_ble_eq_true rfl) rfl),
  (fun _ _ _ s0 _ => run_ret rfl rfl),
  (fun _ _ _ _ => run_next rfl rfl),
  (fun _ _ _ s0 _ => run_ret rfl rfl)⟩
theorem e_901 (a0 : Int32) (a1 : Int32) (a2 : Option Rf) (h : Hp) : call 901 [vi a0, vi a1, vo a2] h = run 3 901 0 [some (vi a0), some (vi a1), some (vo a2)] [] h := rfl
set_option maxRecDepth 20000 in
theorem x_902 : (∀ (l0 : Option AV) (h : Hp), run 0 902 0 [l0] [] h = run 0 902 1 [l0] [vi (0 : Int32)] h) ∧
  (∀ (l0 : Option AV) (s0 : Int32) (h : Hp), run 0 902 1 [l0] [vi s0] h = some (some (vi s0), h)) := ⟨(fun _ _ => run_next rfl rfl),
  (fun _ s0 _ => run_ret rfl rfl)⟩
theorem e_902 (v : Option Rf) (h : Hp) : call 902 [vo v] h = run 0 902 0 [some (vo v)] [] h := rfl
set_option maxRecDepth 20000 in
theorem x_903 : (∀ (l1 l2 l3 : Option AV) (w : Option Rf) (h : Hp), run 3 903 0 [some (vo w), l1, l2, l3] [] h = run 3 903 1 [some (vo w), l1, l2, l3] [vo w] h) ∧
  (∀ (l0 l2 l3 : Option AV) (s0 : Option Rf) (w : Option Rf) (h : Hp), run 3 903 1 [l0, some (vo w), l2, l3] [vo s0] h = run 3 903 2 [l0, some (vo w), l2, l3] [vo w, vo s0] h) ∧
  (∀ (l0 l1 l3 : Option AV) (s0 : Option Rf) (s1 : Option Rf) (w : Int32) (h : Hp), run 3 903 2 [l0, l1, some (vi w), l3] [vo s0, vo s1] h = run 3 903 3 [l0, l1, some (vi w), l3] [vi w, vo s0, vo s1] h) ∧
  (∀ (l0 l1 l2 : Option AV) (s0 : Int32) (s1 : Option Rf) (s2 : Option Rf) (w : Int32) (h : Hp), run 3 903 3 [l0, l1, l2, some (vi w)] [vi s0, vo s1, vo s2] h = run 3 903 4 [l0, l1, l2, some (vi w)] [vi w, vi s0, vo s1, vo s2] h) ∧
  (∀ (l0 l1 l2 l3 : Option AV) (s0 : Int32) (s1 : Int32) (s2 : Option Rf) (o z : Nat) (h : Hp), run 3 903 4 [l0, l1, l2, l3] [vi s0, vi s1, vo s2, vo (some (o, 9, z))] h = (call 904 [vo (some (o, 9, z)), vo s2, vi s1, vi s0] h).bind (fun z => run 3 903 7 [l0, l1, l2, l3] (z.1.toList ++ []) z.2)) ∧
  (∀ (l0 l1 l2 l3 : Option AV) (s0 : Int32) (h : Hp), run 3 903 7 [l0, l1, l2, l3] [vi s0] h = some (some (vi s0), h)) := ⟨(fun _ _ _ _ _ => run_next rfl rfl),
  (fun _ _ _ s0 _ _ => run_next rfl rfl),
  (fun _ _ _ s0 _ _ _ => run_next rfl rfl),
  (fun _ _ _ s0 _ _ _ _ => run_next rfl rfl),
  (fun _ _ _ _ s0 _ _ _ _ _ => run_calx rfl rfl (Nat.le_of_ble_eq_true rfl) (Nat.le_of_ble_eq_true rfl) rfl),
  (fun _ _ _ _ s0 _ => run_ret rfl rfl)⟩
theorem e_903 (v : Option Rf) (a0 : Option Rf) (a1 : Int32) (a2 : Int32) (h : Hp) : call 903 [vo v, vo a0, vi a1, vi a2] h = run 3 903 0 [some (vo v), some (vo a0), some (vi a1), some (vi a2)] [] h := rfl
set_option maxRecDepth 20000 in
theorem x_904 : (∀ (l1 l2 l3 l4 : Option AV) (w : Option Rf) (h : Hp), run 2 904 0 [some (vo w), l1, l2, l3, l4] [] h = run 2 904 1 [some (vo w), l1, l2, l3, l4] [vo w] h) ∧
  (∀ (l0 l1 l2 l3 l4 : Option AV) (o z : Nat) (h : Hp), run 2 904 1 [l0, l1, l2, l3, l4] [vo (some (o, 9, z))] h = run 2 904 4 [l0, l1, l2, l3, l4] [vo (hR h o 1)] h) ∧
  (∀ (l0 l1 l2 l3 l4 : Option AV) (o z : Nat) (h : Hp), run 2 904 1 [l0, l1, l2, l3, l4] [vo (some (o, 3, z))] h = run 2 904 4 [l0, l1, l2, l3, l4] [vo (hR h o 1)] h) ∧
  (∀ (l0 l1 l2 l3 l4 : Option AV) (o z : Nat) (h : Hp), run 2 904 1 [l0, l1, l2, l3, l4] [vo (some (o, 2, z))] h = run 2 904 4 [l0, l1, l2, l3, l4] [vo (hR h o 1)] h) ∧
  (∀ (l0 l1 l2 l3 l4 : Option AV) (o z : Nat) (h : Hp), run 2 904 1 [l0, l1, l2, l3, l4] [vo (some (o, 1, z))] h = run 2 904 4 [l0, l1, l2, l3, l4] [vo (hR h o 1)] h) ∧
  (∀ (l0 l1 l2 l3 l4 : Option AV) (o z : Nat) (h : Hp), run 2 904 1 [l0, l1, l2, l3, l4] [vo (some (o, 8, z))] h = run 2 904 4 [l0, l1, l2, l3, l4] [vo (hR h o 1)] h) ∧
  (∀ (l0 l1 l2 l3 l4 : Option AV) (o z : Nat) (h : Hp), run 2 904 1 [l0, l1, l2, l3, l4] [vo (some (o, 6, z))] h = run 2 904 4 [l0, l1, l2, l3, l4] [vo (hR h o 1)] h) ∧
  (∀ (l0 l1 l2 l3 l4 : Option AV) (o z : Nat) (h : Hp), run 2 904 4 [l0, l1, l2, l3, l4] [vo (some (o, 13, z))] h = run 2 904 5 [l0, l1, l2, l3, l4] [vi (Int32.ofNat z)] h) ∧
  (∀ (l0 l1 l2 l3 l4 : Option AV) (o z : Nat) (h : Hp), run 2 904 4 [l0, l1, l2, l3, l4] [vo (some (o, 14, z))] h = run 2 904 5 [l0, l1, l2, l3, l4] [vi (Int32.ofNat z)] h) ∧
  (∀ (l0 l1 l2 l3 l4 : Option AV) (o z : Nat) (h : Hp), run 2 904 4 [l0, l1, l2, l3, l4] [vo (some (o, 15, z))] h = run 2 904 5 [l0, l1, l2, l3, l4] [vi (Int32.ofNat z)] h) ∧
  (∀ (l0 l1 l2 l3 l4 : Option AV) (s0 : Int32) (h : Hp), run 2 904 5 [l0, l1, l2, l3, l4] [vi s0] h = if s0 = 0 then run 2 904 12 [l0, l1, l2, l3, l4] [] h else run 2 904 8 [l0, l1, l2, l3, l4] [] h) ∧
  (∀ (l0 l1 l2 l4 : Option AV) (w : Int32) (h : Hp), run 2 904 8 [l0, l1, l2, some (vi w), l4] [] h = run 2 904 9 [l0, l1, l2, some (vi w), l4] [vi w] h) ∧
  (∀ (l0 l1 l2 l3 l4 : Option AV) (s0 : Int32) (h : Hp), run 2 904 9 [l0, l1, l2, l3, l4] [vi s0] h = if 0 ≤ s0 then run 2 904 14 [l0, l1, l2, l3, l4] [] h else run 2 904 12 [l0, l1, l2, l3, l4] [] h) ∧
  (∀ (l0 l1 l2 l3 l4 : Option AV) (h : Hp), run 2 904 12 [l0, l1, l2, l3, l4] [] h = run 2 904 13 [l0, l1, l2, l3, l4] [vi (4 : Int32)] h) ∧
  (∀ (l0 l1 l2 l3 l4 : Option AV) (s0 : Int32) (h : Hp), run 2 904 13 [l0, l1, l2, l3, l4] [vi s0] h = some (some (vi s0), h)) ∧
  (∀ (l1 l2 l3 l4 : Option AV) (w : Option Rf) (h : Hp), run 2 904 14 [some (vo w), l1, l2, l3, l4] [] h = run 2 904 15 [some (vo w), l1, l2, l3, l4] [vo w] h) ∧
  (∀ (l0 l1 l2 l3 l4 : Option AV) (o z : Nat) (h : Hp), run 2 904 15 [l0, l1, l2, l3, l4] [vo (some (o, 9, z))] h = run 2 904 18 [l0, l1, l2, l3, l4] [vo (hR h o 1)] h) ∧
  (∀ (l0 l1 l2 l3 l4 : Option AV) (o z : Nat) (h : Hp), run 2 904 15 [l0, l1, l2, l3, l4] [vo (some (o, 3, z))] h = run 2 904 18 [l0, l1, l2, l3, l4] [vo (hR h o 1)] h) ∧
  (∀ (l0 l1 l2 l3 l4 : Option AV) (o z : Nat) (h : Hp), run 2 904 15 [l0, l1, l2, l3, l4] [vo (some (o, 2, z))] h = run 2 904 18 [l0, l1, l2, l3, l4] [vo (hR h o 1)] h) ∧
  (∀ (l0 l1 l2 l3 l4 : Option AV) (o z : Nat) (h : Hp), run 2 904 15 [l0, l1, l2, l3, l4] [vo (some (o, 1, z))] h = run 2 904 18 [l0, l1, l2, l3, l4] [vo (hR h o 1)] h) ∧
  (∀ (l0 l1 l2 l3 l4 : Option AV) (o z : Nat) (h : Hp), run 2 904 15 [l0, l1, l2, l3, l4] [vo (some (o, 8, z))] h = run 2 904 18 [l0, l1, l2, l3, l4] [vo (hR h o 1)] h) ∧
  (∀ (l0 l1 l2 l3 l4 : Option AV) (o z : Nat) (h : Hp), run 2 904 15 [l0, l1, l2, l3, l4] [vo (some (o, 6, z))] h = run 2 904 18 [l0, l1, l2, l3, l4] [vo (hR h o 1)] h) ∧
  (∀ (l0 l1 l2 l4 : Option AV) (s0 : Option Rf) (w : Int32) (h : Hp), run 2 904 18 [l0, l1, l2, some (vi w), l4] [vo s0] h = run 2 904 19 [l0, l1, l2, some (vi w), l4] [vi w, vo s0] h) ∧
  (∀ (l1 l2 l3 l4 : Option AV) (s0 : Int32) (s1 : Option Rf) (w : Option Rf) (h : Hp), run 2 904 19 [some (vo w), l1, l2, l3, l4] [vi s0, vo s1] h = run 2 904 20 [some (vo w), l1, l2, l3, l4] [vo w, vi s0, vo s1] h) ∧
  (∀ (l0 l1 l2 l3 l4 : Option AV) (s1 : Int32) (s2 : Option Rf) (o z : Nat) (h : Hp), run 2 904 20 [l0, l1, l2, l3, l4] [vo (some (o, 9, z)), vi s1, vo s2] h = run 2 904 23 [l0, l1, l2, l3, l4] [vo (hR h o 1), vi s1, vo s2] h) ∧
  (∀ (l0 l1 l2 l3 l4 : Option AV) (s1 : Int32) (s2 : Option Rf) (o z : Nat) (h : Hp), run 2 904 20 [l0, l1, l2, l3, l4] [vo (some (o, 3, z)), vi s1, vo s2] h = run 2 904 23 [l0, l1, l2, l3, l4] [vo (hR h o 1), vi s1, vo s2] h) ∧
  (∀ (l0 l1 l2 l3 l4 : Option AV) (s1 : Int32) (s2 : Option Rf) (o z : Nat) (h : Hp), run 2 904 20 [l0, l1, l2, l3, l4] [vo (some (o, 2, z)), vi s1, vo s2] h = run 2 904 23 [l0, l1, l2, l3, l4] [vo (hR h o 1), vi s1, vo s2] h) ∧
  (∀ (l0 l1 l2 l3 l4 : Option AV) (s1 : Int32) (s2 : Option Rf) (o z : Nat) (h : Hp), run 2 904 20 [l0, l1, l2, l3, l4] [vo (some (o, 1, z)), vi s1, vo s2] h = run 2 904 23 [l0, l1, l2, l3, l4] [vo (hR h o 1), vi s1, vo s2] h) ∧
  (∀ (l0 l1 l2 l3 l4 : Option AV) (s1 : Int32) (s2 : Option Rf) (o z : Nat) (h : Hp), run 2 904 20 [l0, l1, l2, l3, l4] [vo (some (o, 8, z)), vi s1, vo s2] h = run 2 904 23 [l0, l1, l2, l3, l4] [vo (hR h o 1), vi s1, vo s2] h) ∧
  (∀ (l0 l1 l2 l3 l4 : Option AV) (s1 : Int32) (s2 : Option Rf) (o z : Nat) (h : Hp), run 2 904 20 [l0, l1, l2, l3, l4] [vo (some (o, 6, z)), vi s1, vo s2] h = run 2 904 23 [l0, l1, l2, l3, l4] [vo (hR h o 1), vi s1, vo s2] h) ∧
  (∀ (l0 l1 l2 l3 l4 : Option AV) (s1 : Int32) (s2 : Option Rf) (o z : Nat) (h : Hp), run 2 904 23 [l0, l1, l2, l3, l4] [vo (some (o, 13, z)), vi s1, vo s2] h = run 2 904 24 [l0, l1, l2, l3, l4] [vi (Int32.ofNat z), vi s1, vo s2] h) ∧
  (∀ (l0 l1 l2 l3 l4 : Option AV) (s1 : Int32) (s2 : Option Rf) (o z : Nat) (h : Hp), run 2 904 23 [l0, l1, l2, l3, l4] [vo (some (o, 14, z)), vi s1, vo s2] h = run 2 904 24 [l0, l1, l2, l3, l4] [vi (Int32.ofNat z), vi s1, vo s2] h) ∧
  (∀ (l0 l1 l2 l3 l4 : Option AV) (s1 : Int32) (s2 : Option Rf) (o z : Nat) (h : Hp), run 2 904 23 [l0, l1, l2, l3, l4] [vo (some (o, 15, z)), vi s1, vo s2] h = run 2 904 24 [l0, l1, l2, l3, l4] [vi (Int32.ofNat z), vi s1, vo s2] h) ∧
  (∀ (l0 l1 l2 l3 l4 : Option AV) (s0 : Int32) (s1 : Int32) (s2 : Option Rf) (h : Hp), run 2 904 24 [l0, l1, l2, l3, l4] [vi s0, vi s1, vo s2] h = if s0 = 0 then none else run 2 904 25 [l0, l1, l2, l3, l4] [vi (s1 - s1 / s0 * s0), vo s2] h) ∧
  (∀ (l0 l1 l2 l3 l4 : Option AV) (s0 : Int32) (o z : Nat) (h : Hp), run 2 904 25 [l0, l1, l2, l3, l4] [vi s0, vo (some (o, 13, z))] h = if s0 < 0 ∨ z ≤ s0.toNatClampNeg then none else run 2 904 26 [l0, l1, l2, l3, l4] [vi (hI h o s0.toNatClampNeg)] h) ∧
  (∀ (l0 l1 l2 l4 : Option AV) (s0 : Int32) (h : Hp), run 2 904 26 [l0, l1, l2, none, l4] [vi s0] h = run 2 904 28 [l0, l1, l2, none, some (vi s0)] [] h) ∧
  (∀ (l0 l1 l2 l4 : Option AV) (s0 : Int32) (w1 : Int32) (h : Hp), run 2 904 26 [l0, l1, l2, some (vi w1), l4] [vi s0] h = run 2 904 28 [l0, l1, l2, some (vi w1), some (vi s0)] [] h) ∧
  (∀ (l0 l1 l2 l4 : Option AV) (s0 : Int32) (w1 : Option Rf) (h : Hp), run 2 904 26 [l0, l1, l2, some (vo w1), l4] [vi s0] h = run 2 904 28 [l0, l1, l2, some (vo w1), some (vi s0)] [] h) ∧
  (∀ (l0 l2 l3 l4 : Option AV) (w : Option Rf) (h : Hp), run 2 904 28 [l0, some (vo w), l2, l3, l4] [] h = run 2 904 29 [l0, some (vo w), l2, l3, l4] [vo w] h) ∧
  (∀ (l0 l1 l2 l3 l4 : Option AV) (o z : Nat) (h : Hp), run 2 904 29 [l0, l1, l2, l3, l4] [vo (some (o, 10, z))] h = run 2 904 32 [l0, l1, l2, l3, l4] [vo (hR h o 0)] h) ∧
  (∀ (l0 l2 l3 l4 : Option AV) (s0 : Option Rf) (w : Option Rf) (h : Hp), run 2 904 32 [l0, some (vo w), l2, l3, l4] [vo s0] h = run 2 904 33 [l0, some (vo w), l2, l3, l4] [vo w, vo s0] h) ∧
  (∀ (l0 l1 l3 l4 : Option AV) (s0 : Option Rf) (s1 : Option Rf) (w : Int32) (h : Hp), run 2 904 33 [l0, l1, some (vi w), l3, l4] [vo s0, vo s1] h = run 2 904 34 [l0, l1, some (vi w), l3, l4] [vi w, vo s0, vo s1] h) ∧
  (∀ (l0 l1 l2 l4 : Option AV) (s0 : Int32) (s1 : Option Rf) (s2 : Option Rf) (w : Int32) (h : Hp), run 2 904 34 [l0, l1, l2, some (vi w), l4] [vi s0, vo s1, vo s2] h = run 2 904 35 [l0, l1, l2, some (vi w), l4] [vi w, vi s0, vo s1, vo s2] h) ∧
  (∀ (l0 l1 l2 l3 l4 : Option AV) (s0 : Int32) (s1 : Int32) (s3 : Option Rf) (o z : Nat) (h : Hp), run 2 904 35 [l0, l1, l2, l3, l4] [vi s0, vi s1, vo (some (o, 10, z)), vo s3] h = (call 1006 [vo (some (o, 10, z)), vi s1, vi s0] h).bind (fun z => run 2 904 38 [l0, l1, l2, l3, l4] (z.1.toList ++ [vo s3]) z.2)) ∧
  (∀ (l0 l1 l2 l3 : Option AV) (s0 : Int32) (s1 : Option Rf) (w : Int32) (h : Hp), run 2 904 38 [l0, l1, l2, l3, some (vi w)] [vi s0, vo s1] h = run 2 904 40 [l0, l1, l2, l3, some (vi w)] [vi w, vi s0, vo s1] h) ∧
  (∀ (l0 l1 l2 l3 l4 : Option AV) (s0 : Int32) (s1 : Int32) (o z : Nat) (h : Hp), run 2 904 40 [l0, l1, l2, l3, l4] [vi s0, vi s1, vo (some (o, 5, z))] h = (call 506 [vo (some (o, 5, z)), vi s1, vi s0] h).bind (fun z => run 2 904 43 [l0, l1, l2, l3, l4] (z.1.toList ++ []) z.2)) ∧
  (∀ (l0 l1 l2 l3 l4 : Option AV) (s0 : Int32) (h : Hp), run 2 904 43 [l0, l1, l2, l3, l4] [vi s0] h = run 2 904 45 [l0, l1, l2, l3, l4] [vi (-9 : Int32), vi s0] h) ∧
  (∀ (l0 l1 l2 l3 l4 : Option AV) (s0 : Int32) (s1 : Int32) (h : Hp), run 2 904 45 [l0, l1, l2, l3, l4] [vi s0, vi s1] h = if s1 = s0 then run 2 904 48 [l0, l1, l2, l3, l4] [] h else run 2 904 52 [l0, l1, l2, l3, l4] [] h) ∧
  (∀ (l0 l1 l2 l3 l4 : Option AV) (h : Hp), run 2 904 48 [l0, l1, l2, l3, l4] [] h = run 2 904 49 [l0, l1, l2, l3, l4] [vi (4 : Int32)] h) ∧
  (∀ (l0 l1 l2 l3 l4 : Option AV) (s0 : Int32) (h : Hp), run 2 904 49 [l0, l1, l2, l3, l4] [vi s0] h = run 2 904 54 [l0, l1, l2, l3, l4] [vi s0] h) ∧
  (∀ (l0 l1 l2 l3 : Option AV) (w : Int32) (h : Hp), run 2 904 52 [l0, l1, l2, l3, some (vi w)] [] h = run 2 904 54 [l0, l1, l2, l3, some (vi w)] [vi w] h) ∧
  (∀ (l0 l1 l2 l3 l4 : Option AV) (s0 : Int32) (h : Hp), run 2 904 54 [l0, l1, l2, l3, l4] [vi s0] h = some (some (vi s0), h)) := ⟨(fun _ _ _ _ _ _ => run_next rfl rfl),
  (fun _ _ _ _ _ _ _ _ => run_next rfl rfl),
  (fun _ _ _ _ _ _ _ _ => run_next rfl rfl),
  (fun _ _ _ _ _ _ _ _ => run_next rfl rfl),
  (fun _ _ _ _ _ _ _ _ => run_next rfl rfl),
  (fun _ _ _ _ _ _ _ _ => run_next rfl rfl),
  (fun _ _ _ _ _ _ _ _ => run_next rfl rfl),
  (fun _ _ _ _ _ _ _ _ => run_next rfl rfl),
  (fun _ _ _ _ _ _ _ _ => run_next rfl rfl),
  (fun _ _ _ _ _ _ _ _ => run_next rfl rfl),
  (fun _ _ _ _ _ s0 _ => run_if rfl rfl (run_next rfl) (run_next rfl)),
  (fun _ _ _ _ _ _ => run_next rfl rfl),
  (fun _ _ _ _ _ s0 _ => run_if rfl rfl (run_next rfl) (run_next rfl)),
  (fun _ _ _ _ _ _ => run_next rfl rfl),
  (fun _ _ _ _ _ s0 _ => run_ret rfl rfl),
  (fun _ _ _ _ _ _ => run_next rfl rfl),
  (fun _ _ _ _ _ _ _ _ => run_next rfl rfl),
  (fun _ _ _ _ _ _ _ _ => run_next rfl rfl),
  (fun _ _ _ _ _ _ _ _ => run_next rfl rfl),
  (fun _ _ _ _ _ _ _ _ => run_next rfl rfl),
  (fun _ _ _ _ _ _ _ _ => run_next rfl rfl),
  (fun _ _ _ _ _ _ _ _ => run_next rfl rfl),
  (fun _ _ _ _ s0 _ _ => run_next rfl rfl),
  (fun _ _ _ _ s0 _ _ _ => run_next rfl rfl),
  (fun _ _ _ _ _ _ _ _ _ _ => run_next rfl rfl),
  (fun _ _ _ _ _ _ _ _ _ _ => run_next rfl rfl),
  (fun _ _ _ _ _ _ _ _ _ _ => run_next rfl rfl),
  (fun _ _ _ _ _ _ _ _ _ _ => run_next rfl rfl),
  (fun _ _ _ _ _ _ _ _ _ _ => run_next rfl rfl),
  (fun _ _ _ _ _ _ _ _ _ _ => run_next rfl rfl),
  (fun _ _ _ _ _ _ _ _ _ _ => run_next rfl rfl),
  (fun _ _ _ _ _ _ _ _ _ _ => run_next rfl rfl),
  (fun _ _ _ _ _ _ _ _ _ _ => run_next rfl rfl),
  (fun _ _ _ _ _ s0 _ _ _ => run_if rfl rfl (run_fail rfl) (run_next rfl)),
  (fun _ _ _ _ _ s0 _ _ _ => run_if rfl rfl (run_fail rfl) (run_next rfl)),
  (fun _ _ _ _ s0 _ => run_next rfl rfl),
  (fun _ _ _ _ s0 _ _ => run_next rfl rfl),
  (fun _ _ _ _ s0 _ _ => run_next rfl rfl),
  (fun _ _ _ _ _ _ => run_next rfl rfl),
  (fun _ _ _ _ _ _ _ _ => run_next rfl rfl),
  (fun _ _ _ _ s0 _ _ => run_next rfl rfl),
  (fun _ _ _ _ s0 _ _ _ => run_next rfl rfl),
  (fun _ _ _ _ s0 _ _ _ _ => run_next rfl rfl),
  (fun _ _ _ _ _ s0 _ _ _ _ _ => run_calx rfl rfl (Nat.le_of_ble_eq_true rfl) (Nat.le_of_ble_eq_true rfl) rfl),
  (fun _ _ _ _ s0 _ _ _ => run_next rfl rfl),
  (fun _ _ _ _ _ s0 _ _ _ _ => run_calx rfl rfl (Nat.le_of_ble_eq_true rfl) (Nat.le_of_ble_eq_true rfl) rfl),
  (fun _ _ _ _ _ s0 _ => run_next rfl rfl),
  (fun _ _ _ _ _ s0 _ _ => run_if rfl rfl (run_next rfl) (run_next rfl)),
  (fun _ _ _ _ _ _ => run_next rfl rfl),
  (fun _ _ _ _ _ s0 _ => run_next rfl rfl),
  (fun _ _ _ _ _ _ => run_next rfl rfl),
  (fun _ _ _ _ _ s0 _ => run_ret rfl rfl)⟩
theorem e_904 (v : Option Rf) (a0 : Option Rf) (a1 : Int32) (a2 : Int32) (h : Hp) : call 904 [vo v, vo a0, vi a1, vi a2] h = run 2 904 0 [some (vo v), some (vo a0), some (vi a1), some (vi a2), none] [] h := rfl
set_option maxRecDepth 20000 in
theorem x_1300 : (∀  (w : Int32) (h : Hp), run 0 1300 0 [some (vi w)] [] h = run 0 1300 1 [some (vi w)] [vi w] h) ∧
  (∀ (s0 : Int32) (w : Int32) (h : Hp), run 0 1300 1 [some (vi w)] [vi s0] h = run 0 1300 2 [some (vi w)] [vi w, vi s0] h) ∧
  (∀ (l0 : Option AV) (s0 : Int32) (s1 : Int32) (h : Hp), run 0 1300 2 [l0] [vi s0, vi s1] h = run 0 1300 3 [l0] [vi (1 : Int32), vi s0, vi s1] h) ∧
  (∀ (l0 : Option AV) (s0 : Int32) (s1 : Int32) (s2 : Int32) (h : Hp), run 0 1300 3 [l0] [vi s0, vi s1, vi s2] h = run 0 1300 4 [l0] [vi (s1.toUInt32 >>> (s0.toUInt32 &&& Int32.toUInt32 31)).toInt32, vi s2] h) ∧
  (∀ (l0 : Option AV) (s0 : Int32) (s1 : Int32) (h : Hp), run 0 1300 4 [l0] [vi s0, vi s1] h = run 0 1300 7 [l0] [vi (1431655765 : Int32), vi s0, vi s1] h) ∧
  (∀ (l0 : Option AV) (s0 : Int32) (s1 : Int32) (s2 : Int32) (h : Hp), run 0 1300 7 [l0] [vi s0, vi s1, vi s2] h = run 0 1300 8 [l0] [vi (s1 &&& s0), vi s2] h) ∧
  (∀ (l0 : Option AV) (s0 : Int32) (s1 : Int32) (h : Hp), run 0 1300 8 [l0] [vi s0, vi s1] h = run 0 1300 9 [l0] [vi (s1 - s0)] h) ∧
  (∀ (l0 : Option AV) (s0 : Int32) (h : Hp), run 0 1300 9 [l0] [vi s0] h = run 0 1300 10 [some (vi s0)] [] h) ∧
  (∀  (w : Int32) (h : Hp), run 0 1300 10 [some (vi w)] [] h = run 0 1300 11 [some (vi w)] [vi w] h) ∧
  (∀ (l0 : Option AV) (s0 : Int32) (h : Hp), run 0 1300 11 [l0] [vi s0] h = run 0 1300 14 [l0] [vi (858993459 : Int32), vi s0] h) ∧
  (∀ (l0 : Option AV) (s0 : Int32) (s1 : Int32) (h : Hp), run 0 1300 14 [l0] [vi s0, vi s1] h = run 0 1300 15 [l0] [vi (s1 &&& s0)] h) ∧
  (∀ (s0 : Int32) (w : Int32) (h : Hp), run 0 1300 15 [some (vi w)] [vi s0] h = run 0 1300 16 [some (vi w)] [vi w, vi s0] h) ∧
  (∀ (l0 : Option AV) (s0 : Int32) (s1 : Int32) (h : Hp), run 0 1300 16 [l0] [vi s0, vi s1] h = run 0 1300 17 [l0] [vi (2 : Int32), vi s0, vi s1] h) ∧
  (∀ (l0 : Option AV) (s0 : Int32) (s1 : Int32) (s2 : Int32) (h : Hp), run 0 1300 17 [l0] [vi s0, vi s1, vi s2] h = run 0 1300 18 [l0] [vi (s1.toUInt32 >>> (s0.toUInt32 &&& Int32.toUInt32 31)).toInt32, vi s2] h) ∧
  (∀ (l0 : Option AV) (s0 : Int32) (s1 : Int32) (h : Hp), run 0 1300 18 [l0] [vi s0, vi s1] h = run 0 1300 21 [l0] [vi (858993459 : Int32), vi s0, vi s1] h) ∧
  (∀ (l0 : Option AV) (s0 : Int32) (s1 : Int32) (s2 : Int32) (h : Hp), run 0 1300 21 [l0] [vi s0, vi s1, vi s2] h = run 0 1300 22 [l0] [vi (s1 &&& s0), vi s2] h) ∧
  (∀ (l0 : Option AV) (s0 : Int32) (s1 : Int32) (h : Hp), run 0 1300 22 [l0] [vi s0, vi s1] h = run 0 1300 23 [l0] [vi (s1 + s0)] h) ∧
  (∀ (l0 : Option AV) (s0 : Int32) (h : Hp), run 0 1300 23 [l0] [vi s0] h = run 0 1300 24 [some (vi s0)] [] h) ∧
  (∀  (w : Int32) (h : Hp), run 0 1300 24 [some (vi w)] [] h = run 0 1300 25 [some (vi w)] [vi w] h) ∧
  (∀ (s0 : Int32) (w : Int32) (h : Hp), run 0 1300 25 [some (vi w)] [vi s0] h = run 0 1300 26 [some (vi w)] [vi w, vi s0] h) ∧
  (∀ (l0 : Option AV) (s0 : Int32) (s1 : Int32) (h : Hp), run 0 1300 26 [l0] [vi s0, vi s1] h = run 0 1300 27 [l0] [vi (4 : Int32), vi s0, vi s1] h) ∧
  (∀ (l0 : Option AV) (s0 : Int32) (s1 : Int32) (s2 : Int32) (h : Hp), run 0 1300 27 [l0] [vi s0, vi s1, vi s2] h = run 0 1300 28 [l0] [vi (s1.toUInt32 >>> (s0.toUInt32 &&& Int32.toUInt32 31)).toInt32, vi s2] h) ∧
  (∀ (l0 : Option AV) (s0 : Int32) (s1 : Int32) (h : Hp), run 0 1300 28 [l0] [vi s0, vi s1] h = run 0 1300 29 [l0] [vi (s1 + s0)] h) ∧
  (∀ (l0 : Option AV) (s0 : Int32) (h : Hp), run 0 1300 29 [l0] [vi s0] h = run 0 1300 32 [l0] [vi (252645135 : Int32), vi s0] h) ∧
  (∀ (l0 : Option AV) (s0 : Int32) (s1 : Int32) (h : Hp), run 0 1300 32 [l0] [vi s0, vi s1] h = run 0 1300 33 [l0] [vi (s1 &&& s0)] h) ∧
  (∀ (l0 : Option AV) (s0 : Int32) (h : Hp), run 0 1300 33 [l0] [vi s0] h = run 0 1300 34 [some (vi s0)] [] h) ∧
  (∀  (w : Int32) (h : Hp), run 0 1300 34 [some (vi w)] [] h = run 0 1300 35 [some (vi w)] [vi w] h) ∧
  (∀ (s0 : Int32) (w : Int32) (h : Hp), run 0 1300 35 [some (vi w)] [vi s0] h = run 0 1300 36 [some (vi w)] [vi w, vi s0] h) ∧
  (∀ (l0 : Option AV) (s0 : Int32) (s1 : Int32) (h : Hp), run 0 1300 36 [l0] [vi s0, vi s1] h = run 0 1300 38 [l0] [vi (8 : Int32), vi s0, vi s1] h) ∧
  (∀ (l0 : Option AV) (s0 : Int32) (s1 : Int32) (s2 : Int32) (h : Hp), run 0 1300 38 [l0] [vi s0, vi s1, vi s2] h = run 0 1300 39 [l0] [vi (s1.toUInt32 >>> (s0.toUInt32 &&& Int32.toUInt32 31)).toInt32, vi s2] h) ∧
  (∀ (l0 : Option AV) (s0 : Int32) (s1 : Int32) (h : Hp), run 0 1300 39 [l0] [vi s0, vi s1] h = run 0 1300 40 [l0] [vi (s1 + s0)] h) ∧
  (∀ (l0 : Option AV) (s0 : Int32) (h : Hp), run 0 1300 40 [l0] [vi s0] h = run 0 1300 41 [some (vi s0)] [] h) ∧
  (∀  (w : Int32) (h : Hp), run 0 1300 41 [some (vi w)] [] h = run 0 1300 42 [some (vi w)] [vi w] h) ∧
  (∀ (s0 : Int32) (w : Int32) (h : Hp), run 0 1300 42 [some (vi w)] [vi s0] h = run 0 1300 43 [some (vi w)] [vi w, vi s0] h) ∧
  (∀ (l0 : Option AV) (s0 : Int32) (s1 : Int32) (h : Hp), run 0 1300 43 [l0] [vi s0, vi s1] h = run 0 1300 45 [l0] [vi (16 : Int32), vi s0, vi s1] h) ∧
  (∀ (l0 : Option AV) (s0 : Int32) (s1 : Int32) (s2 : Int32) (h : Hp), run 0 1300 45 [l0] [vi s0, vi s1, vi s2] h = run 0 1300 46 [l0] [vi (s1.toUInt32 >>> (s0.toUInt32 &&& Int32.toUInt32 31)).toInt32, vi s2] h) ∧
  (∀ (l0 : Option AV) (s0 : Int32) (s1 : Int32) (h : Hp), run 0 1300 46 [l0] [vi s0, vi s1] h = run 0 1300 47 [l0] [vi (s1 + s0)] h) ∧
  (∀ (l0 : Option AV) (s0 : Int32) (h : Hp), run 0 1300 47 [l0] [vi s0] h = run 0 1300 48 [some (vi s0)] [] h) ∧
  (∀  (w : Int32) (h : Hp), run 0 1300 48 [some (vi w)] [] h = run 0 1300 49 [some (vi w)] [vi w] h) ∧
  (∀ (l0 : Option AV) (s0 : Int32) (h : Hp), run 0 1300 49 [l0] [vi s0] h = run 0 1300 51 [l0] [vi (63 : Int32), vi s0] h) ∧
  (∀ (l0 : Option AV) (s0 : Int32) (s1 : Int32) (h : Hp), run 0 1300 51 [l0] [vi s0, vi s1] h = run 0 1300 52 [l0] [vi (s1 &&& s0)] h) ∧
  (∀ (l0 : Option AV) (s0 : Int32) (h : Hp), run 0 1300 52 [l0] [vi s0] h = some (some (vi s0), h)) := ⟨(fun _ _ => run_next rfl rfl),
  (fun s0 _ _ => run_next rfl rfl),
  (fun _ s0 _ _ => run_next rfl rfl),
  (fun _ s0 _ _ _ => run_next rfl rfl),
  (fun _ s0 _ _ => run_next rfl rfl),
  (fun _ s0 _ _ _ => run_next rfl rfl),
  (fun _ s0 _ _ => run_next rfl rfl),
  (fun _ s0 _ => run_next rfl rfl),
  (fun _ _ => run_next rfl rfl),
  (fun _ s0 _ => run_next rfl rfl),
  (fun _ s0 _ _ => run_next rfl rfl),
  (fun s0 _ _ => run_next rfl rfl),
  (fun _ s0 _ _ => run_next rfl rfl),
  (fun _ s0 _ _ _ => run_next rfl rfl),
  (fun _ s0 _ _ => run_next rfl rfl),
  (fun _ s0 _ _ _ => run_next rfl rfl),
  (fun _ s0 _ _ => run_next rfl rfl),
  (fun _ s0 _ => run_next rfl rfl),
  (fun _ _ => run_next rfl rfl),
  (fun s0 _ _ => run_next rfl rfl),
  (fun _ s0 _ _ => run_next rfl rfl),
  (fun _ s0 _ _ _ => run_next rfl rfl),
  (fun _ s0 _ _ => run_next rfl rfl),
  (fun _ s0 _ => run_next rfl rfl),
  (fun _ s0 _ _ => run_next rfl rfl),
  (fun _ s0 _ => run_next rfl rfl),
  (fun _ _ => run_next rfl rfl),
  (fun s0 _ _ => run_next rfl rfl),
  (fun _ s0 _ _ => run_next rfl rfl),
  (fun _ s0 _ _ _ => run_next rfl rfl),
  (fun _ s0 _ _ => run_next rfl rfl),
  (fun _ s0 _ => run_next rfl rfl),
  (fun _ _ => run_next rfl rfl),
  (fun s0 _ _ => run_next rfl rfl),
  (fun _ s0 _ _ => run_next rfl rfl),
  (fun _ s0 _ _ _ => run_next rfl rfl),
  (fun _ s0 _ _ => run_next rfl rfl),
  (fun _ s0 _ => run_next rfl rfl),
  (fun _ _ => run_next rfl rfl),
  (fun _ s0 _ => run_next rfl rfl),
  (fun _ s0 _ _ => run_next rfl rfl),
  (fun _ s0 _ => run_ret rfl rfl)⟩
theorem e_1300 (a0 : Int32) (h : Hp) : call 1300 [vi a0] h = run 0 1300 0 [some (vi a0)] [] h := rfl
set_option maxRecDepth 20000 in
theorem x_1400 : (∀ (l0 l1 l2 l3 : Option AV) (h : Hp), run 0 1400 0 [l0, l1, l2, l3] [] h = run 0 1400 1 [l0, l1, l2, l3] [vi (0 : Int32)] h) ∧
  (∀ (l0 l2 l3 : Option AV) (s0 : Int32) (h : Hp), run 0 1400 1 [l0, none, l2, l3] [vi s0] h = run 0 1400 2 [l0, none, some (vi s0), l3] [] h) ∧
  (∀ (l0 l2 l3 : Option AV) (s0 : Int32) (w1 : Int32) (h : Hp), run 0 1400 1 [l0, some (vi w1), l2, l3] [vi s0] h = run 0 1400 2 [l0, some (vi w1), some (vi s0), l3] [] h) ∧
  (∀ (l0 l2 l3 : Option AV) (s0 : Int32) (w1 : Option Rf) (h : Hp), run 0 1400 1 [l0, some (vo w1), l2, l3] [vi s0] h = run 0 1400 2 [l0, some (vo w1), some (vi s0), l3] [] h) ∧
  (∀ (l1 l2 l3 : Option AV) (w : Option Rf) (h : Hp), run 0 1400 2 [some (vo w), l1, l2, l3] [] h = run 0 1400 3 [some (vo w), l1, l2, l3] [vo w] h) ∧
  (∀ (l0 l1 l2 l3 : Option AV) (o z : Nat) (h : Hp), run 0 1400 3 [l0, l1, l2, l3] [vo (some (o, 13, z))] h = run 0 1400 4 [l0, l1, l2, l3] [vi (Int32.ofNat z)] h) ∧
  (∀ (l0 l1 l2 l3 : Option AV) (o z : Nat) (h : Hp), run 0 1400 3 [l0, l1, l2, l3] [vo (some (o, 14, z))] h = run 0 1400 4 [l0, l1, l2, l3] [vi (Int32.ofNat z)] h) ∧
  (∀ (l0 l1 l2 l3 : Option AV) (o z : Nat) (h : Hp), run 0 1400 3 [l0, l1, l2, l3] [vo (some (o, 15, z))] h = run 0 1400 4 [l0, l1, l2, l3] [vi (Int32.ofNat z)] h) ∧
  (∀ (l0 l1 l3 : Option AV) (s0 : Int32) (h : Hp), run 0 1400 4 [l0, l1, none, l3] [vi s0] h = run 0 1400 5 [l0, l1, none, some (vi s0)] [] h) ∧
  (∀ (l0 l1 l3 : Option AV) (s0 : Int32) (w1 : Int32) (h : Hp), run 0 1400 4 [l0, l1, some (vi w1), l3] [vi s0] h = run 0 1400 5 [l0, l1, some (vi w1), some (vi s0)] [] h) ∧
  (∀ (l0 l1 l3 : Option AV) (s0 : Int32) (w1 : Option Rf) (h : Hp), run 0 1400 4 [l0, l1, some (vo w1), l3] [vi s0] h = run 0 1400 5 [l0, l1, some (vo w1), some (vi s0)] [] h) ∧
  (∀ (l0 l1 l2 : Option AV) (s0 : Int32) (w : Int32) (h : Hp), run 0 1400 6 [l0, l1, l2, some (vi w)] [vi s0] h = run 0 1400 7 [l0, l1, l2, some (vi w)] [vi w, vi s0] h) ∧
  (∀ (l0 l1 l2 l3 : Option AV) (s0 : Int32) (s1 : Int32) (h : Hp), run 0 1400 7 [l0, l1, l2, l3] [vi s0, vi s1] h = if s0 ≤ s1 then run 0 1400 20 [l0, l1, l2, l3] [] h else run 0 1400 10 [l0, l1, l2, l3] [] h) ∧
  (∀ (l1 l2 l3 : Option AV) (w : Option Rf) (h : Hp), run 0 1400 10 [some (vo w), l1, l2, l3] [] h = run 0 1400 11 [some (vo w), l1, l2, l3] [vo w] h) ∧
  (∀ (l0 l1 l3 : Option AV) (s0 : Option Rf) (w : Int32) (h : Hp), run 0 1400 11 [l0, l1, some (vi w), l3] [vo s0] h = run 0 1400 12 [l0, l1, some (vi w), l3] [vi w, vo s0] h) ∧
  (∀ (l0 l2 l3 : Option AV) (s0 : Int32) (s1 : Option Rf) (w : Int32) (h : Hp), run 0 1400 12 [l0, some (vi w), l2, l3] [vi s0, vo s1] h = run 0 1400 13 [l0, some (vi w), l2, l3] [vi w, vi s0, vo s1] h) ∧
  (∀ (l0 l1 l2 l3 : Option AV) (s0 : Int32) (s1 : Int32) (o z : Nat) (h : Hp), run 0 1400 13 [l0, l1, l2, l3] [vi s0, vi s1, vo (some (o, 13, z))] h = if s1 < 0 ∨ z ≤ s1.toNatClampNeg then none else run 0 1400 14 [l0, l1, l2, l3] [] (hsI h o s1.toNatClampNeg s0)) ∧
  (∀ (l0 l3 : Option AV) (w : Int32) (h : Hp), run 0 1400 14 [l0, none, some (vi w), l3] [] h = run 0 1400 17 [l0, none, some (vi (w + (1 : Int32))), l3] [] h) ∧
  (∀ (l0 l3 : Option AV) (w1 : Int32) (w : Int32) (h : Hp), run 0 1400 14 [l0, some (vi w1), some (vi w), l3] [] h = run 0 1400 17 [l0, some (vi w1), some (vi (w + (1 : Int32))), l3] [] h) ∧
  (∀ (l0 l3 : Option AV) (w1 : Option Rf) (w : Int32) (h : Hp), run 0 1400 14 [l0, some (vo w1), some (vi w), l3] [] h = run 0 1400 17 [l0, some (vo w1), some (vi (w + (1 : Int32))), l3] [] h) ∧
  (∀ (l0 l1 l2 l3 : Option AV) (h : Hp), run 0 1400 17 [l0, l1, l2, l3] [] h = run 0 1400 5 [l0, l1, l2, l3] [] h) ∧
  (∀ (l0 l1 l2 l3 : Option AV) (h : Hp), run 0 1400 20 [l0, l1, l2, l3] [] h = some (none, h)) := ⟨(fun _ _ _ _ _ => run_next rfl rfl),
  (fun _ _ _ s0 _ => run_next rfl rfl),
  (fun _ _ _ s0 _ _ => run_next rfl rfl),
  (fun _ _ _ s0 _ _ => run_next rfl rfl),
  (fun _ _ _ _ _ => run_next rfl rfl),
  (fun _ _ _ _ _ _ _ => run_next rfl rfl),
  (fun _ _ _ _ _ _ _ => run_next rfl rfl),
  (fun _ _ _ _ _ _ _ => run_next rfl rfl),
  (fun _ _ _ s0 _ => run_next rfl rfl),
  (fun _ _ _ s0 _ _ => run_next rfl rfl),
  (fun _ _ _ s0 _ _ => run_next rfl rfl),
  (fun _ _ _ s0 _ _ => run_next rfl rfl),
  (fun _ _ _ _ s0 _ _ => run_if rfl rfl (run_next rfl) (run_next rfl)),
  (fun _ _ _ _ _ => run_next rfl rfl),
  (fun _ _ _ s0 _ _ => run_next rfl rfl),
  (fun _ _ _ s0 _ _ _ => run_next rfl rfl),
  (fun _ _ _ _ s0 _ _ _ _ => run_if rfl rfl (run_fail rfl) (run_next rfl)),
  (fun _ _ _ _ => run_next rfl rfl),
  (fun _ _ _ _ _ => run_next rfl rfl),
  (fun _ _ _ _ _ => run_next rfl rfl),
  (fun _ _ _ _ _ => run_next rfl rfl),
  (fun _ _ _ _ _ => run_ret rfl rfl)⟩
set_option maxRecDepth 20000 in
theorem x_1400_5 : (∀ (l0 l1 l3 : Option AV) (w : Int32) (h : Hp), run 0 1400 5 [l0, l1, some (vi w), l3] [] h = run 0 1400 6 [l0, l1, some (vi w), l3] [vi w] h) := (fun _ _ _ _ _ => run_next rfl rfl)
theorem e_1400 (a0 : Option Rf) (a1 : Int32) (h : Hp) : call 1400 [vo a0, vi a1] h = run 0 1400 0 [some (vo a0), some (vi a1), none, none] [] h := rfl
