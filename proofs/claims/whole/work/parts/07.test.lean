theorem t_1207 (a b : Int32) (h : Hp) : call 1207 [vi a, vi b] h = some (some (vi (if b ≤ a then a - b else b - a)), h) := by
  simp only [e_1207, x_1207]
  split <;> rfl
theorem t_1208 (m : Nat) (a b : Int32) (h : Hp) (hc : ¬ hI h m 1 = 0) : call 1208 [vo (some (m, 12, 0)), vi a, vi b] h = none := by
  simp only [e_1208, x_1208, t_1207, hc, xs]
theorem t_1201 (a b c : Int64) (h : Hp) : call 1201 [vl a, vl b, vl c] h = none := by
  simp only [e_1201, x_1201, xs]
theorem t_1206 (m : Nat) (a b : Int32) (h : Hp) (hc : ¬ hI h m 1 = 0) : call 1206 [vo (some (m, 12, 0)), vi a, vi b] h = none := by
  simp only [e_1206, x_1206, t_1207, hc, xs]
