theorem sd_mall : ∀ m ∈ sd_ids, sd_mb m = true ∧ sd_chk m = true := sorry
theorem sd_val {m pc : Nat} {e : am_En} (hm : m ∈ sd_ids) (h : am_cd m pc = some e) : sd_vb m pc e = true := sorry
