/-! THE SIMULATION: making cells, storing references, copying, the JDK's small functions -/
def sd_up {α : Type} (f : Nat → α) (n : Nat) (v : α) : Nat → α := fun i => if i = n then v else f i
theorem sd_up_lt {α : Type} {f : Nat → α} {n i : Nat} {v : α} (h : i < n) : sd_up f n v i = f i := if_neg (Nat.ne_of_lt h)
theorem sd_up_eq {α : Type} {f : Nat → α} {n : Nat} {v : α} : sd_up f n v n = v := if_pos rfl
theorem hI_hmk {h : Hp} {w i j : Nat} : hI (hmk h w) i j = if i = h.1.1 then 0 else hI h i j := rfl
theorem hR_hmk {h : Hp} {w i j : Nat} : hR (hmk h w) i j = if i = h.1.1 then none else hR h i j := rfl
theorem sd_fv_ext {γ γ2 : Nat → Nat} {κ : Nat → ClassId} {sh : Nat → Nat × Nat} {h h2 : Hp} {s : State} {i k : Nat} (hG : sd_G γ κ sh h s) (hi : i < h.1.1) (hg : ∀ x, x < h.1.1 → γ2 x = γ x) (e1 : hI h2 i = hI h i) (e2 : hR h2 i = hR h i) : sd_fv γ2 h2 k i = sd_fv γ h k i := by
  funext z
  simp only [sd_fv, e1, e2]
  split
  · cases hq : hR h i z with
    | none => rfl
    | some r => simp only [Option.map_some, hg _ (hG.2.2 i hi z r hq).1]
  · rfl
theorem sd_qa_ext {γ γ2 : Nat → Nat} {κ : Nat → ClassId} {sh : Nat → Nat × Nat} {h h2 : Hp} {s : State} {i : Nat} (hG : sd_G γ κ sh h s) (hi : i < h.1.1) (hg : ∀ x, x < h.1.1 → γ2 x = γ x) (e2 : hR h2 i = hR h i) : sd_qa γ2 h2 i = sd_qa γ h i := by
  funext z
  simp only [sd_qa, e2]
  cases hq : hR h i z with
  | none => rfl
  | some r => simp only [Option.map_some, hg _ (hG.2.2 i hi z r hq).1]
theorem sd_E_ext {γ γ2 : Nat → Nat} {κ κ2 : Nat → ClassId} {sh sh2 : Nat → Nat × Nat} {h h2 : Hp} {s : State} {i : Nat} (hG : sd_G γ κ sh h s) (hi : i < h.1.1) (hg : ∀ x, x < h.1.1 → γ2 x = γ x) (hk : κ2 i = κ i) (hs : sh2 i = sh i) (e1 : hI h2 i = hI h i) (e2 : hR h2 i = hR h i) : sd_E γ2 κ2 sh2 h2 i = sd_E γ κ sh h i := by
  unfold sd_E sd_fs
  rw [hk, hs, e1, sd_qa_ext hG hi hg e2, sd_fv_ext hG hi hg e1 e2]
/-- the world with one more cell -/
theorem sd_wsP {γ : Nat → Nat} {κ : Nat → ClassId} {sh : Nat → Nat × Nat} {h : Hp} {s : State} {w q0 : Nat} {cA : ClassId} {kz : Nat × Nat} (hG : sd_G γ κ sh h s) :
    sd_ws (sd_up γ h.1.1 q0) (sd_up κ h.1.1 cA) (sd_up sh h.1.1 kz) (hmk h w) = sd_ws γ κ sh h ++ [(q0, sd_E (sd_up γ h.1.1 q0) (sd_up κ h.1.1 cA) (sd_up sh h.1.1 kz) (hmk h w) h.1.1)] := by
  show (List.range (h.1.1 + 1)).map _ = _
  rw [List.range_succ, List.map_append]
  congr 1
  · refine List.map_congr_left fun i hi => ?_
    have hi := List.mem_range.mp hi
    rw [sd_up_lt hi, sd_E_ext hG hi (fun x hx => sd_up_lt hx) (sd_up_lt hi) (sd_up_lt hi) (by funext z; rw [hI_hmk, if_neg (Nat.ne_of_lt hi)]) (by funext z; rw [hR_hmk, if_neg (Nat.ne_of_lt hi)])]
  · simp only [List.map_cons, List.map_nil]
    rw [sd_up_eq]
theorem sd_G_mk {γ : Nat → Nat} {κ : Nat → ClassId} {sh : Nat → Nat × Nat} {h : Hp} {s : State} {w q0 : Nat} {cA : ClassId} {kz : Nat × Nat} (hG : sd_G γ κ sh h s) (hk : kz.1 < 16) (ha : 13 ≤ kz.1 → ArrOfT s cA (sd_at kz.1) ∧ va_RA s cA (sd_at kz.1)) : sd_G (sd_up γ h.1.1 q0) (sd_up κ h.1.1 cA) (sd_up sh h.1.1 kz) (hmk h w) s := by
  refine ⟨fun i hi => ?_, fun i hi hk2 => ?_, fun i hi z r hr => ?_⟩
  · have hi : i < h.1.1 + 1 := hi
    by_cases hq : i = h.1.1
    · subst hq; rw [sd_up_eq]; exact hk
    · rw [sd_up_lt (by omega)]; exact hG.1 i (by omega)
  · have hi : i < h.1.1 + 1 := hi
    by_cases hq : i = h.1.1
    · subst hq; rw [sd_up_eq] at hk2 ⊢; rw [sd_up_eq]; exact ha hk2
    · rw [sd_up_lt (show i < h.1.1 by omega)] at hk2
      rw [sd_up_lt (show i < h.1.1 by omega), sd_up_lt (show i < h.1.1 by omega)]; exact hG.2.1 i (by omega) hk2
  · have hi : i < h.1.1 + 1 := hi
    rw [hR_hmk] at hr
    split at hr
    · cases hr
    · rename_i hq
      obtain ⟨h1, h2⟩ := hG.2.2 i (by omega) z r hr
      exact ⟨Nat.lt_succ_of_lt h1, by rw [sd_up_lt h1]; exact h2⟩
theorem sd_cl_nw {s : State} {args : Array Value} (hts : ∀ w ∈ sd_tb, w.before args s = true) {k : Nat} (hk : k < 13) : (Cond.instantiable (sd_R k) (sd_N k)).before args s = true ∧ (Cond.initialized (sd_R k)).before args s = true := by
  match k, hk with
  | 0, _ => exact ⟨hts _ (sd_in 257 (by decide +kernel) rfl), hts _ (sd_in 71 (by decide +kernel) rfl)⟩
  | 1, _ => exact ⟨hts _ (sd_in 515 (by decide +kernel) rfl), hts _ (sd_in 82 (by decide +kernel) rfl)⟩
  | 2, _ => exact ⟨hts _ (sd_in 506 (by decide +kernel) rfl), hts _ (sd_in 81 (by decide +kernel) rfl)⟩
  | 3, _ => exact ⟨hts _ (sd_in 497 (by decide +kernel) rfl), hts _ (sd_in 80 (by decide +kernel) rfl)⟩
  | 4, _ => exact ⟨hts _ (sd_in 198 (by decide +kernel) rfl), hts _ (sd_in 69 (by decide +kernel) rfl)⟩
  | 5, _ => exact ⟨hts _ (sd_in 95 (by decide +kernel) rfl), hts _ (sd_in 65 (by decide +kernel) rfl)⟩
  | 6, _ => exact ⟨hts _ (sd_in 533 (by decide +kernel) rfl), hts _ (sd_in 84 (by decide +kernel) rfl)⟩
  | 7, _ => exact ⟨hts _ (sd_in 231 (by decide +kernel) rfl), hts _ (sd_in 70 (by decide +kernel) rfl)⟩
  | 8, _ => exact ⟨hts _ (sd_in 524 (by decide +kernel) rfl), hts _ (sd_in 83 (by decide +kernel) rfl)⟩
  | 9, _ => exact ⟨hts _ (sd_in 479 (by decide +kernel) rfl), hts _ (sd_in 79 (by decide +kernel) rfl)⟩
  | 10, _ => exact ⟨hts _ (sd_in 157 (by decide +kernel) rfl), hts _ (sd_in 68 (by decide +kernel) rfl)⟩
  | 11, _ => exact ⟨hts _ (sd_in 87 (by decide +kernel) rfl), hts _ (sd_in 64 (by decide +kernel) rfl)⟩
  | 12, _ => exact ⟨hts _ (sd_in 933 (by decide +kernel) rfl), hts _ (sd_in 72 (by decide +kernel) rfl)⟩
theorem sd_dv {k : Nat} (hk : k < 13) : ∀ z, z < sd_N k → defaultValue (sd_ty k z) = (if sd_rf k z = true then .null else .int 0) := by
  match k, hk with
  | 0, _ => exact (by decide +kernel : ∀ z, z < 2 → defaultValue (tyX0 z) = (if sd_rf 0 z = true then .null else .int 0))
  | 1, _ => exact (by decide +kernel : ∀ z, z < 2 → defaultValue (tyX1 z) = (if sd_rf 1 z = true then .null else .int 0))
  | 2, _ => exact (by decide +kernel : ∀ z, z < 2 → defaultValue (tyX2 z) = (if sd_rf 2 z = true then .null else .int 0))
  | 3, _ => exact (by decide +kernel : ∀ z, z < 2 → defaultValue (tyX3 z) = (if sd_rf 3 z = true then .null else .int 0))
  | 4, _ => exact (by decide +kernel : ∀ z, z < 7 → defaultValue (tyX4 z) = (if sd_rf 4 z = true then .null else .int 0))
  | 5, _ => exact (by decide +kernel : ∀ z, z < 9 → defaultValue (tyX5 z) = (if sd_rf 5 z = true then .null else .int 0))
  | 6, _ => exact (by decide +kernel : ∀ z, z < 2 → defaultValue (tyX6 z) = (if sd_rf 6 z = true then .null else .int 0))
  | 7, _ => exact (by decide +kernel : ∀ z, z < 6 → defaultValue (tyX7 z) = (if sd_rf 7 z = true then .null else .int 0))
  | 8, _ => exact (by decide +kernel : ∀ z, z < 2 → defaultValue (tyX8 z) = (if sd_rf 8 z = true then .null else .int 0))
  | 9, _ => exact (by decide +kernel : ∀ z, z < 2 → defaultValue (tyX9 z) = (if sd_rf 9 z = true then .null else .int 0))
  | 10, _ => exact (by decide +kernel : ∀ z, z < 6 → defaultValue (tyX10 z) = (if sd_rf 10 z = true then .null else .int 0))
  | 11, _ => exact (by decide +kernel : ∀ z, z < 10 → defaultValue (tyX11 z) = (if sd_rf 11 z = true then .null else .int 0))
  | 12, _ => exact (by decide +kernel : ∀ z, z < 43 → defaultValue (tyX12 z) = (if sd_rf 12 z = true then .null else .int 0))
section SIM
variable {p : Program} {l : Launch} {e : Env} {R : Room} {s : State} {m : MethodId} {args : Array Value} {below : List Frame} {meth : Method} {c : Code} {Q : State → Prop} {D : va_G} {A : Nat → Prop} {n0 : Nat} {γ0 : Nat → Nat} {κ0 : Nat → ClassId} {sh0 : Nat → Nat × Nat} {j cells slots pc pc2 len a b cq q : Nat} {ls ls2 : Lc} {st st2 : List AV} {h h2 : Hp}
theorem sm_new {n : Nat} (C : sd_Cx p s m args meth c j D A) (hv : sd_vb j pc (.new n, len, a, b, cq, q) = true) (hs : am_stp pc (.new n) len a b cq ls st h = some (.inl (pc2, ls2, st2, h2)))
    (kk : sd_W p l e R s m args below meth c D A n0 γ0 κ0 sh0 Q j (cells + (h2.1.1 - h.1.1)) (slots + (h2.1.2 - h.1.2)) pc2 ls2 st2 h2) (hc1 : cells + (h2.1.1 - h.1.1) ≤ R.cells) (hc2 : slots + (h2.1.2 - h.1.2) ≤ R.slots) : sd_W p l e R s m args below meth c D A n0 γ0 κ0 sh0 Q j cells slots pc ls st h := by
  obtain ⟨hx, hb, hml, hr, hlk, hown, hts, hnm, hKB, hA⟩ := C
  simp only [sd_vb, Bool.and_eq_true, decide_eq_true_eq, beq_iff_eq] at hv
  obtain ⟨hd, ⟨⟨rfl, ha⟩, rfl⟩, hq⟩ := hv
  simp only [am_stp] at hs
  simp only [am_nx, Option.some.injEq, Sum.inl.injEq, Prod.mk.injEq] at hs
  obtain ⟨rfl, rfl, rfl, rfl⟩ := hs
  intro γ κ sh H locs lsC hn0 hg hRl hS hL hO
  have e1 : (hmk h (sd_N a)).1.1 - h.1.1 = 1 := by show h.1.1 + 1 - h.1.1 = 1; omega
  have e2 : (hmk h (sd_N a)).1.2 - h.1.2 = sd_N a := by show h.1.2 + sd_N a - h.1.2 = sd_N a; omega
  rw [e1] at hc1; rw [e2] at hc2; rw [e1, e2] at kk
  refine va_new (ci := a) (fs := sd_fs γ (hmk h (sd_N a)) a h.1.1) (C := sd_R a) (T := sd_T a) (N := sd_N a) hx hb hts (sd_inT ha) (sd_ty a) (sd_tyo ha) hown (hts _ (sd_in q hq rfl)) (sd_cl_nw hts ha).1 (sd_cl_nw hts ha).2 (sd_hK0 hKB) hRl.1 hRl.2.1 hS hA (sd_clk ha) (fun z hz => ?_) hc1 hc2 hd (fun q0 H1 hP hD hS1 => ?_)
  · rw [sd_dv ha z hz]
    have : vp_V (sd_fs γ (hmk h (sd_N a)) a h.1.1) z = sd_fv γ (hmk h (sd_N a)) a h.1.1 z := by simp [vp_V, sd_fsG hz]
    rw [this]
    simp only [sd_fv, hI_hmk, hR_hmk, if_true, Option.map_none]
    rfl
  · have hE : sd_E (sd_up γ h.1.1 q0) (sd_up κ h.1.1 0) (sd_up sh h.1.1 (a, 0)) (hmk h (sd_N a)) h.1.1 = .inr (a, sd_fs γ (hmk h (sd_N a)) a h.1.1) := by
      rw [sd_E_obj (k := a) (z := 0) sd_up_eq ha]
      have : sd_fs (sd_up γ h.1.1 q0) (hmk h (sd_N a)) a h.1.1 = sd_fs γ (hmk h (sd_N a)) a h.1.1 := by
        unfold sd_fs
        refine List.map_congr_left fun z _ => ?_
        simp only [sd_fv, hR_hmk, if_true, Option.map_none]
      rw [this]
    rw [← hE, ← sd_wsP hRl.2.2] at hP hD
    have hok : ∀ v ∈ st, sd_OK (sd_up sh h.1.1 (a, 0)) (h.1.1 + 1) v := fun v hv => sd_OK_ext (Nat.le_succ _) (fun i hi => sd_up_lt hi) (hO v hv)
    have := kk (sd_up γ h.1.1 q0) (sd_up κ h.1.1 0) (sd_up sh h.1.1 (a, 0)) H1 locs lsC (by show n0 ≤ h.1.1 + 1; omega) (fun i hi => by rw [sd_up_lt (show i < h.1.1 by omega), sd_up_lt (show i < h.1.1 by omega), sd_up_lt (show i < h.1.1 by omega)]; exact hg i hi) ⟨hP, hD, sd_G_mk hRl.2.2 (by omega) (fun z => absurd z (by omega))⟩ hS1 (sd_LR_ext (Nat.le_succ _) (fun i hi => sd_up_lt hi) (fun i hi => sd_up_lt hi) hL) (sd_Oc (fun r hr => by cases hr; exact ⟨Nat.lt_succ_self _, sd_up_eq⟩) hok)
    rw [List.map_cons, sd_map_ext (fun i hi => sd_up_lt hi) hO] at this
    have e3 : sd_cv (sd_up γ h.1.1 q0) (vr (h.1.1, a, 0)) = .ref q0 := by simp [sd_cv, va_rf, sd_up_eq]
    rw [e3] at this
    exact this
theorem sm_newarray  (C : sd_Cx p s m args meth c j D A) (hv : sd_vb j pc (.newarray .int, len, a, b, cq, q) = true) (hs : am_stp pc (.newarray .int) len a b cq ls st h = some (.inl (pc2, ls2, st2, h2)))
    (kk : sd_W p l e R s m args below meth c D A n0 γ0 κ0 sh0 Q j (cells + (h2.1.1 - h.1.1)) (slots + (h2.1.2 - h.1.2)) pc2 ls2 st2 h2) (hc1 : cells + (h2.1.1 - h.1.1) ≤ R.cells) (hc2 : slots + (h2.1.2 - h.1.2) ≤ R.slots) : sd_W p l e R s m args below meth c D A n0 γ0 κ0 sh0 Q j cells slots pc ls st h := by
  obtain ⟨hx, hb, hml, hr, hlk, hown, hts, hnm, hKB, hA⟩ := C
  simp only [sd_vb, Bool.and_eq_true, decide_eq_true_eq, beq_iff_eq] at hv
  obtain ⟨hd, rfl⟩ := hv
  simp only [am_stp] at hs
  split at hs
  · rename_i n r
    split at hs
    · cases hs
    · rename_i hin
      simp only [am_nx, Option.some.injEq, Sum.inl.injEq, Prod.mk.injEq] at hs
      obtain ⟨rfl, rfl, rfl, rfl⟩ := hs
      intro γ κ sh H locs lsC hn0 hg hRl hS hL hO
      have hn : ¬ n < 0 := fun z => hin (Or.inl z)
      have hN : n.toNatClampNeg < 100000 := Nat.not_le.mp (fun z => hin (Or.inr z))
      have e1 : (hmk h n.toNatClampNeg).1.1 - h.1.1 = 1 := by show h.1.1 + 1 - h.1.1 = 1; omega
      have e2 : (hmk h n.toNatClampNeg).1.2 - h.1.2 = n.toNatClampNeg := by show h.1.2 + n.toNatClampNeg - h.1.2 = n.toNatClampNeg; omega
      rw [e1] at hc1; rw [e2] at hc2; rw [e1, e2] at kk
      refine va_newa (atype := .int) (ty := .int) (a0 := (n.toNatClampNeg, .inl (fun _ => 0))) hx hb (hts _ (sd_in 155 (by decide +kernel) rfl)) rfl (sd_hK0 hKB) hRl.1 hRl.2.1 hS hA (fun cA => rfl) hn rfl (Nat.le_trans (Nat.mul_le_mul_right _ (Nat.le_of_lt hN)) (Nat.le_of_ble_eq_true rfl)) hc1 hc2 hd (fun q0 cA H1 hK2 hP hD hS1 => ?_)
      have hka := hK2.2 0 _ rfl
      have hE : sd_E (sd_up γ h.1.1 q0) (sd_up κ h.1.1 cA) (sd_up sh h.1.1 (13, n.toNatClampNeg)) (hmk h n.toNatClampNeg) h.1.1 = .inl (cA, (n.toNatClampNeg, .inl (fun _ => 0))) := by
        rw [sd_E_int (z := n.toNatClampNeg) sd_up_eq, sd_up_eq]
        have : hI (hmk h n.toNatClampNeg) h.1.1 = fun _ => 0 := by funext z; rw [hI_hmk, if_pos rfl]
        rw [this]
      rw [← hE, ← sd_wsP hRl.2.2] at hP hD
      have hok : ∀ v ∈ r, sd_OK (sd_up sh h.1.1 (13, n.toNatClampNeg)) (h.1.1 + 1) v := fun v hv => sd_OK_ext (Nat.le_succ _) (fun i hi => sd_up_lt hi) (sd_Ot hO v hv)
      have := kk (sd_up γ h.1.1 q0) (sd_up κ h.1.1 cA) (sd_up sh h.1.1 (13, n.toNatClampNeg)) H1 locs lsC (by show n0 ≤ h.1.1 + 1; omega) (fun i hi => by rw [sd_up_lt (show i < h.1.1 by omega), sd_up_lt (show i < h.1.1 by omega), sd_up_lt (show i < h.1.1 by omega)]; exact hg i hi) ⟨hP, hD, sd_G_mk hRl.2.2 (Nat.le_of_ble_eq_true rfl) (fun _ => hka)⟩ hS1 (sd_LR_ext (Nat.le_succ _) (fun i hi => sd_up_lt hi) (fun i hi => sd_up_lt hi) hL) (sd_Oc (fun r hr => by cases hr; exact ⟨Nat.lt_succ_self _, sd_up_eq⟩) hok)
      rw [List.map_cons, sd_map_ext (fun i hi => sd_up_lt hi) (sd_Ot hO)] at this
      have e3 : sd_cv (sd_up γ h.1.1 q0) (vr (h.1.1, 13, n.toNatClampNeg)) = .ref q0 := by simp [sd_cv, va_rf, sd_up_eq]
      rw [e3] at this
      exact this
  · cases hs
theorem sm_anewarray {k : Nat} (C : sd_Cx p s m args meth c j D A) (hv : sd_vb j pc (.anewarray k, len, a, b, cq, q) = true) (hs : am_stp pc (.anewarray k) len a b cq ls st h = some (.inl (pc2, ls2, st2, h2)))
    (kk : sd_W p l e R s m args below meth c D A n0 γ0 κ0 sh0 Q j (cells + (h2.1.1 - h.1.1)) (slots + (h2.1.2 - h.1.2)) pc2 ls2 st2 h2) (hc1 : cells + (h2.1.1 - h.1.1) ≤ R.cells) (hc2 : slots + (h2.1.2 - h.1.2) ≤ R.slots) : sd_W p l e R s m args below meth c D A n0 γ0 κ0 sh0 Q j cells slots pc ls st h := by
  obtain ⟨hx, hb, hml, hr, hlk, hown, hts, hnm, hKB, hA⟩ := C
  simp only [sd_vb, Bool.and_eq_true, decide_eq_true_eq, beq_iff_eq] at hv
  obtain ⟨hd, rfl, hq⟩ := hv
  simp only [am_stp] at hs
  split at hs
  · rename_i n r
    split at hs
    · cases hs
    · rename_i hin
      simp only [am_nx, Option.some.injEq, Sum.inl.injEq, Prod.mk.injEq] at hs
      obtain ⟨rfl, rfl, rfl, rfl⟩ := hs
      intro γ κ sh H locs lsC hn0 hg hRl hS hL hO
      have hn : ¬ n < 0 := fun z => hin (Or.inl z)
      have hN : n.toNatClampNeg < 100000 := Nat.not_le.mp (fun z => hin (Or.inr z))
      have e1 : (hmk h n.toNatClampNeg).1.1 - h.1.1 = 1 := by show h.1.1 + 1 - h.1.1 = 1; omega
      have e2 : (hmk h n.toNatClampNeg).1.2 - h.1.2 = n.toNatClampNeg := by show h.1.2 + n.toNatClampNeg - h.1.2 = n.toNatClampNeg; omega
      rw [e1] at hc1; rw [e2] at hc2; rw [e1, e2] at kk
      refine va_newq hx hb hown (hts _ (sd_in q hq rfl)) hKB.2.1 (sd_hK0 hKB) hRl.1 hRl.2.1 hS hA hn rfl (Nat.le_trans (Nat.mul_le_mul_right _ (Nat.le_of_lt hN)) (Nat.le_of_ble_eq_true rfl)) hc1 hc2 hd (fun q0 cA H1 hK2 hP hD hS1 => ?_)
      have hka := hK2.2 0 _ rfl
      have hE : sd_E (sd_up γ h.1.1 q0) (sd_up κ h.1.1 cA) (sd_up sh h.1.1 (14, n.toNatClampNeg)) (hmk h n.toNatClampNeg) h.1.1 = .inl (cA, (n.toNatClampNeg, .inr (.inr (.inr (.inr (fun _ => none)))))) := by
        rw [sd_E_ref (k := 14) (z := n.toNatClampNeg) sd_up_eq (by decide), sd_up_eq]
        have : sd_qa (sd_up γ h.1.1 q0) (hmk h n.toNatClampNeg) h.1.1 = fun _ => none := by funext z; simp [sd_qa, hR_hmk]
        rw [this]
      rw [← hE, ← sd_wsP hRl.2.2] at hP hD
      have hok : ∀ v ∈ r, sd_OK (sd_up sh h.1.1 (14, n.toNatClampNeg)) (h.1.1 + 1) v := fun v hv => sd_OK_ext (Nat.le_succ _) (fun i hi => sd_up_lt hi) (sd_Ot hO v hv)
      have := kk (sd_up γ h.1.1 q0) (sd_up κ h.1.1 cA) (sd_up sh h.1.1 (14, n.toNatClampNeg)) H1 locs lsC (by show n0 ≤ h.1.1 + 1; omega) (fun i hi => by rw [sd_up_lt (show i < h.1.1 by omega), sd_up_lt (show i < h.1.1 by omega), sd_up_lt (show i < h.1.1 by omega)]; exact hg i hi) ⟨hP, hD, sd_G_mk hRl.2.2 (Nat.le_of_ble_eq_true rfl) (fun _ => hka)⟩ hS1 (sd_LR_ext (Nat.le_succ _) (fun i hi => sd_up_lt hi) (fun i hi => sd_up_lt hi) hL) (sd_Oc (fun r hr => by cases hr; exact ⟨Nat.lt_succ_self _, sd_up_eq⟩) hok)
      rw [List.map_cons, sd_map_ext (fun i hi => sd_up_lt hi) (sd_Ot hO)] at this
      have e3 : sd_cv (sd_up γ h.1.1 q0) (vr (h.1.1, 14, n.toNatClampNeg)) = .ref q0 := by simp [sd_cv, va_rf, sd_up_eq]
      rw [e3] at this
      exact this
  · cases hs
theorem sm_aastore  (C : sd_Cx p s m args meth c j D A) (hv : sd_vb j pc (.aastore, len, a, b, cq, q) = true) (hs : am_stp pc (.aastore) len a b cq ls st h = some (.inl (pc2, ls2, st2, h2)))
    (kk : sd_W p l e R s m args below meth c D A n0 γ0 κ0 sh0 Q j (cells + (h2.1.1 - h.1.1)) (slots + (h2.1.2 - h.1.2)) pc2 ls2 st2 h2) : sd_W p l e R s m args below meth c D A n0 γ0 κ0 sh0 Q j cells slots pc ls st h := by
  obtain ⟨hx, hb, hml, hr, hlk, hown, hts, hnm, hKB, hA⟩ := C
  simp only [sd_vb, Bool.and_eq_true, decide_eq_true_eq, beq_iff_eq] at hv
  obtain ⟨hd, rfl⟩ := hv
  simp only [am_stp] at hs
  split at hs
  · rename_i i o z r
    split at hs
    · cases hs
    · rename_i hin
      simp only [am_nx, Option.some.injEq, Sum.inl.injEq, Prod.mk.injEq] at hs
      obtain ⟨rfl, rfl, rfl, rfl⟩ := hs
      intro γ κ sh H locs lsC hn0 hg hRl hS hL hO
      simp only [hsR, Nat.sub_self, Nat.add_zero] at kk
      obtain ⟨ho, hsh⟩ := (show o < h.1.1 ∧ sh o = (14, z) from sd_Oh (sd_Ot (sd_Ot hO)) (o, 14, z) rfl)
      have he := (sd_wsG (γ := γ) (κ := κ) (sh := sh) ho).trans (by rw [sd_E_ref hsh (by decide)])
      have hka := hRl.2.2.2.1 o ho (by rw [hsh]; exact Nat.le_of_ble_eq_true rfl)
      rw [hsh] at hka
      have hset : ∀ v : Option Nat, v = (none : Option Rf).map (fun r => γ r.1) → (sd_ws γ κ sh h).set o (γ o, .inl (κ o, z, .inr (.inr (.inr (.inr (va_up (sd_qa γ h o) i.toNatClampNeg v)))))) = sd_ws γ κ sh (hsR h o i.toNatClampNeg none) := by
        intro v hv
        refine sd_wsS (h := h) (h2 := hsR h o i.toNatClampNeg none) rfl (fun w hw => sd_E_ne (fun _ => rfl) (fun y => by rw [hR_hsR, if_neg (fun q => hw q.1)])) _ ?_
        rw [sd_E_ref hsh (by decide)]
        have : va_up (sd_qa γ h o) i.toNatClampNeg v = sd_qa γ (hsR h o i.toNatClampNeg none) o := by
          funext w
          simp only [sd_qa, hR_hsR, va_up]
          by_cases hw : w = i.toNatClampNeg
          · simp [hw, hv]
          · simp [hw]
        rw [this]
      refine va_astqN hx hb (sd_hK1 hKB hka) hRl.1 hRl.2.1 hS o 0 he rfl hin hd (fun H1 locs1 hP hD hS1 => ?_)
      rw [hset none rfl] at hP hD
      exact kk γ κ sh H1 locs1 lsC hn0 hg ⟨hP, hD, sd_G_R hRl.2.2 sd_OKn⟩ hS1 hL (sd_Ot (sd_Ot (sd_Ot hO)))
  · rename_i x k y i o z r
    split at hs
    · cases hs
    · rename_i hin
      simp only [am_nx, Option.some.injEq, Sum.inl.injEq, Prod.mk.injEq] at hs
      obtain ⟨rfl, rfl, rfl, rfl⟩ := hs
      intro γ κ sh H locs lsC hn0 hg hRl hS hL hO
      simp only [hsR, Nat.sub_self, Nat.add_zero] at kk
      obtain ⟨ho, hsh⟩ := (show o < h.1.1 ∧ sh o = (14, z) from sd_Oh (sd_Ot (sd_Ot hO)) (o, 14, z) rfl)
      have he := (sd_wsG (γ := γ) (κ := κ) (sh := sh) ho).trans (by rw [sd_E_ref hsh (by decide)])
      have hka := hRl.2.2.2.1 o ho (by rw [hsh]; exact Nat.le_of_ble_eq_true rfl)
      rw [hsh] at hka
      have hset : ∀ v : Option Nat, v = ((some (x, k, y)) : Option Rf).map (fun r => γ r.1) → (sd_ws γ κ sh h).set o (γ o, .inl (κ o, z, .inr (.inr (.inr (.inr (va_up (sd_qa γ h o) i.toNatClampNeg v)))))) = sd_ws γ κ sh (hsR h o i.toNatClampNeg (some (x, k, y))) := by
        intro v hv
        refine sd_wsS (h := h) (h2 := hsR h o i.toNatClampNeg (some (x, k, y))) rfl (fun w hw => sd_E_ne (fun _ => rfl) (fun y => by rw [hR_hsR, if_neg (fun q => hw q.1)])) _ ?_
        rw [sd_E_ref hsh (by decide)]
        have : va_up (sd_qa γ h o) i.toNatClampNeg v = sd_qa γ (hsR h o i.toNatClampNeg (some (x, k, y))) o := by
          funext w
          simp only [sd_qa, hR_hsR, va_up]
          by_cases hw : w = i.toNatClampNeg
          · simp [hw, hv]
          · simp [hw]
        rw [this]
      obtain ⟨hxo, hxs⟩ := (show x < h.1.1 ∧ sh x = (k, y) from sd_Oh hO (x, k, y) rfl)
      have hin1 : ¬ (i < 0 ∨ z ≤ i.toNatClampNeg) := fun q => hin (q.elim Or.inl (fun w => Or.inr (Or.inl w)))
      have hsub : am_sub k 9 = true := by
        cases hq : am_sub k 9 with
        | true => rfl
        | false => exact absurd (Or.inr (Or.inr hq)) hin
      have hk9 := sd_subI hsub
      have hk13 : k < 13 := by omega
      have hex := (sd_wsG (γ := γ) (κ := κ) (sh := sh) hxo).trans (by rw [sd_E_obj hxs hk13])
      have fin : ∀ (H1 : Heap) (locs1 : List Loc), va_P D sd_cl ((sd_ws γ κ sh h).set o (γ o, .inl (κ o, z, .inr (.inr (.inr (.inr (va_up (sd_qa γ h o) i.toNatClampNeg (some (γ x))))))))) H1 → va_D A ((sd_ws γ κ sh h).set o (γ o, .inl (κ o, z, .inr (.inr (.inr (.inr (va_up (sd_qa γ h o) i.toNatClampNeg (some (γ x))))))))) → va_S A s.heap H1 locs1 → W p l e R s m args below meth c H1 locs1 cells slots Q (F0 m (pc + 1) lsC (r.map (sd_cv γ))) := by
        intro H1 locs1 hP hD hS1
        rw [hset (some (γ x)) rfl] at hP hD
        exact kk γ κ sh H1 locs1 lsC hn0 hg ⟨hP, hD, sd_G_R hRl.2.2 (sd_Oh hO)⟩ hS1 hL (sd_Ot (sd_Ot (sd_Ot hO)))
      by_cases hk : k = 9
      · subst hk
        exact va_astq hx hb (sd_hK1 hKB hka) hRl.1 hRl.2.1 hS o 0 x 9 he rfl hex (sd_clk hk13) hin1 hd fin
      · have hca : va_Nw (.castable (sd_R k) "SeenADayLate$Walker") s := hKB.2.2.2.2 k (by omega)
        exact va_astqO hx hb (sd_hK1 hKB hka) hRl.1 hRl.2.1 hS o 0 x k he rfl hca hex (sd_clk hk13) hin1 hd fin
  · cases hs
end SIM
