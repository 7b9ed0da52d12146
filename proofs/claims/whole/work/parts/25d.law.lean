/-- the pure half, as the law needs it -/
def lw_pure (Inv : Nat → Hp → Prop) : Prop := lw_all Inv ∧ (∀ k h, k ≤ 512 → Inv k h → h.1.1 ≤ 600000 ∧ h.1.2 ≤ 7302250) ∧ (∀ k h, Inv k h → Inv (k + 1) h) ∧ (∀ k h, Inv k h → 70 ≤ h.1.1)
def h00 : Hp := ((0, 0), (fun _ _ => 0), (fun _ _ => none))
def lw_start (Inv : Nat → Hp → Prop) : Prop := ∃ h1 h2 : Hp, call 1100 [vr (0, 11, 0)] (hmk h00 10) = some (none, h1) ∧ h1.1.1 = MI ∧ call 1200 [vr (MI, 12, 0)] (hmk h1 43) = some (none, h2) ∧ Inv 0 h2
section WALK
variable {p : Program} {l : Launch} {e : Env} {s : State} {m : MethodId} {below : List Frame} {meth : Method} {c : Code} {b L : Nat} {xs : Nat → Int32} {D : va_G} {Inv : Nat → Hp → Prop}
theorem lw_gt {i L : Nat} (hi : i ≤ 2560) (hL : L ≤ 2560) : (nI L - 5 < nI i) ↔ L < i + 5 := by
  rw [Int32.lt_iff_toInt_lt, show (5 : Int32) = nI 5 from rfl, pk_sub_toInt (by omega) (by omega), nI_toInt (by omega)]
  omega
set_option maxRecDepth 8000 in
theorem lw_loop (hL : L ≤ 2560) (C0 : lw_At p s m meth c b L xs) (hKB : sd_KB D (fun q => s.heap.size ≤ q) s) (hP : lw_pure Inv) : ∀ (n i k : Nat) (h : Hp), 5 * k = i → i ≤ L → L < i + n → Inv k h → lw_H p l e s m below meth c b D 18 i h := by
  obtain ⟨hall, hroom, hmono, hmin⟩ := hP
  obtain ⟨hx, hb, hr, hml, hown, hts0, hX, hbl, hlocks, hgv⟩ := id C0
  have hbA : ¬ (fun q : Nat => s.heap.size ≤ q) b := Nat.not_le.mpr hbl
  intro n
  induction n with
  | zero => intro i k h h1 h2 h3; omega
  | succ n ih =>
    intro i k h hik hi hn0 hI
    intro γ κ sh H locs ls hs0 hsM hn hRl hS hl
    refine lv_iload_n hx hb (lw_d18) rfl (lv_at hl 3 rfl) ?_
    refine lv_aload_n hx hb (lw_d19) rfl (lv_at hl 0 rfl) ?_
    refine va_slen hx hb hX hbl hbA hS (lw_d20) ?_
    refine lv_iconst (v := 5) hx hb (lw_d21) (by decide) ?_
    refine lv_isub hx hb (lw_d22) ?_
    refine lv_icmp_gt (tgt := 906) hx hb (lw_d23) rfl (fun z => ?_) (fun z => ?_)
    · refine lv_iconst (v := 1) hx hb (lw_d906) (by decide) ?_
      obtain ⟨r1, r2⟩ := hroom k h (by omega) hI
      refine va_forget (fun q hq => hS.2.2 q hq) ?_
      refine W.widen (k := 600000) (n := 7302250) r1 r2 ?_
      exact lw_ret hx hb hr hlocks (lw_d907)
    · have hi5 : i + 5 ≤ L := Nat.not_lt.mp (fun q => z ((lw_gt (by omega) hL).mpr q))
      have back : ∀ h2, Inv (k + 1) h2 → lw_H p l e s m below meth c b D 900 i h2 := by
        intro h2 hI2 γ κ sh H locs ls hs0 hsM hn hRl hS hl
        refine lv_iinc (v := nI (i + 5)) (lv' := [(3, .int (nI (i + 5))), (0, .ref b), (1, .ref (γ 0)), (2, .ref (γ MI))]) hx hb (lw_d900) hl (k := 3) rfl (by rw [← nI_add]; rfl) (by decide) rfl (fun ls hl => ?_)
        refine lv_goto (tgt := 18) hx hb (lw_d903) rfl ?_
        exact ih (i + 5) (k + 1) h2 (by omega) (by omega) (by omega) hI2 γ κ sh H locs ls hs0 hsM hn hRl hS (lv_sub hl [1, 2, 3, 0] rfl)
      refine lv_aload_n hx hb (lw_d26) rfl (lv_at hl 0 rfl) ?_
      refine lv_iload_n hx hb (lw_d27) rfl (lv_at hl 3 rfl) ?_
      refine va_sld hx hb hX hbl hbA hS (vp_in_nI (by omega) (by omega)) (lw_d28) ?_
      refine lv_bipush (v := 31) hx hb (lw_d29) (by decide) ?_
      refine lv_iand hx hb (lw_d31) ?_
      refine lv_topi (fun y hy => ?_)
      by_cases z0 : y = 0
      · rw [z0]
        refine lv_tableIn (off := 120) (tgt := 152) hx hb (lw_d32) (by decide) (by decide) rfl rfl ?_
        exact lw_c0 hL C0 hKB (by omega) (fun h2 q => hroom (k + 1) h2 (by omega) q) hI (hall.1) back γ κ sh H locs ls hs0 hsM hn hRl hS hl
      by_cases z1 : y = 1
      · rw [z1]
        refine lv_tableIn (off := 143) (tgt := 175) hx hb (lw_d32) (by decide) (by decide) rfl rfl ?_
        exact lw_c1 hL C0 hKB (by omega) (fun h2 q => hroom (k + 1) h2 (by omega) q) hI (hall.2.1) back γ κ sh H locs ls hs0 hsM hn hRl hS hl
      by_cases z2 : y = 2
      · rw [z2]
        refine lv_tableIn (off := 156) (tgt := 188) hx hb (lw_d32) (by decide) (by decide) rfl rfl ?_
        exact lw_c2 hL C0 hKB (by omega) (fun h2 q => hroom (k + 1) h2 (by omega) q) hI (hall.2.2.1) back γ κ sh H locs ls hs0 hsM hn hRl hS hl
      by_cases z3 : y = 3
      · rw [z3]
        refine lv_tableIn (off := 189) (tgt := 221) hx hb (lw_d32) (by decide) (by decide) rfl rfl ?_
        exact lw_c3 hL C0 hKB (by omega) (fun h2 q => hroom (k + 1) h2 (by omega) q) hI (hall.2.2.2.1) back γ κ sh H locs ls hs0 hsM hn hRl hS hl
      by_cases z4 : y = 4
      · rw [z4]
        refine lv_tableIn (off := 212) (tgt := 244) hx hb (lw_d32) (by decide) (by decide) rfl rfl ?_
        exact lw_c4 hL C0 hKB (by omega) (fun h2 q => hroom (k + 1) h2 (by omega) q) hI (hall.2.2.2.2.1) back γ κ sh H locs ls hs0 hsM hn hRl hS hl
      by_cases z5 : y = 5
      · rw [z5]
        refine lv_tableIn (off := 225) (tgt := 257) hx hb (lw_d32) (by decide) (by decide) rfl rfl ?_
        exact lw_c5 hL C0 hKB (by omega) (fun h2 q => hroom (k + 1) h2 (by omega) q) hI (hall.2.2.2.2.2.1) back γ κ sh H locs ls hs0 hsM hn hRl hS hl
      by_cases z6 : y = 6
      · rw [z6]
        refine lv_tableIn (off := 258) (tgt := 290) hx hb (lw_d32) (by decide) (by decide) rfl rfl ?_
        exact lw_c6 hL C0 hKB (by omega) (fun h2 q => hroom (k + 1) h2 (by omega) q) hI (hall.2.2.2.2.2.2.1) back γ κ sh H locs ls hs0 hsM hn hRl hS hl
      by_cases z7 : y = 7
      · rw [z7]
        refine lv_tableIn (off := 291) (tgt := 323) hx hb (lw_d32) (by decide) (by decide) rfl rfl ?_
        exact lw_c7 hL C0 hKB (by omega) (fun h2 q => hroom (k + 1) h2 (by omega) q) hI (hall.2.2.2.2.2.2.2.1) back γ κ sh H locs ls hs0 hsM hn hRl hS hl
      by_cases z8 : y = 8
      · rw [z8]
        refine lv_tableIn (off := 324) (tgt := 356) hx hb (lw_d32) (by decide) (by decide) rfl rfl ?_
        exact lw_c8 hL C0 hKB (by omega) (fun h2 q => hroom (k + 1) h2 (by omega) q) hI (hall.2.2.2.2.2.2.2.2.1) back γ κ sh H locs ls hs0 hsM hn hRl hS hl
      by_cases z9 : y = 9
      · rw [z9]
        refine lv_tableIn (off := 367) (tgt := 399) hx hb (lw_d32) (by decide) (by decide) rfl rfl ?_
        exact lw_c9 hL C0 hKB (by omega) (fun h2 q => hroom (k + 1) h2 (by omega) q) hI (hall.2.2.2.2.2.2.2.2.2.1) back γ κ sh H locs ls hs0 hsM hn hRl hS hl
      by_cases z10 : y = 10
      · rw [z10]
        refine lv_tableIn (off := 400) (tgt := 432) hx hb (lw_d32) (by decide) (by decide) rfl rfl ?_
        exact lw_c10 hL C0 hKB (by omega) (fun h2 q => hroom (k + 1) h2 (by omega) q) hI (hall.2.2.2.2.2.2.2.2.2.2.1) back γ κ sh H locs ls hs0 hsM hn hRl hS hl
      by_cases z11 : y = 11
      · rw [z11]
        refine lv_tableIn (off := 433) (tgt := 465) hx hb (lw_d32) (by decide) (by decide) rfl rfl ?_
        exact lw_c11 hL C0 hKB (by omega) (fun h2 q => hroom (k + 1) h2 (by omega) q) hI (hall.2.2.2.2.2.2.2.2.2.2.2.1) back γ κ sh H locs ls hs0 hsM hn hRl hS hl
      by_cases z12 : y = 12
      · rw [z12]
        refine lv_tableIn (off := 466) (tgt := 498) hx hb (lw_d32) (by decide) (by decide) rfl rfl ?_
        exact lw_c12 hL C0 hKB (by omega) (fun h2 q => hroom (k + 1) h2 (by omega) q) hI (hall.2.2.2.2.2.2.2.2.2.2.2.2.1) back γ κ sh H locs ls hs0 hsM hn hRl hS hl
      by_cases z13 : y = 13
      · rw [z13]
        refine lv_tableIn (off := 499) (tgt := 531) hx hb (lw_d32) (by decide) (by decide) rfl rfl ?_
        exact lw_c13 hL C0 hKB (by omega) (fun h2 q => hroom (k + 1) h2 (by omega) q) hI (hall.2.2.2.2.2.2.2.2.2.2.2.2.2.1) back γ κ sh H locs ls hs0 hsM hn hRl hS hl
      by_cases z14 : y = 14
      · rw [z14]
        refine lv_tableIn (off := 542) (tgt := 574) hx hb (lw_d32) (by decide) (by decide) rfl rfl ?_
        exact lw_c14 hL C0 hKB (by omega) (fun h2 q => hroom (k + 1) h2 (by omega) q) hI (hall.2.2.2.2.2.2.2.2.2.2.2.2.2.2.1) back γ κ sh H locs ls hs0 hsM hn hRl hS hl
      by_cases z15 : y = 15
      · rw [z15]
        refine lv_tableIn (off := 575) (tgt := 607) hx hb (lw_d32) (by decide) (by decide) rfl rfl ?_
        exact lw_c15 hL C0 hKB (by omega) (fun h2 q => hroom (k + 1) h2 (by omega) q) hI (hall.2.2.2.2.2.2.2.2.2.2.2.2.2.2.2.1) back γ κ sh H locs ls hs0 hsM hn hRl hS hl
      by_cases z16 : y = 16
      · rw [z16]
        refine lv_tableIn (off := 598) (tgt := 630) hx hb (lw_d32) (by decide) (by decide) rfl rfl ?_
        exact lw_c16 hL C0 hKB (by omega) (fun h2 q => hroom (k + 1) h2 (by omega) q) hI (hall.2.2.2.2.2.2.2.2.2.2.2.2.2.2.2.2.1) back γ κ sh H locs ls hs0 hsM hn hRl hS hl
      by_cases z17 : y = 17
      · rw [z17]
        refine lv_tableIn (off := 631) (tgt := 663) hx hb (lw_d32) (by decide) (by decide) rfl rfl ?_
        exact lw_c17 hL C0 hKB (by omega) (fun h2 q => hroom (k + 1) h2 (by omega) q) hI (hall.2.2.2.2.2.2.2.2.2.2.2.2.2.2.2.2.2.1) back γ κ sh H locs ls hs0 hsM hn hRl hS hl
      by_cases z18 : y = 18
      · rw [z18]
        refine lv_tableIn (off := 644) (tgt := 676) hx hb (lw_d32) (by decide) (by decide) rfl rfl ?_
        exact lw_c18 hL C0 hKB (by omega) (fun h2 q => hroom (k + 1) h2 (by omega) q) hI (hall.2.2.2.2.2.2.2.2.2.2.2.2.2.2.2.2.2.2.1) back γ κ sh H locs ls hs0 hsM hn hRl hS hl
      by_cases z19 : y = 19
      · rw [z19]
        refine lv_tableIn (off := 687) (tgt := 719) hx hb (lw_d32) (by decide) (by decide) rfl rfl ?_
        exact lw_c19 hL C0 hKB (by omega) (fun h2 q => hroom (k + 1) h2 (by omega) q) hI (hall.2.2.2.2.2.2.2.2.2.2.2.2.2.2.2.2.2.2.2.1) back γ κ sh H locs ls hs0 hsM hn hRl hS hl
      by_cases z20 : y = 20
      · rw [z20]
        refine lv_tableIn (off := 720) (tgt := 752) hx hb (lw_d32) (by decide) (by decide) rfl rfl ?_
        exact lw_c20 hL C0 hKB (by omega) (fun h2 q => hroom (k + 1) h2 (by omega) q) hI (hall.2.2.2.2.2.2.2.2.2.2.2.2.2.2.2.2.2.2.2.2.1) back γ κ sh H locs ls hs0 hsM hn hRl hS hl
      by_cases z21 : y = 21
      · rw [z21]
        refine lv_tableIn (off := 743) (tgt := 775) hx hb (lw_d32) (by decide) (by decide) rfl rfl ?_
        exact lw_c21 hL C0 hKB (by omega) (fun h2 q => hroom (k + 1) h2 (by omega) q) hI (hall.2.2.2.2.2.2.2.2.2.2.2.2.2.2.2.2.2.2.2.2.2.1) back γ κ sh H locs ls hs0 hsM hn hRl hS hl
      by_cases z22 : y = 22
      · rw [z22]
        refine lv_tableIn (off := 766) (tgt := 798) hx hb (lw_d32) (by decide) (by decide) rfl rfl ?_
        exact lw_c22 hL C0 hKB (by omega) (fun h2 q => hroom (k + 1) h2 (by omega) q) hI (hall.2.2.2.2.2.2.2.2.2.2.2.2.2.2.2.2.2.2.2.2.2.2.1) back γ κ sh H locs ls hs0 hsM hn hRl hS hl
      by_cases z23 : y = 23
      · rw [z23]
        refine lv_tableIn (off := 819) (tgt := 851) hx hb (lw_d32) (by decide) (by decide) rfl rfl ?_
        exact lw_c23 hL C0 hKB (by omega) (fun h2 q => hroom (k + 1) h2 (by omega) q) hI (hall.2.2.2.2.2.2.2.2.2.2.2.2.2.2.2.2.2.2.2.2.2.2.2.1) back γ κ sh H locs ls hs0 hsM hn hRl hS hl
      by_cases z24 : y = 24
      · rw [z24]
        refine lv_tableIn (off := 832) (tgt := 864) hx hb (lw_d32) (by decide) (by decide) rfl rfl ?_
        exact lw_c24 hL C0 hKB (by omega) (fun h2 q => hroom (k + 1) h2 (by omega) q) hI (hall.2.2.2.2.2.2.2.2.2.2.2.2.2.2.2.2.2.2.2.2.2.2.2.2.1) back γ κ sh H locs ls hs0 hsM hn hRl hS hl
      by_cases z25 : y = 25
      · rw [z25]
        refine lv_tableIn (off := 845) (tgt := 877) hx hb (lw_d32) (by decide) (by decide) rfl rfl ?_
        exact lw_c25 hL C0 hKB (by omega) (fun h2 q => hroom (k + 1) h2 (by omega) q) hI (hall.2.2.2.2.2.2.2.2.2.2.2.2.2.2.2.2.2.2.2.2.2.2.2.2.2) back γ κ sh H locs ls hs0 hsM hn hRl hS hl
      refine lv_tableOut (tgt := 900) hx hb (lw_d32) (lw_swO z0 z1 z2 z3 z4 z5 z6 z7 z8 z9 z10 z11 z12 z13 z14 z15 z16 z17 z18 z19 z20 z21 z22 z23 z24 z25) rfl ?_
      exact back h (hmono k h hI) γ κ sh H locs ls hs0 hsM hn hRl hS hl
end WALK
section START
variable {p : Program} {e : Env} {s : State} {m : MethodId} {below : List Frame} {meth : Method} {c : Code} {b L : Nat} {xs : Nat → Int32} {Inv : Nat → Hp → Prop}
theorem lw_KB (C0 : lw_At p s m meth c b L xs) : ∃ D : va_G, sd_KB D (fun q => s.heap.size ≤ q) s := by
  obtain ⟨hx, hb, hr, hml, hown, hts0, hX, hbl, hlocks, hgv⟩ := id C0
  have hts : ∀ w ∈ sd_tb, w.before #[Value.ref b] s = true := fun w hw => hts0 w (List.mem_filter.mp hw).1
  have hs := flat_of_before _ hgv
  have hA : ∀ a : Nat, a < s.heap.size → ¬ (fun q : Nat => s.heap.size ≤ q) a := fun a h => Nat.not_le.mpr h
  have hex : ∀ k : Nat, ∃ q : ClassId × (Nat → Nat), k < 13 → u_Kn s (sd_R k) (sd_T k) (sd_N k) q.1 q.2 := by
    intro k
    by_cases hk : k < 13
    · obtain ⟨cC, iS, h⟩ := u_known hts (sd_inT hk) (sd_cl_nw hts hk).1
      exact ⟨(cC, iS), fun _ => h⟩
    · exact ⟨(0, fun _ => 0), fun h => absurd h hk⟩
  obtain ⟨f, hf⟩ := Classical.axiomOfChoice hex
  refine ⟨(fun k => (f k).1, fun k => (f k).2), fun k q hq => ?_, va_AO.of (hts0 (.arrayOver (.object "SeenADayLate$Walker")) (List.mem_of_getElem? (i := 163) (by decide +kernel))), hts0 (.arrayOver (.array .int)) (List.mem_of_getElem? (i := 165) (by decide +kernel)), ?_, ?_⟩
  · have hk : k < 13 := (List.getElem?_eq_some_iff.mp hq).1
    rw [sd_clk hk] at hq
    cases hq
    exact hf k hk
  · obtain ⟨adK, adV, hVS, hev⟩ := vk_Sof (args := #[Value.ref b]) (s := s) (N := 1) (tm := fun _ => .string "SeenADayLate$Letters" 68) (len := [5]) (byt := [[110, 101, 115, 119, 45]]) (A := fun q : Nat => s.heap.size ≤ q)
      (fun i hi => by rw [show i = 0 by omega]; decide)
      (fun i hi => hs _ (by decide +kernel)) (fun i hi => hs _ (by decide +kernel)) (fun i hi => hs _ (by decide +kernel)) (fun i hi => by rw [show i = 0 by omega]; exact hs _ (by decide +kernel))
      (fun i hi j hj => by
        have hi0 : i = 0 := by omega
        subst hi0
        have hj5 : j < 5 := hj
        match j, hj5 with
        | 0, _ => exact hs _ (by decide +kernel)
        | 1, _ => exact hs _ (by decide +kernel)
        | 2, _ => exact hs _ (by decide +kernel)
        | 3, _ => exact hs _ (by decide +kernel)
        | 4, _ => exact hs _ (by decide +kernel))
      (fun i j hi hj hij => by omega) hA
    refine ⟨adK 0, adV 0, ⟨⟨fun i hi => ?_, fun i j hi hj _ => by omega⟩, va_Zof (hts0 (.laysStatic "java/lang/String" "COMPACT_STRINGS" "Z") (List.mem_of_getElem? (i := 372) (by decide +kernel))) (hts _ (sd_in 73 (by decide +kernel) rfl)) (va_eqi (hs _ (by decide +kernel))) hA⟩, vk_R.of (hts0 (.stringRef "SeenADayLate$Letters" 68 "nesw-") (List.mem_of_getElem? (i := 358) (by decide +kernel))) (hev 0 Nat.zero_lt_one)⟩
    have hi0 : i = 0 := by omega
    subst hi0
    exact hVS.1 0 hi
  · intro k hk
    rcases hk with rfl | rfl | rfl | rfl | rfl
    · exact va_Nw.of rfl (hts0 _ (List.mem_of_getElem? (i := 1347) (by decide +kernel)))
    · exact va_Nw.of rfl (hts0 _ (List.mem_of_getElem? (i := 1346) (by decide +kernel)))
    · exact va_Nw.of rfl (hts0 _ (List.mem_of_getElem? (i := 1345) (by decide +kernel)))
    · exact va_Nw.of rfl (hts0 _ (List.mem_of_getElem? (i := 1349) (by decide +kernel)))
    · exact va_Nw.of rfl (hts0 _ (List.mem_of_getElem? (i := 1348) (by decide +kernel)))

set_option maxRecDepth 8000 in
theorem lw_whole (l : Launch) (hL : L ≤ 2560) (C0 : lw_At p s m meth c b L xs) (hP : lw_pure Inv) (hI : lw_start Inv) : W p l e room_1 s m #[Value.ref b] below meth c s.heap [] 0 0 (lw_Z below #[Value.ref b] s) (entryFrame m ([Value.ref b] : List Value).toArray 4) := by
  obtain ⟨D, hKB⟩ := lw_KB C0
  obtain ⟨hx, hb, hr, hml, hown, hts0, hX, hbl, hlocks, hgv⟩ := id C0
  have hts : ∀ w ∈ sd_tb, w.before #[Value.ref b] s = true := fun w hw => hts0 w (List.mem_filter.mp hw).1
  obtain ⟨h1, h2, c1, hM, c2, hI0⟩ := hI
  obtain ⟨rm1, rm2⟩ := hP.2.1 0 h2 (by decide) hI0
  have hmin := hP.2.2.2 0 h2 hI0
  obtain ⟨n1, e1⟩ := run_iff.mp c1
  obtain ⟨n2, e2⟩ := run_iff.mp c2
  have m1 := ev_cnt _ _ _ _ _ _ _ _ _ e1
  have m2 := ev_cnt _ _ _ _ _ _ _ _ _ e2
  have q1 : (hmk h00 10).1 = (1, 10) := rfl
  have q2 : (hmk h1 43).1 = (h1.1.1 + 1, h1.1.2 + 43) := rfl
  rw [q1] at m1
  rw [q2] at m2
  dsimp only at m1 m2
  have hMI : MI = 44 := rfl
  have hl := lv_entry ([.ref b]) (n := 4) (Nat.le_of_ble_eq_true rfl)
  rw [lg_entry_eq]
  generalize (lg_sl ([.ref b]) ++ List.replicate (4 - (lg_sl ([.ref b])).length) Slot.unset).toArray = ls at hl ⊢
  have hl : lv_has ls 4 [(0, .ref b)] := hl
  have hS : va_S (fun q : Nat => s.heap.size ≤ q) s.heap s.heap [] := va_S.rf
  have hRl : sd_Rel D (fun q : Nat => s.heap.size ≤ q) (fun _ => 0) (fun _ => 0) (fun _ => (0, 0)) h00 s s.heap := by
    have e0 : sd_ws (fun _ => 0) (fun _ => 0) (fun _ => (0, 0)) h00 = [] := rfl
    refine ⟨by rw [e0]; exact fun k q h => by simp at h, by rw [e0]; exact ⟨fun i j p q h => by simp at h, fun k q h => by simp at h⟩, fun i hi => absurd hi (Nat.not_lt_zero _), fun i hi => absurd hi (Nat.not_lt_zero _), fun i hi => absurd hi (Nat.not_lt_zero _)⟩
  refine lw_new (a := 11) (idx := 7) (pl := 86) hx hb hown hts hKB (fun q h => h) hRl hS (by decide) (by decide +kernel) (lw_d0) (Nat.le_of_ble_eq_true rfl) (Nat.le_of_ble_eq_true rfl) (fun γ κ sh H locs hg hs0 hRl hS => ?_)
  have hs0 : sh 0 = (11, 0) := hs0
  refine lv_dup hx hb (lw_d3) rfl ?_
  refine lw_ini (a := 1100) (idx := 9) (pl := 88) (k := 11) (o := 0) (h := hmk h00 10) (h1 := h1) (rest := [.ref (γ 0)]) hx hb hml hown hts hKB (fun q h => h) (Nat.le_of_ble_eq_true rfl) (Nat.le_of_ble_eq_true rfl) hRl hS hl.1 (by decide) hs0 (by decide +kernel) (by decide +kernel) (by decide +kernel) (by decide +kernel) rfl (Nat.le_of_ble_eq_true rfl) (Nat.le_of_ble_eq_true rfl) (by decide +kernel) c1 (lw_d4) (Nat.le_of_ble_eq_true rfl) (by rw [q1]; show 0 + 1 + (h1.1.1 - 1) ≤ 600000; omega) (by rw [q1]; show 0 + 10 + (h1.1.2 - 10) ≤ 7302250; omega) (fun γ2 κ2 sh2 H locs hg2 hRl hS => ?_)
  have hg0 : γ2 0 = γ 0 := (hg2 0 (by decide)).1
  have hs0 : sh2 0 = (11, 0) := by rw [(hg2 0 (by decide)).2.2]; exact hs0
  rw [← hg0]
  refine W.widen (k := h1.1.1) (n := h1.1.2) (by rw [q1]; show 0 + 1 + (h1.1.1 - 1) ≤ _; omega) (by rw [q1]; show 0 + 10 + (h1.1.2 - 10) ≤ _; omega) ?_
  refine lv_astore_n (lv' := [(1, .ref (γ2 0)), (0, .ref b)]) hx hb (lw_d7) rfl hl (by decide) rfl (fun ls hl => ?_)
  refine lw_new (a := 12) (idx := 10) (pl := 932) hx hb hown hts hKB (fun q h => h) hRl hS (by decide) (by decide +kernel) (lw_d8) (by show h1.1.1 + 1 ≤ 600000; omega) (by show h1.1.2 + 43 ≤ 7302250; omega) (fun γ3 κ3 sh3 H locs hg3 hsM hRl hS => ?_)
  rw [hM] at hsM
  have hg0 : γ3 0 = γ2 0 := (hg3 0 (by omega)).1
  have hs0 : sh3 0 = (11, 0) := by rw [(hg3 0 (by omega)).2.2]; exact hs0
  have hl : lv_has ls 4 [(1, .ref (γ3 0)), (0, .ref b)] := by rw [hg0]; exact hl
  have hN12 : sd_N 12 = 43 := rfl
  rw [hM]
  refine lv_dup hx hb (lw_d11) rfl ?_
  refine lw_ini (a := 1200) (idx := 12) (pl := 934) (k := 12) (o := MI) (h := hmk h1 43) (h1 := h2) (rest := [.ref (γ3 MI)]) hx hb hml hown hts hKB (fun q h => h) (Nat.le_of_ble_eq_true rfl) (Nat.le_of_ble_eq_true rfl) hRl hS hl.1 (by rw [q2]; show MI < _; omega) hsM (by decide +kernel) (by decide +kernel) (by decide +kernel) (by decide +kernel) rfl (Nat.le_of_ble_eq_true rfl) (Nat.le_of_ble_eq_true rfl) (by decide +kernel) c2 (lw_d12) (Nat.le_of_ble_eq_true rfl) (by rw [q2]; dsimp only; show _ ≤ 600000; omega) (by rw [q2]; dsimp only; show _ ≤ 7302250; omega) (fun γ4 κ4 sh4 H locs hg4 hRl hS => ?_)
  have g40 := hg4 0 (by rw [q2]; show 0 < _; omega)
  have g4M := hg4 MI (by rw [q2]; show MI < _; omega)
  refine W.widen (k := h2.1.1) (n := h2.1.2) (by rw [q2]; dsimp only; omega) (by rw [q2]; dsimp only; omega) ?_
  refine lv_astore_n (lv' := [(2, .ref (γ3 MI)), (1, .ref (γ3 0)), (0, .ref b)]) hx hb (lw_d15) rfl hl (by decide) rfl (fun ls hl => ?_)
  refine lv_iconst (v := 0) hx hb (lw_d16) (by decide) ?_
  refine lv_istore_n (lv' := [(3, .int 0), (2, .ref (γ3 MI)), (1, .ref (γ3 0)), (0, .ref b)]) hx hb (lw_d17) rfl hl (by decide) rfl (fun ls hl => ?_)
  refine lw_loop hL C0 hKB hP (L + 1) 0 0 h2 rfl (Nat.zero_le _) (by omega) hI0 γ4 κ4 sh4 H locs ls (by rw [g40.2.2]; exact hs0) (by rw [g4M.2.2]; exact hsM) hmin hRl hS ?_
  rw [g40.1, g4M.1]
  exact lv_sub hl [3, 2, 1, 0] rfl
end START
