/-! the rank of a method bounds how deep its calls go; watchersFor's grows with its last argument -/
def am_r0 (m : Nat) : Nat := if m < 1106 then (if m < 514 then (if m < 409 then (if m < 301 then (if m < 101 then (if m < 3 then (if m < 1 then (0) else (if m < 2 then (3) else (4))) else (if m < 4 then (2) else (if m < 100 then (2) else (2)))) else (if m < 201 then (if m < 102 then (0) else (if m < 200 then (2) else (1))) else (if m < 202 then (0) else (if m < 300 then (3) else (1))))) else (if m < 403 then (if m < 400 then (if m < 302 then (0) else (if m < 303 then (3) else (2))) else (if m < 401 then (1) else (if m < 402 then (0) else (0)))) else (if m < 406 then (if m < 404 then (1) else (if m < 405 then (3) else (2))) else (if m < 407 then (0) else (if m < 408 then (0) else (1)))))) else (if m < 502 then (if m < 415 then (if m < 412 then (if m < 410 then (1) else (if m < 411 then (1) else (0))) else (if m < 413 then (0) else (if m < 414 then (0) else (1)))) else (if m < 418 then (if m < 416 then (5) else (if m < 417 then (3) else (4))) else (if m < 500 then (2) else (if m < 501 then (2) else (1))))) else (if m < 508 then (if m < 505 then (if m < 503 then (0) else (if m < 504 then (0) else (0))) else (if m < 506 then (1) else (if m < 507 then (1) else (1)))) else (if m < 511 then (if m < 509 then (1) else (if m < 510 then (1) else (1))) else (if m < 512 then (2) else (if m < 513 then (10) else (2))))))) else (if m < 903 then (if m < 707 then (if m < 701 then (if m < 601 then (if m < 515 then (1) else (if m < 600 then (0) else (2))) else (if m < 602 then (0) else (if m < 700 then (2) else (0)))) else (if m < 704 then (if m < 702 then (0) else (if m < 703 then (1) else (0))) else (if m < 705 then (0) else (if m < 706 then (3) else (4))))) else (if m < 800 then (if m < 710 then (if m < 708 then (4) else (if m < 709 then (1) else (3))) else (if m < 711 then (3) else (if m < 712 then (2) else (0)))) else (if m < 900 then (if m < 801 then (1) else (if m < 802 then (0) else (0))) else (if m < 901 then (0) else (if m < 902 then (3) else (0)))))) else (if m < 1010 then (if m < 1004 then (if m < 1001 then (if m < 904 then (3) else (if m < 1000 then (2) else (0))) else (if m < 1002 then (0) else (if m < 1003 then (0) else (1)))) else (if m < 1007 then (if m < 1005 then (0) else (if m < 1006 then (4) else (0))) else (if m < 1008 then (1) else (if m < 1009 then (2) else (5))))) else (if m < 1016 then (if m < 1013 then (if m < 1011 then (5) else (if m < 1012 then (4) else (1))) else (if m < 1014 then (1) else (if m < 1015 then (1) else (1)))) else (if m < 1102 then (if m < 1100 then (2) else (if m < 1101 then (3) else (2))) else (if m < 1104 then (if m < 1103 then (6) else (5)) else (if m < 1105 then (1) else (6)))))))) else (if m < 1221 then (if m < 1130 then (if m < 1118 then (if m < 1112 then (if m < 1109 then (if m < 1107 then (2) else (if m < 1108 then (3) else (6))) else (if m < 1110 then (6) else (if m < 1111 then (6) else (6)))) else (if m < 1115 then (if m < 1113 then (2) else (if m < 1114 then (3) else (4))) else (if m < 1116 then (2) else (if m < 1117 then (5) else (5))))) else (if m < 1124 then (if m < 1121 then (if m < 1119 then (1) else (if m < 1120 then (5) else (11))) else (if m < 1122 then (1) else (if m < 1123 then (6) else (3)))) else (if m < 1127 then (if m < 1125 then (1) else (if m < 1126 then (1) else (2))) else (if m < 1128 then (0) else (if m < 1129 then (0) else (0)))))) else (if m < 1208 then (if m < 1202 then (if m < 1133 then (if m < 1131 then (0) else (if m < 1132 then (1) else (2))) else (if m < 1200 then (1) else (if m < 1201 then (0) else (0)))) else (if m < 1205 then (if m < 1203 then (0) else (if m < 1204 then (1) else (1))) else (if m < 1206 then (2) else (if m < 1207 then (2) else (0))))) else (if m < 1214 then (if m < 1211 then (if m < 1209 then (1) else (if m < 1210 then (0) else (0))) else (if m < 1212 then (3) else (if m < 1213 then (3) else (3)))) else (if m < 1217 then (if m < 1215 then (0) else (if m < 1216 then (1) else (4))) else (if m < 1219 then (if m < 1218 then (5) else (6)) else (if m < 1220 then (0) else (1))))))) else (if m < 1245 then (if m < 1233 then (if m < 1227 then (if m < 1224 then (if m < 1222 then (2) else (if m < 1223 then (2) else (1))) else (if m < 1225 then (0) else (if m < 1226 then (1) else (0)))) else (if m < 1230 then (if m < 1228 then (1) else (if m < 1229 then (2) else (2))) else (if m < 1231 then (3) else (if m < 1232 then (0) else (2))))) else (if m < 1239 then (if m < 1236 then (if m < 1234 then (4) else (if m < 1235 then (5) else (1))) else (if m < 1237 then (6) else (if m < 1238 then (2) else (3)))) else (if m < 1242 then (if m < 1240 then (0) else (if m < 1241 then (7) else (6))) else (if m < 1243 then (0) else (if m < 1244 then (6) else (7)))))) else (if m < 1257 then (if m < 1251 then (if m < 1248 then (if m < 1246 then (3) else (if m < 1247 then (4) else (4))) else (if m < 1249 then (0) else (if m < 1250 then (3) else (3)))) else (if m < 1254 then (if m < 1252 then (4) else (if m < 1253 then (2) else (0))) else (if m < 1255 then (4) else (if m < 1256 then (4) else (0))))) else (if m < 1263 then (if m < 1260 then (if m < 1258 then (3) else (if m < 1259 then (4) else (5))) else (if m < 1261 then (3) else (if m < 1262 then (2) else (4)))) else (if m < 1266 then (if m < 1264 then (1) else (if m < 1265 then (6) else (3))) else (if m < 1300 then (if m < 1267 then (0) else (1)) else (if m < 1400 then (0) else (0))))))))
def am_rk (m : Nat) (as : List AV) : Nat := if m = 514 then am_r0 m + (match as with
  | [_, _, _, .inl x] => x.toNatClampNeg
  | _ => 0) else am_r0 m
def am_al : List AV → Lc
  | [] => []
  | .inl x :: r => some (.inl x) :: am_al r
  | .inr (.inl x) :: r => some (.inr (.inl x)) :: none :: am_al r
  | .inr (.inr x) :: r => some (.inr (.inr x)) :: am_al r
def am_en (m : Nat) (as : List AV) : Lc := am_al as ++ List.replicate (am_mx m - (am_al as).length) none
def ev : Nat → Nat → Nat → Nat → Lc → List AV → Hp → Option (Option AV × Hp)
  | 0, _, _, _, _, _, _ => none
  | n + 1, d, m, pc, ls, st, h => match am_cd m pc with
    | none => none
    | some (i, len, a, b, c, _) => match am_stp pc i len a b c ls st h with
      | none => none
      | some (.inl (pc2, ls2, st2, h2)) => ev n d m pc2 ls2 st2 h2
      | some (.inr (.inl v)) => some (v, h)
      | some (.inr (.inr (m2, as, r))) => if am_rk m2 as < d ∧ (am_al as).length ≤ am_mx m2 then (match ev n (am_rk m2 as) m2 0 (am_en m2 as) [] h with
        | none => none
        | some (v, h2) => ev n d m (pc + len) ls (v.toList ++ r) h2) else none
theorem ev_succ {n d m pc : Nat} {ls : Lc} {st : List AV} {h : Hp} {i : Instr} {len a b c q : Nat} (hc : am_cd m pc = some (i, len, a, b, c, q)) : ev (n + 1) d m pc ls st h = (match am_stp pc i len a b c ls st h with
      | none => none
      | some (.inl (pc2, ls2, st2, h2)) => ev n d m pc2 ls2 st2 h2
      | some (.inr (.inl v)) => some (v, h)
      | some (.inr (.inr (m2, as, r))) => if am_rk m2 as < d ∧ (am_al as).length ≤ am_mx m2 then (match ev n (am_rk m2 as) m2 0 (am_en m2 as) [] h with
        | none => none
        | some (v, h2) => ev n d m (pc + len) ls (v.toList ++ r) h2) else none) := by
  rw [ev, hc]
theorem ev_mono1 : ∀ (n d m pc : Nat) (ls : Lc) (st : List AV) (h : Hp) (r : Option AV × Hp), ev n d m pc ls st h = some r → ev (n + 1) d m pc ls st h = some r := by
  intro n
  induction n with
  | zero => intro d m pc ls st h r hr; simp [ev] at hr
  | succ n ih =>
    intro d m pc ls st h r hr
    cases hc : am_cd m pc with
    | none => rw [ev, hc] at hr; simp at hr
    | some e =>
      obtain ⟨i, len, a, b, c, q⟩ := e
      rw [ev_succ hc] at hr ⊢
      cases hs : am_stp pc i len a b c ls st h with
      | none => rw [hs] at hr; simp at hr
      | some o =>
        rw [hs] at hr
        rcases o with ⟨pc2, ls2, st2, h2⟩ | v | ⟨m2, as, rs⟩
        · exact ih _ _ _ _ _ _ _ hr
        · exact hr
        · dsimp only at hr ⊢
          by_cases hd : am_rk m2 as < d ∧ (am_al as).length ≤ am_mx m2
          · rw [if_pos hd] at hr ⊢
            cases h1 : ev n (am_rk m2 as) m2 0 (am_en m2 as) [] h with
            | none => rw [h1] at hr; simp at hr
            | some v =>
              rw [h1] at hr
              rw [ih _ _ _ _ _ _ _ h1]
              exact ih _ _ _ _ _ _ _ hr
          · rw [if_neg hd] at hr; cases hr
theorem ev_mono {n k d m pc : Nat} {ls : Lc} {st : List AV} {h : Hp} {r : Option AV × Hp} (hn : n ≤ k) (hr : ev n d m pc ls st h = some r) : ev k d m pc ls st h = some r := by
  induction k with
  | zero => rw [show n = 0 by omega] at hr; exact hr
  | succ k ih =>
    by_cases hk : n ≤ k
    · exact ev_mono1 _ _ _ _ _ _ _ _ (ih hk)
    · rw [show n = k + 1 by omega] at hr; exact hr
noncomputable def run (d m pc : Nat) (ls : Lc) (st : List AV) (h : Hp) : Option (Option AV × Hp) :=
  @dite _ (∃ n, (ev n d m pc ls st h).isSome = true) (Classical.propDecidable _) (fun q => ev (Classical.choose q) d m pc ls st h) (fun _ => none)
theorem run_iff {d m pc : Nat} {ls : Lc} {st : List AV} {h : Hp} {r : Option AV × Hp} : run d m pc ls st h = some r ↔ ∃ n, ev n d m pc ls st h = some r := by
  unfold run
  by_cases q : ∃ n, (ev n d m pc ls st h).isSome = true
  · rw [dif_pos q]
    constructor
    · intro e; exact ⟨_, e⟩
    · rintro ⟨n, e⟩
      obtain ⟨v, hv⟩ := Option.isSome_iff_exists.mp (Classical.choose_spec q)
      have e1 := ev_mono (Nat.le_max_left n (Classical.choose q)) e
      have e2 := ev_mono (Nat.le_max_right n (Classical.choose q)) hv
      rw [hv]
      exact e2.symm.trans e1
  · rw [dif_neg q]
    constructor
    · intro e; cases e
    · rintro ⟨n, e⟩
      exact absurd ⟨n, by rw [e]; rfl⟩ q
theorem run_ext {x y : Option (Option AV × Hp)} (h : ∀ r, x = some r ↔ y = some r) : x = y := by
  cases x with
  | none =>
    cases y with
    | none => rfl
    | some v => exact ((h v).mpr rfl)
  | some v => exact ((h v).mp rfl).symm
section RUN
variable {d m pc : Nat} {ls : Lc} {st : List AV} {h : Hp} {i : Instr} {len a b c q : Nat}
theorem run_next {pc2 : Nat} {ls2 : Lc} {st2 : List AV} {h2 : Hp} (hc : am_cd m pc = some (i, len, a, b, c, q)) (hs : am_stp pc i len a b c ls st h = some (.inl (pc2, ls2, st2, h2))) : run d m pc ls st h = run d m pc2 ls2 st2 h2 := by
  refine run_ext fun r => ?_
  rw [run_iff, run_iff]
  constructor
  · rintro ⟨n, e⟩
    cases n with
    | zero => simp [ev] at e
    | succ n => rw [ev_succ hc, hs] at e; exact ⟨n, e⟩
  · rintro ⟨n, e⟩
    exact ⟨n + 1, by rw [ev_succ hc, hs]; exact e⟩
theorem run_fail (hc : am_cd m pc = some (i, len, a, b, c, q)) (hs : am_stp pc i len a b c ls st h = none) : run d m pc ls st h = none := by
  refine run_ext fun r => ?_
  rw [run_iff]
  constructor
  · rintro ⟨n, e⟩
    cases n with
    | zero => simp [ev] at e
    | succ n => rw [ev_succ hc, hs] at e; cases e
  · intro e; cases e
theorem run_ret {v : Option AV} (hc : am_cd m pc = some (i, len, a, b, c, q)) (hs : am_stp pc i len a b c ls st h = some (.inr (.inl v))) : run d m pc ls st h = some (v, h) := by
  rw [run_iff]
  exact ⟨1, by rw [ev_succ hc, hs]⟩
theorem run_call {m2 : Nat} {as r : List AV} (hc : am_cd m pc = some (i, len, a, b, c, q)) (hs : am_stp pc i len a b c ls st h = some (.inr (.inr (m2, as, r)))) (hd : am_rk m2 as < d) (hl : (am_al as).length ≤ am_mx m2) :
    run d m pc ls st h = (run (am_rk m2 as) m2 0 (am_en m2 as) [] h).bind (fun z => run d m (pc + len) ls (z.1.toList ++ r) z.2) := by
  refine run_ext fun y => ?_
  rw [run_iff, Option.bind_eq_some_iff]
  constructor
  · rintro ⟨n, e⟩
    cases n with
    | zero => simp [ev] at e
    | succ n =>
      rw [ev_succ hc, hs] at e
      dsimp only at e
      rw [if_pos ⟨hd, hl⟩] at e
      cases h1 : ev n (am_rk m2 as) m2 0 (am_en m2 as) [] h with
      | none => rw [h1] at e; cases e
      | some v =>
        rw [h1] at e
        exact ⟨v, run_iff.mpr ⟨n, h1⟩, run_iff.mpr ⟨n, e⟩⟩
  · rintro ⟨v, h1, h2⟩
    obtain ⟨n1, e1⟩ := run_iff.mp h1
    obtain ⟨n2, e2⟩ := run_iff.mp h2
    refine ⟨max n1 n2 + 1, ?_⟩
    rw [ev_succ hc, hs]
    dsimp only
    rw [if_pos ⟨hd, hl⟩, ev_mono (Nat.le_max_left n1 n2) e1]
    exact ev_mono (Nat.le_max_right n1 n2) e2
/-- a choice of two ways on -/
theorem run_if {p : Prop} [Decidable p] {x y : Option am_Out} (hc : am_cd m pc = some (i, len, a, b, c, q)) (hs : am_stp pc i len a b c ls st h = if p then x else y) {u v : Option (Option AV × Hp)}
    (hx : am_stp pc i len a b c ls st h = x → run d m pc ls st h = u) (hy : am_stp pc i len a b c ls st h = y → run d m pc ls st h = v) : run d m pc ls st h = if p then u else v := by
  by_cases hp : p
  · rw [if_pos hp]; rw [if_pos hp] at hs; exact hx hs
  · rw [if_neg hp]; rw [if_neg hp] at hs; exact hy hs
end RUN
/-- several plain instructions on end -/
def am_go : Nat → Nat → Nat → Lc → List AV → Hp → Option (Nat × Lc × List AV × Hp)
  | 0, _, pc, ls, st, h => some (pc, ls, st, h)
  | n + 1, m, pc, ls, st, h => match am_cd m pc with
    | some (i, len, a, b, c, _) => match am_stp pc i len a b c ls st h with
      | some (.inl (pc2, ls2, st2, h2)) => am_go n m pc2 ls2 st2 h2
      | _ => none
    | none => none
theorem run_go : ∀ (n : Nat) {d m pc pc2 : Nat} {ls ls2 : Lc} {st st2 : List AV} {h h2 : Hp}, am_go n m pc ls st h = some (pc2, ls2, st2, h2) → run d m pc ls st h = run d m pc2 ls2 st2 h2 := by
  intro n
  induction n with
  | zero =>
    intro d m pc pc2 ls ls2 st st2 h h2 e
    simp only [am_go, Option.some.injEq, Prod.mk.injEq] at e
    obtain ⟨rfl, rfl, rfl, rfl⟩ := e
    rfl
  | succ n ih =>
    intro d m pc pc2 ls ls2 st st2 h h2 e
    rw [am_go] at e
    cases hc : am_cd m pc with
    | none => rw [hc] at e; cases e
    | some x =>
      obtain ⟨i, len, a, b, c, q⟩ := x
      rw [hc] at e
      dsimp only at e
      cases hs : am_stp pc i len a b c ls st h with
      | none => rw [hs] at e; cases e
      | some o =>
        rw [hs] at e
        rcases o with ⟨pc3, ls3, st3, h3⟩ | v | ⟨m2, as, rs⟩
        · rw [run_next hc hs]; exact ih e
        · cases e
        · cases e
