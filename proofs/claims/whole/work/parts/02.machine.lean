/-! THE SMALL MACHINE: bytecode over a heap of numbered cells. A reference is (number, kind, length); kinds 0 .. 12 are the classes, 13 int[], 14 Walker[], 15 int[][]. The heap: how many cells and slots were made, the ints, the references. -/
abbrev Rf : Type := Nat × Nat × Nat
abbrev AV : Type := Int32 ⊕ (Int64 ⊕ Option Rf)
abbrev Hp : Type := (Nat × Nat) × ((Nat → Nat → Int32) × (Nat → Nat → Option Rf))
abbrev Lc : Type := List (Option AV)
abbrev vi (x : Int32) : AV := .inl x
abbrev vl (x : Int64) : AV := .inr (.inl x)
abbrev vo (r : Option Rf) : AV := .inr (.inr r)
abbrev vr (r : Rf) : AV := .inr (.inr (some r))
def hI (h : Hp) (a k : Nat) : Int32 := h.2.1 a k
def hR (h : Hp) (a k : Nat) : Option Rf := h.2.2 a k
def hsI (h : Hp) (a k : Nat) (v : Int32) : Hp := (h.1, (fun b j => if b = a ∧ j = k then v else h.2.1 b j), h.2.2)
def hsR (h : Hp) (a k : Nat) (v : Option Rf) : Hp := (h.1, h.2.1, (fun b j => if b = a ∧ j = k then v else h.2.2 b j))
def hmk (h : Hp) (w : Nat) : Hp := ((h.1.1 + 1, h.1.2 + w), (fun b j => if b = h.1.1 then 0 else h.2.1 b j), (fun b j => if b = h.1.1 then none else h.2.2 b j))
def hcp (h : Hp) (a sp b dp n : Nat) : Hp := (h.1, (fun c j => if c = b ∧ dp ≤ j ∧ j < dp + n then h.2.1 a (sp + (j - dp)) else h.2.1 c j), h.2.2)
def hmm (h : Hp) (n k : Nat) : Hp := ((h.1.1 + 1 + n, h.1.2 + n + n * k), (fun b j => if h.1.1 ≤ b then 0 else h.2.1 b j), (fun b j => if h.1.1 ≤ b then (if b = h.1.1 ∧ j < n then some (h.1.1 + 1 + j, 13, k) else none) else h.2.2 b j))
abbrev am_Out : Type := (Nat × Lc × List AV × Hp) ⊕ (Option AV ⊕ (Nat × List AV × List AV))
abbrev am_En : Type := Instr × Nat × Nat × Nat × Nat × Nat
def am_ld (ls : Lc) (i : Nat) : Option AV := match ls[i]? with
  | some (some v) => some v
  | _ => none
def am_wd (v : Option AV) : Bool := match v with
  | some (.inr (.inl _)) => true
  | _ => false
def am_pw (ls : Lc) (i : Nat) : Bool := match i with
  | 0 => false
  | j + 1 => am_wd (am_ld ls j)
def am_s1 (ls : Lc) (i : Nat) (v : AV) : Option Lc := if i < ls.length ∧ am_pw ls i = false then some (ls.set i (some v)) else none
def am_s2 (ls : Lc) (i : Nat) (v : AV) : Option Lc := if i + 1 < ls.length ∧ am_pw ls i = false then some ((ls.set i (some v)).set (i + 1) none) else none
/-- is an object of kind k one of class c -/
def am_sub (k c : Nat) : Bool := k == c || (c == 9 && (k == 1 || k == 2 || k == 3 || k == 6 || k == 8)) || (c == 3 && (k == 1 || k == 6))
def am_nx (pc : Nat) (ls : Lc) (st : List AV) (h : Hp) : Option am_Out := some (.inl (pc, ls, st, h))
def am_isd (v : Int32) : Bool := v == 0 || v == 1
def am_swT (offs : Array Int) (lo hi dflt : Int) (pc : Nat) (x : Int32) : Option Nat :=
  if x.toInt < lo ∨ hi < x.toInt then some (((pc : Int) + dflt).toNat) else match offs[(x.toInt - lo).toNat]? with
    | some off => some (((pc : Int) + off).toNat)
    | none => none
/-- virtual methods: the method's number by the receiver's kind -/
def am_vt (sel k : Nat) : Option Nat := match sel with
  | 0 => match k with | 9 => some 902 | 3 => some 301 | 2 => some 201 | 1 => some 101 | 8 => some 801 | 6 => some 601 | _ => none
  | 1 => match k with | 9 => some 903 | 3 => some 302 | 2 => some 202 | 1 => some 302 | 8 => some 802 | 6 => some 302 | _ => none
  | 2 => match k with | 9 => some 904 | _ => none
  | 3 => match k with | 3 => some 303 | 1 => some 102 | 6 => some 602 | _ => none
  | 4 => match k with | 3 => some 904 | 1 => some 904 | 6 => some 904 | _ => none
  | 5 => match k with | 2 => some 904 | _ => none
  | _ => none
/-- Letters.stepOf: the place of a sign in "nesw-" -/
def am_so (x : Int32) : Int32 := if (x.toUInt32 % 65536).toInt32 = 110 then 0 else if (x.toUInt32 % 65536).toInt32 = 101 then 1 else if (x.toUInt32 % 65536).toInt32 = 115 then 2 else if (x.toUInt32 % 65536).toInt32 = 119 then 3 else if (x.toUInt32 % 65536).toInt32 = 45 then 4 else -1
/-- one instruction: i with its length len and its resolved numbers a b c at pc -/
def am_stp (pc : Nat) (i : Instr) (len a b c : Nat) (ls : Lc) (st : List AV) (h : Hp) : Option am_Out :=
  match i with
  | .aconst_null => am_nx (pc + len) ls (vo none :: st) h
  | .iconst n => am_nx (pc + len) ls (vi (Int32.ofInt n) :: st) h
  | .bipush n => am_nx (pc + len) ls (vi (Int8.ofInt n).toInt32 :: st) h
  | .sipush n => am_nx (pc + len) ls (vi (Int16.ofInt n).toInt32 :: st) h
  | .lconst k => am_nx (pc + len) ls (vl (Int64.ofNat k) :: st) h
  | .ldc _ => am_nx (pc + len) ls (vi (Int32.ofNat a) :: st) h
  | .ldc_w _ => am_nx (pc + len) ls (vi (Int32.ofNat a) :: st) h
  | .ldc2_w _ => am_nx (pc + len) ls (vl (Int64.ofNat a) :: st) h
  | .iload k => match am_ld ls k with
    | some (.inl x) => am_nx (pc + len) ls (vi x :: st) h
    | _ => none
  | .iload_n k => match am_ld ls k with
    | some (.inl x) => am_nx (pc + len) ls (vi x :: st) h
    | _ => none
  | .lload k => match am_ld ls k with
    | some (.inr (.inl x)) => am_nx (pc + len) ls (vl x :: st) h
    | _ => none
  | .lload_n k => match am_ld ls k with
    | some (.inr (.inl x)) => am_nx (pc + len) ls (vl x :: st) h
    | _ => none
  | .aload k => match am_ld ls k with
    | some (.inr (.inr x)) => am_nx (pc + len) ls (vo x :: st) h
    | _ => none
  | .aload_n k => match am_ld ls k with
    | some (.inr (.inr x)) => am_nx (pc + len) ls (vo x :: st) h
    | _ => none
  | .istore k => match st with
    | .inl x :: r => match am_s1 ls k (vi x) with
      | some l2 => am_nx (pc + len) l2 r h
      | none => none
    | _ => none
  | .istore_n k => match st with
    | .inl x :: r => match am_s1 ls k (vi x) with
      | some l2 => am_nx (pc + len) l2 r h
      | none => none
    | _ => none
  | .lstore k => match st with
    | .inr (.inl x) :: r => match am_s2 ls k (vl x) with
      | some l2 => am_nx (pc + len) l2 r h
      | none => none
    | _ => none
  | .astore k => match st with
    | .inr (.inr x) :: r => match am_s1 ls k (vo x) with
      | some l2 => am_nx (pc + len) l2 r h
      | none => none
    | _ => none
  | .astore_n k => match st with
    | .inr (.inr x) :: r => match am_s1 ls k (vo x) with
      | some l2 => am_nx (pc + len) l2 r h
      | none => none
    | _ => none
  | .iinc k n => match am_ld ls k with
    | some (.inl x) => match am_s1 ls k (vi (x + Int32.ofInt n)) with
      | some l2 => am_nx (pc + len) l2 st h
      | none => none
    | _ => none
  | .iadd => match st with
    | .inl y :: .inl x :: r => am_nx (pc + len) ls (vi (x + y) :: r) h
    | _ => none
  | .isub => match st with
    | .inl y :: .inl x :: r => am_nx (pc + len) ls (vi (x - y) :: r) h
    | _ => none
  | .imul => match st with
    | .inl y :: .inl x :: r => am_nx (pc + len) ls (vi (x * y) :: r) h
    | _ => none
  | .iand => match st with
    | .inl y :: .inl x :: r => am_nx (pc + len) ls (vi (x &&& y) :: r) h
    | _ => none
  | .ior => match st with
    | .inl y :: .inl x :: r => am_nx (pc + len) ls (vi (x ||| y) :: r) h
    | _ => none
  | .ixor => match st with
    | .inl y :: .inl x :: r => am_nx (pc + len) ls (vi (x ^^^ y) :: r) h
    | _ => none
  | .idiv => match st with
    | .inl y :: .inl x :: r => if y = 0 then none else am_nx (pc + len) ls (vi (x / y) :: r) h
    | _ => none
  | .irem => match st with
    | .inl y :: .inl x :: r => if y = 0 then none else am_nx (pc + len) ls (vi (x - x / y * y) :: r) h
    | _ => none
  | .ineg => match st with
    | .inl x :: r => am_nx (pc + len) ls (vi (-x) :: r) h
    | _ => none
  | .ishl => match st with
    | .inl y :: .inl x :: r => am_nx (pc + len) ls (vi (x <<< (y &&& 31)) :: r) h
    | _ => none
  | .ishr => match st with
    | .inl y :: .inl x :: r => am_nx (pc + len) ls (vi (x >>> (y &&& 31)) :: r) h
    | _ => none
  | .iushr => match st with
    | .inl y :: .inl x :: r => am_nx (pc + len) ls (vi (x.toUInt32 >>> (y.toUInt32 &&& Int32.toUInt32 31)).toInt32 :: r) h
    | _ => none
  | .i2l => match st with
    | .inl x :: r => am_nx (pc + len) ls (vl x.toInt64 :: r) h
    | _ => none
  | .lmul => match st with
    | .inr (.inl y) :: .inr (.inl x) :: r => am_nx (pc + len) ls (vl (x * y) :: r) h
    | _ => none
  | .lcmp => match st with
    | .inr (.inl y) :: .inr (.inl x) :: r => am_nx (pc + len) ls (vi (lg_cmp x y) :: r) h
    | _ => none
  | .dup => match st with
    | .inl x :: r => am_nx (pc + len) ls (vi x :: vi x :: r) h
    | .inr (.inr x) :: r => am_nx (pc + len) ls (vo x :: vo x :: r) h
    | _ => none
  | .dup2 => match st with
    | .inl y :: .inr (.inr x) :: r => am_nx (pc + len) ls (vi y :: vo x :: vi y :: vo x :: r) h
    | _ => none
  | .pop => match st with
    | .inl _ :: r => am_nx (pc + len) ls r h
    | .inr (.inr _) :: r => am_nx (pc + len) ls r h
    | _ => none
  | .goto _ => am_nx a ls st h
  | .ifCond op _ => match st with
    | .inl x :: r => match op with
      | .eq => if x = 0 then am_nx a ls r h else am_nx (pc + len) ls r h
      | .ne => if x = 0 then am_nx (pc + len) ls r h else am_nx a ls r h
      | .lt => if x < 0 then am_nx a ls r h else am_nx (pc + len) ls r h
      | .ge => if 0 ≤ x then am_nx a ls r h else am_nx (pc + len) ls r h
      | .gt => if 0 < x then am_nx a ls r h else am_nx (pc + len) ls r h
      | .le => if x ≤ 0 then am_nx a ls r h else am_nx (pc + len) ls r h
    | _ => none
  | .if_icmp op _ => match st with
    | .inl y :: .inl x :: r => match op with
      | .eq => if x = y then am_nx a ls r h else am_nx (pc + len) ls r h
      | .ne => if x = y then am_nx (pc + len) ls r h else am_nx a ls r h
      | .lt => if x < y then am_nx a ls r h else am_nx (pc + len) ls r h
      | .ge => if y ≤ x then am_nx a ls r h else am_nx (pc + len) ls r h
      | .gt => if y < x then am_nx a ls r h else am_nx (pc + len) ls r h
      | .le => if x ≤ y then am_nx a ls r h else am_nx (pc + len) ls r h
    | _ => none
  | .ifnull _ => match st with
    | .inr (.inr none) :: r => am_nx a ls r h
    | .inr (.inr (some _)) :: r => am_nx (pc + len) ls r h
    | _ => none
  | .ifnonnull _ => match st with
    | .inr (.inr none) :: r => am_nx (pc + len) ls r h
    | .inr (.inr (some _)) :: r => am_nx a ls r h
    | _ => none
  | .tableswitch d lo hi offs => match st with
    | .inl x :: r => match am_swT offs lo hi d pc x with
      | some t => am_nx t ls r h
      | none => none
    | _ => none
  | .lookupswitch d ps => match st with
    | .inl x :: r => am_nx (((pc : Int) + Op.lookupswitch.offset ps.toList d x.toInt).toNat) ls r h
    | _ => none
  | .getfield _ => match st with
    | .inr (.inr (some (o, k, _))) :: r => if am_sub k a = true then (if c = 2 then am_nx (pc + len) ls (vo (hR h o b) :: r) h else am_nx (pc + len) ls (vi (hI h o b) :: r) h) else none
    | _ => none
  | .putfield _ => match st with
    | .inl x :: .inr (.inr (some (o, k, _))) :: r => if am_sub k a = true ∧ (c = 0 ∨ (c = 1 ∧ am_isd x = true)) then am_nx (pc + len) ls r (hsI h o b x) else none
    | .inr (.inr x) :: .inr (.inr (some (o, k, _))) :: r => if am_sub k a = true ∧ c = 2 then am_nx (pc + len) ls r (hsR h o b x) else none
    | _ => none
  | .iaload => match st with
    | .inl i :: .inr (.inr (some (o, 13, n))) :: r => if i < 0 ∨ n ≤ i.toNatClampNeg then none else am_nx (pc + len) ls (vi (hI h o i.toNatClampNeg) :: r) h
    | _ => none
  | .iastore => match st with
    | .inl x :: .inl i :: .inr (.inr (some (o, 13, n))) :: r => if i < 0 ∨ n ≤ i.toNatClampNeg then none else am_nx (pc + len) ls r (hsI h o i.toNatClampNeg x)
    | _ => none
  | .aaload => match st with
    | .inl i :: .inr (.inr (some (o, 14, n))) :: r => if i < 0 ∨ n ≤ i.toNatClampNeg then none else am_nx (pc + len) ls (vo (hR h o i.toNatClampNeg) :: r) h
    | .inl i :: .inr (.inr (some (o, 15, n))) :: r => if i < 0 ∨ n ≤ i.toNatClampNeg then none else am_nx (pc + len) ls (vo (hR h o i.toNatClampNeg) :: r) h
    | _ => none
  | .aastore => match st with
    | .inr (.inr none) :: .inl i :: .inr (.inr (some (o, 14, n))) :: r => if i < 0 ∨ n ≤ i.toNatClampNeg then none else am_nx (pc + len) ls r (hsR h o i.toNatClampNeg none)
    | .inr (.inr (some (x, k, y))) :: .inl i :: .inr (.inr (some (o, 14, n))) :: r => if i < 0 ∨ n ≤ i.toNatClampNeg ∨ am_sub k 9 = false then none else am_nx (pc + len) ls r (hsR h o i.toNatClampNeg (some (x, k, y)))
    | _ => none
  | .arraylength => match st with
    | .inr (.inr (some (_, 13, n))) :: r => am_nx (pc + len) ls (vi (Int32.ofNat n) :: r) h
    | .inr (.inr (some (_, 14, n))) :: r => am_nx (pc + len) ls (vi (Int32.ofNat n) :: r) h
    | .inr (.inr (some (_, 15, n))) :: r => am_nx (pc + len) ls (vi (Int32.ofNat n) :: r) h
    | _ => none
  | .new _ => am_nx (pc + len) ls (vr (h.1.1, a, 0) :: st) (hmk h b)
  | .newarray .int => match st with
    | .inl n :: r => if n < 0 ∨ 100000 ≤ n.toNatClampNeg then none else am_nx (pc + len) ls (vr (h.1.1, 13, n.toNatClampNeg) :: r) (hmk h n.toNatClampNeg)
    | _ => none
  | .anewarray _ => match st with
    | .inl n :: r => if n < 0 ∨ 100000 ≤ n.toNatClampNeg then none else am_nx (pc + len) ls (vr (h.1.1, 14, n.toNatClampNeg) :: r) (hmk h n.toNatClampNeg)
    | _ => none
  | .multianewarray _ _ => match st with
    | .inl k :: .inl n :: r => if k < 0 ∨ 1000 ≤ k.toNatClampNeg ∨ n < 0 ∨ 1000 ≤ n.toNatClampNeg then none else am_nx (pc + len) ls (vr (h.1.1, 15, n.toNatClampNeg) :: r) (hmm h n.toNatClampNeg k.toNatClampNeg)
    | _ => none
  | .ireturn => match st with
    | [.inl x] => if a = 0 ∨ am_isd x = true then some (.inr (.inl (some (vi x)))) else none
    | _ => none
  | .areturn => match st with
    | [.inr (.inr x)] => some (.inr (.inl (some (vo x))))
    | _ => none
  | .return_ => match st with
    | [] => some (.inr (.inl none))
    | _ => none
  | .invokestatic _ => match c with
    | 0 => if b ≤ st.length ∧ (st.drop b).length ≤ 4 then some (.inr (.inr (a, (st.take b).reverse, st.drop b))) else none
    | 1 => match st with
      | .inl y :: .inl x :: r => if r.length ≤ 4 then am_nx (pc + len) ls (vi (if x < y then y else x) :: r) h else none
      | _ => none
    | 2 => match st with
      | .inl y :: .inl x :: r => if r.length ≤ 4 then am_nx (pc + len) ls (vi (if y < x then y else x) :: r) h else none
      | _ => none
    | 3 => match st with
      | .inl x :: r => if r.length ≤ 4 then am_nx (pc + len) ls (vi (if 0 ≤ x then x else 0 - x) :: r) h else none
      | _ => none
    | 4 => match st with
      | .inl n :: .inl dp :: .inr (.inr (some (o1, 13, n1))) :: .inl sp :: .inr (.inr (some (o0, 13, n0))) :: r =>
        if sp < 0 ∨ dp < 0 ∨ n < 0 ∨ n0 < sp.toNatClampNeg + n.toNatClampNeg ∨ n1 < dp.toNatClampNeg + n.toNatClampNeg ∨ 4 < r.length then none else am_nx (pc + len) ls r (hcp h o0 sp.toNatClampNeg o1 dp.toNatClampNeg n.toNatClampNeg)
      | _ => none
    | 5 => match st with
      | .inl x :: r => if r.length ≤ 4 then am_nx (pc + len) ls (vi (am_so x) :: r) h else none
      | _ => none
    | _ => none
  | .invokespecial _ => match c with
    | 0 => match st.drop b with
      | .inr (.inr (some (o, k, n))) :: r => if am_sub k (a / 100) = true ∧ r.length ≤ 4 then some (.inr (.inr (a, vr (o, k, n) :: (st.take b).reverse, r))) else none
      | _ => none
    | _ => match st with
      | .inr (.inr (some _)) :: r => if r.length ≤ 4 then am_nx (pc + len) ls r h else none
      | _ => none
  | .invokevirtual _ => match st.drop b with
    | .inr (.inr (some (o, k, n))) :: r => if r.length ≤ 4 then (match c with
      | 0 => if k = a / 100 then some (.inr (.inr (a, vr (o, k, n) :: (st.take b).reverse, r))) else none
      | _ => match am_vt a k with
        | some t => some (.inr (.inr (t, vr (o, k, n) :: (st.take b).reverse, r)))
        | none => none) else none
    | _ => none
  | _ => none
