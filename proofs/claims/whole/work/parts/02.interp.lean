/-! AN INTERPRETER of the part of the bytecode that the class, the reference and the law use: over whole numbers, a shape of cells and a memory. Pure: nothing of the machine here. -/
abbrev AV : Type := Int ⊕ (Int ⊕ Nat)
abbrev Mem : Type := Nat → Nat → Int
abbrev Shp : Type := List (Nat × Nat × List Nat)
abbrev Ins : Type := Nat × Nat × Nat × Int × List Nat
abbrev Lcl : Type := List (Option AV)
abbrev Res : Type := Shp × Mem × Option AV
abbrev inR (v : Int) : Prop := -2147483648 ≤ v ∧ v ≤ 2147483647
abbrev inL (v : Int) : Prop := -9223372036854775808 ≤ v ∧ v ≤ 9223372036854775807
def up2 (M : Mem) (a k : Nat) (v : Int) : Mem := fun a' k' => if a' = a ∧ k' = k then v else M a' k'
def bi_isL : Option (Option AV) → Bool
  | some (some (.inr (.inl _))) => true
  | _ => false
/-- storing at i: a long that begins one place before is gone -/
def bi_clr (L : Lcl) (i : Nat) : Lcl := match i with
  | 0 => L
  | j + 1 => if bi_isL L[j]? then L.set j none else L
def bi_st1 (L : Lcl) (i : Nat) (v : AV) : Lcl := (bi_clr L i).set i (some v)
def bi_st2 (L : Lcl) (i : Nat) (v : AV) : Lcl := ((bi_clr L i).set i (some v)).set (i + 1) none
def bi_andn (x z : Nat) : Nat := x ^^^ (x &&& z)
def bi_and (x y : Int) : Option Int :=
  if 0 ≤ x then (if 0 ≤ y then some ((x.toNat &&& y.toNat : Nat) : Int) else some (bi_andn x.toNat (-y - 1).toNat : Nat))
  else if 0 ≤ y then some (bi_andn y.toNat (-x - 1).toNat : Nat) else none
/-- int operations of two numbers: no one may leave the range -/
def bi_bin (op : Nat) (x y : Int) : Option Int := match op with
  | 0 => if inR (x + y) then some (x + y) else none
  | 1 => if inR (x - y) then some (x - y) else none
  | 2 => if inR (x * y) then some (x * y) else none
  | 3 => if 0 ≤ x ∧ 0 < y then some (x / y) else none
  | 4 => if 0 ≤ x ∧ 0 < y then some (x % y) else none
  | 5 => if 0 ≤ x ∧ 0 ≤ y ∧ y < 32 ∧ inR (x * 2 ^ y.toNat) then some (x * 2 ^ y.toNat) else none
  | 6 => if 0 ≤ x ∧ 0 ≤ y ∧ y < 32 then some (x / 2 ^ y.toNat) else none
  | 7 => if 0 ≤ x ∧ 0 ≤ y ∧ y < 32 then some (x / 2 ^ y.toNat) else none
  | 8 => bi_and x y
  | 9 => if 0 ≤ x ∧ 0 ≤ y then some ((x.toNat ||| y.toNat : Nat) : Int) else none
  | 10 => if 0 ≤ x ∧ 0 ≤ y then some ((x.toNat ^^^ y.toNat : Nat) : Int) else if y = -1 then some (-x - 1) else none
  | _ => none
def bi_un (op : Nat) (x : Int) : Option Int := match op with
  | 0 => if inR (-x) then some (-x) else none
  | 1 => if -128 ≤ x ∧ x ≤ 127 then some x else none
  | 2 => if 0 ≤ x ∧ x < 65536 then some x else none
  | _ => none
def bi_lbin (op : Nat) (x y : Int) : Option Int := match op with
  | 0 => if inL (x + y) then some (x + y) else none
  | 1 => if inL (x * y) then some (x * y) else none
  | 2 => if 0 ≤ x ∧ 0 < y then some (x % y) else none
  | _ => none
/-- the six conditions: eq ne lt ge gt le -/
def bi_cond (op : Nat) (x y : Int) : Bool := match op with
  | 0 => decide (x = y)
  | 1 => decide (x ≠ y)
  | 2 => decide (x < y)
  | 3 => decide (y ≤ x)
  | 4 => decide (y < x)
  | _ => decide (x ≤ y)
def bi_math (op : Nat) (st : List AV) : Option (List AV) := match op, st with
  | 0, .inl y :: .inl x :: t => some (.inl (if x < y then y else x) :: t)
  | 1, .inl y :: .inl x :: t => some (.inl (if y < x then y else x) :: t)
  | 2, .inl x :: t => if 0 ≤ x then some (.inl x :: t) else if inR (-x) then some (.inl (-x) :: t) else none
  | _, _ => none
def bi_cats (st : List AV) : Nat := (st.map fun v => match v with | .inr (.inl _) => 2 | _ => 1).sum
def bi_slots (v : AV) : Lcl := match v with
  | .inl x => [some (.inl x)]
  | .inr (.inl x) => [some (.inr (.inl x)), none]
  | .inr (.inr c) => [some (.inr (.inr c))]
def bi_entry (nL : Nat) (as : List AV) : Lcl := as.flatMap bi_slots ++ List.replicate (nL - (as.flatMap bi_slots).length) none
def bi_cpy (M : Mem) (a sp b dp n : Nat) : Mem := fun q k => if q = b ∧ dp ≤ k ∧ k < dp + n then M a (sp + (k - dp)) else M q k
def bi_look (x : Int) : List Nat → Nat → Nat
  | k :: t :: l, d => if x = (k : Int) then t else bi_look x l d
  | _, d => d
def bi_retok (ty : Nat) (x : Int) : Bool := match ty with
  | 0 => true
  | 1 => decide (x = 0 ∨ x = 1)
  | 2 => decide (0 ≤ x ∧ x < 65536)
  | _ => decide (-128 ≤ x ∧ x ≤ 127)
def bi_load (kd : Nat) (v : Option (Option AV)) : Option AV := match kd, v with
  | 0, some (some (.inl x)) => some (.inl x)
  | 1, some (some (.inr (.inr c))) => if c = 0 ∨ c = 4 then none else some (.inr (.inr c))
  | 2, some (some (.inr (.inl x))) => some (.inr (.inl x))
  | _, _ => none
def bi_store (L : Lcl) (kd a : Nat) (v : AV) : Option Lcl := match kd, v with
  | 0, .inl x => if a < L.length then some (bi_st1 L a (.inl x)) else none
  | 1, .inr (.inr c) => if c = 0 ∨ c = 4 then none else if a < L.length then some (bi_st1 L a (.inr (.inr c))) else none
  | 2, .inr (.inl x) => if a + 1 < L.length then some (bi_st2 L a (.inr (.inl x))) else none
  | _, _ => none
/-- the receiver of a call: 0 virtual, 1 static, 2 special -/
def bi_recv (c : Int) (cls : Nat) (S : Shp) (v : Option AV) : Bool := match v with
  | some (.inr (.inr (q + 1))) => if c = 0 then (match S[q]? with | some (kd, _, _) => decide (kd = cls + 3) && (decide (4 ≤ q) || decide (q = 1 ∧ cls = 10)) | none => false) else decide (c = 1 ∨ (c = 2 ∧ q ≠ 3))
  | _ => decide (c = 1)
section Step
variable (k : Nat → Lcl → List AV → Shp → Mem → Option Res) (cl : Nat → List AV → Option Res)
/-- fields and arrays -/
def bi_heap (op a b : Nat) (i : Nat) (L : Lcl) (st : List AV) (S : Shp) (M : Mem) : Option Res := match op, st with
  | 14, .inr (.inr (q + 1)) :: t => match S[q]? with
    | some (kd, n, _) => if kd = a + 3 ∧ b < n then k (i + 1) L (.inl (M q b) :: t) S M else none
    | none => none
  | 15, .inr (.inr (q + 1)) :: t => match S[q]? with
    | some (kd, n, rs) => if kd = a + 3 ∧ b < n then k (i + 1) L (.inr (.inr (rs.getD b 0)) :: t) S M else none
    | none => none
  | 16, .inl v :: .inr (.inr (q + 1)) :: t => match S[q]? with
    | some (kd, n, _) => if kd = a + 3 ∧ b < n ∧ 4 ≤ q then k (i + 1) L t S (up2 M q b v) else none
    | none => none
  | 17, .inr (.inr v) :: .inr (.inr (q + 1)) :: t => match S[q]? with
    | some (kd, n, rs) => if kd = a + 3 ∧ b < n ∧ 4 ≤ q ∧ n = rs.length then k (i + 1) L t (S.set q (kd, n, rs.set b v)) M else none
    | none => none
  | 18, .inl j :: .inr (.inr (q + 1)) :: t => match S[q]? with
    | some (0, n, _) => if 0 ≤ j ∧ j < n then k (i + 1) L (.inl (M q j.toNat) :: t) S M else none
    | _ => none
  | 19, .inl v :: .inl j :: .inr (.inr (q + 1)) :: t => match S[q]? with
    | some (0, n, _) => if 0 ≤ j ∧ j < n ∧ 4 ≤ q then k (i + 1) L t S (up2 M q j.toNat v) else none
    | _ => none
  | 20, .inl j :: .inr (.inr (q + 1)) :: t => match S[q]? with
    | some (1, n, _) => if 0 ≤ j ∧ j < n then k (i + 1) L (.inl (M q j.toNat) :: t) S M else none
    | _ => none
  | 21, .inl v :: .inl j :: .inr (.inr (q + 1)) :: t => match S[q]? with
    | some (1, n, _) => if 0 ≤ j ∧ j < n ∧ 4 ≤ q ∧ -128 ≤ v ∧ v ≤ 127 then k (i + 1) L t S (up2 M q j.toNat v) else none
    | _ => none
  | 22, .inl j :: .inr (.inr (q + 1)) :: t => match S[q]? with
    | some (2, n, _) => if 0 ≤ j ∧ j < n ∧ 4 ≤ q then k (i + 1) L (.inr (.inr (M q j.toNat).toNat) :: t) S M else none
    | _ => none
  | 23, .inr (.inr (v + 1)) :: .inl j :: .inr (.inr (q + 1)) :: t => match S[q]?, S[v]? with
    | some (2, n, _), some (10, _, _) => if 0 ≤ j ∧ j < n ∧ 4 ≤ q ∧ 4 ≤ v then k (i + 1) L t S (up2 M q j.toNat ((v + 1 : Nat) : Int)) else none
    | _, _ => none
  | 24, .inr (.inr (q + 1)) :: t => match S[q]? with
    | some (kd, n, _) => if kd < 3 ∧ q ≠ 3 then k (i + 1) L (.inl n :: t) S M else none
    | none => none
  | _, _ => none
def bi_step (ins : Ins) (i : Nat) (L : Lcl) (st : List AV) (S : Shp) (M : Mem) : Option Res := match ins with
  | (0, _, _, c, _) => k (i + 1) L (.inl c :: st) S M
  | (1, a, b, _, _) => match bi_load b L[a]? with
    | some v => k (i + 1) L (v :: st) S M
    | none => none
  | (2, a, b, _, _) => match st with
    | v :: t => match bi_store L b a v with
      | some L' => k (i + 1) L' t S M
      | none => none
    | _ => none
  | (3, a, _, _, _) => match st with
    | .inl y :: .inl x :: t => match bi_bin a x y with
      | some z => k (i + 1) L (.inl z :: t) S M
      | none => none
    | _ => none
  | (4, a, _, _, _) => match st with
    | .inl x :: t => match bi_un a x with
      | some z => k (i + 1) L (.inl z :: t) S M
      | none => none
    | _ => none
  | (5, _, _, _, _) => match st with
    | .inl x :: t => k (i + 1) L (.inr (.inl x) :: t) S M
    | _ => none
  | (6, _, _, _, _) => match st with
    | .inr (.inl x) :: t => if inR x then k (i + 1) L (.inl x :: t) S M else none
    | _ => none
  | (7, a, _, _, _) => match st with
    | .inr (.inl y) :: .inr (.inl x) :: t => match bi_lbin a x y with
      | some z => k (i + 1) L (.inr (.inl z) :: t) S M
      | none => none
    | _ => none
  | (8, _, _, _, _) => match st with
    | .inr (.inl y) :: .inr (.inl x) :: t => k (i + 1) L (.inl (if x < y then -1 else if x = y then 0 else 1) :: t) S M
    | _ => none
  | (9, _, _, c, _) => k (i + 1) L (.inr (.inl c) :: st) S M
  | (10, a, _, c, _) => match L[a]? with
    | some (some (.inl x)) => if inR (x + c) then k (i + 1) (bi_st1 L a (.inl (x + c))) st S M else none
    | _ => none
  | (11, a, _, _, _) => k a L st S M
  | (12, a, b, _, _) => match st with
    | .inl y :: .inl x :: t => if bi_cond b x y then k a L t S M else k (i + 1) L t S M
    | _ => none
  | (13, a, b, _, _) => match st with
    | .inl x :: t => if bi_cond b x 0 then k a L t S M else k (i + 1) L t S M
    | _ => none
  | (25, a, b, _, _) => k (i + 1) L (.inr (.inr (S.length + 1)) :: st) (S ++ [(a + 3, b, List.replicate b 0)]) (fun q j => if q = S.length then 0 else M q j)
  | (26, a, _, _, _) => match st with
    | .inl n :: t => if 0 ≤ n ∧ n ≤ 65536 ∧ a < 3 then k (i + 1) L (.inr (.inr (S.length + 1)) :: t) (S ++ [(a, n.toNat, [])]) (fun q j => if q = S.length then 0 else M q j) else none
    | _ => none
  | (28, _, _, _, _) => match st with
    | .inl x :: t => k (i + 1) L (.inl x :: .inl x :: t) S M
    | .inr (.inr c) :: t => k (i + 1) L (.inr (.inr c) :: .inr (.inr c) :: t) S M
    | _ => none
  | (29, _, _, _, _) => match st with
    | .inl x :: .inr (.inr c) :: t => k (i + 1) L (.inl x :: .inr (.inr c) :: .inl x :: .inr (.inr c) :: t) S M
    | _ => none
  | (30, _, _, _, _) => match st with
    | .inl _ :: t => k (i + 1) L t S M
    | .inr (.inr _) :: t => k (i + 1) L t S M
    | _ => none
  | (31, a, _, c, l) => match st with
    | .inl x :: t => if x < c ∨ c + l.length ≤ x then k a L t S M else k (l.getD (x - c).toNat 0) L t S M
    | _ => none
  | (32, a, _, _, l) => match st with
    | .inl x :: t => k (bi_look x l a) L t S M
    | _ => none
  | (33, a, _, _, _) => match st with
    | [.inl x] => if bi_retok a x then some (S, M, some (.inl x)) else none
    | _ => none
  | (34, _, _, _, _) => match st with
    | [] => some (S, M, none)
    | _ => none
  | (35, _, _, _, _) => match st with
    | [.inr (.inr c)] => some (S, M, some (.inr (.inr c)))
    | _ => none
  | (36, a, b, c, l) => if b ≤ st.length ∧ bi_cats (st.drop b) ≤ 8 ∧ bi_recv c (l.headD 0) S st[b - 1]? = true then
      match cl a (st.take b).reverse with
      | some (S1, M1, r) => k (i + 1) L (r.toList ++ st.drop b) S1 M1
      | none => none
    else none
  | (37, _, _, _, _) => match st with
    | .inr (.inr (q + 1)) :: t => if q ≠ 3 ∧ bi_cats t ≤ 8 then k (i + 1) L t S M else none
    | _ => none
  | (38, a, _, _, _) => match bi_math a st with
    | some t => if bi_cats t ≤ 8 then k (i + 1) L t S M else none
    | none => none
  | (39, _, _, _, _) => match st with
    | .inl n :: .inl dp :: .inr (.inr (b + 1)) :: .inl sp :: .inr (.inr (a + 1)) :: t => match S[a]?, S[b]? with
      | some (0, na, _), some (0, nb, _) => if 0 ≤ n ∧ 0 ≤ dp ∧ 0 ≤ sp ∧ sp + n ≤ na ∧ dp + n ≤ nb ∧ 4 ≤ a ∧ 4 ≤ b ∧ bi_cats t ≤ 8 then k (i + 1) L t S (bi_cpy M a sp.toNat b dp.toNat n.toNat) else none
      | _, _ => none
    | _ => none
  | (40, _, _, _, _) => k (i + 1) L (.inr (.inr 2) :: st) S M
  | (41, 0, _, _, _) => k (i + 1) L (.inl 1 :: st) S M
  | (41, _, _, _, _) => k (i + 1) L (.inr (.inr 4) :: st) S M
  | (op, a, b, _, _) => bi_heap k op a b i L st S M
end Step
def bi_exec (P : Nat → List Ins × Nat) : Nat → Nat → Nat → Lcl → List AV → Shp → Mem → Option Res
  | 0, _, _, _, _, _, _ => none
  | n + 1, m, i, L, st, S, M => match (P m).1[i]? with
    | some ins => bi_step (bi_exec P n m) (fun m' as => if bi_cats as ≤ (P m').2 then bi_exec P n m' 0 (bi_entry (P m').2 as) [] S M else none) ins i L st S M
    | none => none
