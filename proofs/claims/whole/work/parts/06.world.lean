/-! WHAT THE MACHINE HOLDS of what the interpreter holds: values, cells, the world -/
def bw_v (rv : List Value) (a : AV) (v : Value) : Prop := match a with
  | .inl x => ∃ y : Int32, v = .int y ∧ y.toInt = x
  | .inr (.inl x) => ∃ y : Int64, v = .long y ∧ y.toInt = x
  | .inr (.inr c) => rv[c]? = some v
def bw_s (rv : List Value) : List AV → List Value → Prop
  | [], [] => True
  | a :: l, v :: t => bw_v rv a v ∧ bw_s rv l t
  | _, _ => False
def bw_l (rv : List Value) (L : Lcl) (lvs : List (Nat × Value)) : Prop := ∀ (i : Nat) (v : AV), L[i]? = some (some v) → ∃ c, (i, c) ∈ lvs ∧ bw_v rv v c
def bw_c (tys : List (ClassId × FieldType)) (rv : List Value) (sh : Nat × Nat × List Nat) (f : Nat → Int) (e : va_E) : Prop := match sh with
  | (0, n, _) => ∃ (cA : ClassId) (t0 : Nat) (g : Nat → Int32), tys[t0]? = some (cA, .int) ∧ e = .inl (cA, n, .inl g) ∧ n ≤ 65536 ∧ ∀ j, j < n → (g j).toInt = f j
  | (1, n, _) => ∃ (cA : ClassId) (t0 : Nat) (g : Nat → Int32), tys[t0]? = some (cA, .byte) ∧ e = .inl (cA, n, .inl g) ∧ n ≤ 65536 ∧ ∀ j, j < n → (g j).toInt = f j
  | (2, n, _) => ∃ (cA : ClassId) (t0 : Nat) (g : Nat → Option Nat), tys[t0]? = some (cA, .object "ByInitials$Town") ∧ e = .inl (cA, n, .inr (.inr (.inr (.inr g)))) ∧ n ≤ 65536 ∧ ∀ j, j < n → rv[(f j).toNat]? = some (va_rf (g j))
  | (c + 3, n, rs) => ∃ fs : List Value, e = .inr (c, fs) ∧ fs.length = n ∧ n = (bi_cls c).2.2 ∧ c < 10 ∧ rs.length = n ∧ ∀ j, j < n → ∃ v, fs[j]? = some v ∧ (if bi_isI c j = true then ∃ y : Int32, v = .int y ∧ y.toInt = f j else rv[rs.getD j 0]? = some v)
def bw_txt : String := "nadam,5,9;nquinn,9,5;nzoe,8,30;n,3,0;qaq;"
/-- what lies outside: the script, the text constant, two statics -/
def bw_ou (A : Nat → Prop) (U : State) (H : Heap) (rv : List Value) (S : Shp) (M : Mem) : Prop :=
  ∃ (b N b1 b2 : Nat) (xs ys : Nat → Int32) (fv : Value),
    (rv[1]? = some (.ref b) ∧ S[0]? = some (0, N, []) ∧ N ≤ 65536 ∧ va_T .int b N (fun j => .int (xs j)) A U H ∧ ∀ j, j < N → (xs j).toInt = M 0 j) ∧
    (rv[2]? = some (.ref b1) ∧ S[1]? = some (13, 2, [3, 0]) ∧ M 1 1 = 0 ∧ va_O "java/lang/String" b1 A U H ∧ va_OF "java/lang/String" "coder" "B" (.int 0) b1 A U H ∧ va_OF "java/lang/String" "value" "[B" (.ref b2) b1 A U H) ∧
    (rv[3]? = some (.ref b2) ∧ S[2]? = some (1, 41, []) ∧ va_T .byte b2 41 (fun j => .int (ys j)) A U H ∧ ∀ j, j < 41 → (ys j).toInt = M 2 j) ∧
    (rv[4]? = some fv ∧ S[3]? = some (2, 0, []) ∧ va_Z "jdk/internal/util/Preconditions" "SIOOBE_FORMATTER" "Ljava/util/function/BiFunction;" fv A U H ∧ va_Z "java/lang/String" "COMPACT_STRINGS" "Z" (.int 1) A U H) ∧
    vk_R "ByInitials" 77 bw_txt b1 U
/-- the world's list and what it holds, apart from the heap -/
def bw_k (tys : List (ClassId × FieldType)) (rv : List Value) (ws : va_W) (S : Shp) (M : Mem) : Prop :=
  rv.length = S.length + 1 ∧ ws.length + 4 = S.length ∧ (∀ (c : Nat) (v : Value), rv[c]? = some v → v = .null ∨ ∃ a : Nat, v = .ref a) ∧ rv[0]? = some .null ∧
  (∀ (k a : Nat) (e : va_E), ws[k]? = some (a, e) → rv[k + 5]? = some (.ref a)) ∧ (∀ (k a : Nat) (e : va_E) (sh : Nat × Nat × List Nat), ws[k]? = some (a, e) → S[k + 4]? = some sh → bw_c tys rv sh (M (k + 4)) e)
def bw_w (D : va_G) (tys : List (ClassId × FieldType)) (U : State) (A : Nat → Prop) (H0 H : Heap) (locs : List Loc) (rv : List Value) (ws : va_W) (S : Shp) (M : Mem) : Prop :=
  va_K D vwCl tys U ∧ va_P D vwCl ws H ∧ va_D A ws ∧ va_S A H0 H locs ∧ bw_ou A U H0 rv S M ∧ bw_k tys rv ws S M
def bw_x (U : State) : Prop := (∀ a i x h, Cond.methodLinkNest a i x h ∈ lw_tbl → va_Nw (.methodLinkNest a i x h) U) ∧ va_AO "ByInitials$Town" U
def bw_f (m : Nat) (p : Program) (s : State) (mid : MethodId) (args : Array Value) (meth : Method) (c : Code) (A : Nat → Prop) : Prop :=
  p.tables.exec = Jvm.exec ∧ c.code = bi_by m ∧ c.maxLocals = bi_mL m ∧ meth.sig.returnType = bi_ret m ∧ s.vm.findClass (bi_own m) = some mid.cls ∧ (∀ w ∈ wAll, w.before args s = true) ∧ meth.locks = false ∧ ((bi_y m).name = "<init>" → meth.name = "<init>") ∧ bw_x s ∧ ∀ q, s.heap.size ≤ q → A q
def bw_z (S : Shp) : Nat := (S.map (fun x => x.2.1)).sum
/-- how a method may end -/
def bw_rv (m : Nat) (rv : List Value) (r : Option AV) (stc : List Value) (pc : Nat) : Prop := match r with
  | none => stc = [] ∧ decode (bi_by m) pc = .ok (.return_, 1) ∧ bi_ret m = none
  | some (.inl x) => ∃ y : Int32, stc = [.int y] ∧ y.toInt = x ∧ decode (bi_by m) pc = .ok (.ireturn, 1) ∧ ∃ ty, bi_ret m = some ty ∧ narrow ty (.int y) = .int y
  | some (.inr (.inr c)) => ∃ v, stc = [v] ∧ rv[c]? = some v ∧ decode (bi_by m) pc = .ok (.areturn, 1) ∧ bi_ret m = some (.object "ByInitials$Line")
  | some (.inr (.inl _)) => False
def bw_ro (m : Nat) (p : Program) (l : Launch) (e : Env) (R : Room) (s : State) (mid : MethodId) (args : Array Value) (below : List Frame) (meth : Method) (c : Code) (Q : State → Prop) (D : va_G) (A : Nat → Prop) (rv0 : List Value) (b0 z0 : Nat) (res : Res) : Prop :=
  ∀ (H : Heap) (locs : List Loc) (cells slots : Nat) (tys : List (ClassId × FieldType)) (rv : List Value) (ws : va_W) (ls : Array Slot) (stc : List Value) (pc : Nat), bw_w D tys s A s.heap H locs rv ws res.1 res.2.1 → rv0 <+: rv → cells + b0 = res.1.length → slots + z0 = bw_z res.1 → bw_rv m rv res.2.2 stc pc → W p l e R s mid args below meth c H locs cells slots Q (F0 mid pc ls stc)
/-- the machine comes from this place of the method to its end, where the interpreter does -/
def bw_J (m i : Nat) (L : Lcl) (st : List AV) (S : Shp) (M : Mem) (res : Res) : Prop :=
  ∀ (p : Program) (l : Launch) (e : Env) (R : Room) (s : State) (mid : MethodId) (args : Array Value) (below : List Frame) (meth : Method) (c : Code) (H : Heap) (locs : List Loc) (cells slots : Nat) (Q : State → Prop) (D : va_G) (tys : List (ClassId × FieldType)) (A : Nat → Prop) (rv0 rv : List Value) (ws : va_W) (ls : Array Slot) (lvs : List (Nat × Value)) (stc : List Value) (b0 z0 : Nat),
    bw_f m p s mid args meth c A → bw_w D tys s A s.heap H locs rv ws S M → rv0 <+: rv → lv_has ls (bi_mL m) lvs → L.length = bi_mL m → bw_l rv L lvs → bw_s rv st stc → cells + b0 = S.length → slots + z0 = bw_z S → res.1.length ≤ b0 + R.cells → bw_z res.1 ≤ z0 + R.slots → bi_fr m ≤ R.frames → bi_lo m ≤ R.locals →
    bw_ro m p l e R s mid args below meth c Q D A rv0 b0 z0 res → W p l e R s mid args below meth c H locs cells slots Q (F0 mid (bi_pc m i) ls stc)
-- small laws
theorem bw_pre {l r : List Value} (h : l <+: r) {c : Nat} {v : Value} (hc : l[c]? = some v) : r[c]? = some v := by
  obtain ⟨t, rfl⟩ := h
  rw [List.getElem?_append_left (List.getElem?_eq_some_iff.mp hc).1]
  exact hc
theorem bw_v_mono {l r : List Value} (h : l <+: r) {a : AV} {v : Value} (hv : bw_v l a v) : bw_v r a v := by
  match a, hv with
  | .inl x, hv => exact hv
  | .inr (.inl x), hv => exact hv
  | .inr (.inr c), hv => exact bw_pre h hv
theorem bw_s_mono {l r : List Value} (h : l <+: r) : ∀ (st : List AV) (stc : List Value), bw_s l st stc → bw_s r st stc := by
  intro st
  induction st with
  | nil => intro stc hs; cases stc with
    | nil => trivial
    | cons => exact hs
  | cons a st ih => intro stc hs; cases stc with
    | nil => exact hs
    | cons v t => exact ⟨bw_v_mono h hs.1, ih t hs.2⟩
theorem bw_l_mono {l r : List Value} (h : l <+: r) {L : Lcl} {lvs : List (Nat × Value)} (hl : bw_l l L lvs) : bw_l r L lvs := fun i v hi => by
  obtain ⟨c, h1, h2⟩ := hl i v hi
  exact ⟨c, h1, bw_v_mono h h2⟩
theorem bw_cons {rv : List Value} {a : AV} {st : List AV} {stc : List Value} (h : bw_s rv (a :: st) stc) : ∃ v t, stc = v :: t ∧ bw_v rv a v ∧ bw_s rv st t := by
  cases stc with
  | nil => exact h.elim
  | cons v t => exact ⟨v, t, rfl, h.1, h.2⟩
theorem bw_nil {rv : List Value} {stc : List Value} (h : bw_s rv [] stc) : stc = [] := by
  cases stc with
  | nil => rfl
  | cons v t => exact h.elim
theorem bw_s_len {rv : List Value} : ∀ (st : List AV) (stc : List Value), bw_s rv st stc → st.length = stc.length := by
  intro st
  induction st with
  | nil => intro stc h; rw [bw_nil h]; rfl
  | cons a st ih => intro stc h; obtain ⟨v, t, rfl, -, h2⟩ := bw_cons h; simp [ih t h2]
theorem bw_s_drop {rv : List Value} : ∀ (n : Nat) (st : List AV) (stc : List Value), bw_s rv st stc → bw_s rv (st.drop n) (stc.drop n) := by
  intro n
  induction n with
  | zero => intro st stc h; simpa using h
  | succ n ih => intro st stc h; cases st with
    | nil => rw [bw_nil h]; simp; trivial
    | cons a st => obtain ⟨v, t, rfl, -, h2⟩ := bw_cons h; simpa using ih st t h2
theorem bw_s_take {rv : List Value} : ∀ (n : Nat) (st : List AV) (stc : List Value), bw_s rv st stc → bw_s rv (st.take n) (stc.take n) := by
  intro n
  induction n with
  | zero => intro st stc h; simp; trivial
  | succ n ih => intro st stc h; cases st with
    | nil => rw [bw_nil h]; simp; trivial
    | cons a st => obtain ⟨v, t, rfl, h1, h2⟩ := bw_cons h; exact ⟨h1, ih st t h2⟩
theorem bw_s_app {rv : List Value} : ∀ (a : List AV) (b : List Value) (st : List AV) (stc : List Value), bw_s rv a b → bw_s rv st stc → bw_s rv (a ++ st) (b ++ stc) := by
  intro a
  induction a with
  | nil => intro b st stc h h2; rw [bw_nil h]; exact h2
  | cons x a ih => intro b st stc h h2; obtain ⟨v, t, rfl, h1, h3⟩ := bw_cons h; exact ⟨h1, ih t st stc h3 h2⟩
theorem bw_s_rev {rv : List Value} : ∀ (a : List AV) (b : List Value), bw_s rv a b → bw_s rv a.reverse b.reverse := by
  intro a
  induction a with
  | nil => intro b h; rw [bw_nil h]; trivial
  | cons x a ih => intro b h; obtain ⟨v, t, rfl, h1, h3⟩ := bw_cons h; rw [List.reverse_cons, List.reverse_cons]; exact bw_s_app _ _ _ _ (ih t h3) ⟨h1, trivial⟩
def bw_ct (a : AV) : Nat := match a with
  | .inr (.inl _) => 2
  | _ => 1
theorem bw_cat {tys : List (ClassId × FieldType)} {rv : List Value} {ws : va_W} {S : Shp} {M : Mem} (hk : bw_k tys rv ws S M) : ∀ {a : AV} {v : Value}, bw_v rv a v → v.category = bw_ct a
  | .inl _, _, ⟨_, e, _⟩ => by rw [e]; rfl
  | .inr (.inl _), _, ⟨_, e, _⟩ => by rw [e]; rfl
  | .inr (.inr c), v, h => by
    have h' : rv[c]? = some v := h
    rcases hk.2.2.1 c v h' with rfl | ⟨b, rfl⟩ <;> rfl
theorem bw_cats_cons (a : AV) (st : List AV) : bi_cats (a :: st) = bw_ct a + bi_cats st := by
  match a with
  | .inl _ => rfl
  | .inr (.inl _) => rfl
  | .inr (.inr _) => rfl
theorem bw_cats {tys : List (ClassId × FieldType)} {rv : List Value} {ws : va_W} {S : Shp} {M : Mem} (hk : bw_k tys rv ws S M) : ∀ (st : List AV) (stc : List Value), bw_s rv st stc → (stc.map fun v => v.category).sum = bi_cats st := by
  intro st
  induction st with
  | nil => intro stc h; rw [bw_nil h]; rfl
  | cons a st ih =>
    intro stc h
    obtain ⟨v, t, rfl, h1, h2⟩ := bw_cons h
    have h3 := ih t h2
    rw [bw_cats_cons, ← h3, ← bw_cat hk h1]
    rfl
/-- a cell of the world by its number -/
theorem bw_cell {tys : List (ClassId × FieldType)} {rv : List Value} {ws : va_W} {S : Shp} {M : Mem} (hk : bw_k tys rv ws S M) {q : Nat} (h4 : 4 ≤ q) {sh : Nat × Nat × List Nat} (hS : S[q]? = some sh) {v : Value} (hv : rv[q + 1]? = some v) : ∃ a e, v = .ref a ∧ ws[q - 4]? = some (a, e) ∧ bw_c tys rv sh (M q) e := by
  obtain ⟨k1, k2, k3, k4, k5, k6⟩ := hk
  have hq : q < S.length := (List.getElem?_eq_some_iff.mp hS).1
  have hw : ws[q - 4]? = some ws[q - 4] := List.getElem?_eq_getElem (by omega)
  obtain ⟨a, e, he⟩ : ∃ a e, ws[q - 4] = (a, e) := ⟨_, _, rfl⟩
  rw [he] at hw
  have h1 := k5 _ _ _ hw
  rw [show q - 4 + 5 = q + 1 by omega, hv] at h1
  have h2 := k6 _ _ _ sh hw (by rw [show q - 4 + 4 = q by omega]; exact hS)
  rw [show q - 4 + 4 = q by omega] at h2
  exact ⟨a, e, Option.some.inj h1, hw, h2⟩
theorem bw_ref {D : va_G} {tys : List (ClassId × FieldType)} {U : State} {A : Nat → Prop} {H0 H : Heap} {locs : List Loc} {rv : List Value} {ws : va_W} {S : Shp} {M : Mem} (h : bw_w D tys U A H0 H locs rv ws S M) {c : Nat} (hc : ¬ (c = 0 ∨ c = 4)) {v : Value} (hv : rv[c]? = some v) : ∃ a, v = .ref a := by
  obtain ⟨-, -, -, -, ⟨b, N, b1, b2, xs, ys, fv, o1, o2, o3, o4, -⟩, hk⟩ := h
  rcases (show c = 1 ∨ c = 2 ∨ c = 3 ∨ 5 ≤ c by omega) with rfl | rfl | rfl | h5
  · exact ⟨b, Option.some.inj (hv.symm.trans o1.1)⟩
  · exact ⟨b1, Option.some.inj (hv.symm.trans o2.1)⟩
  · exact ⟨b2, Option.some.inj (hv.symm.trans o3.1)⟩
  · have hl : c < rv.length := (List.getElem?_eq_some_iff.mp hv).1
    have h1 := hk.1
    obtain ⟨sh, hsh⟩ : ∃ sh, S[c - 1]? = some sh := ⟨S[c - 1], List.getElem?_eq_getElem (by omega)⟩
    obtain ⟨a, e, h1, -⟩ := bw_cell hk (q := c - 1) (by omega) hsh (by rw [show c - 1 + 1 = c by omega]; exact hv)
    exact ⟨a, h1⟩
theorem bi_dn_ok {m i k : Nat} {x : Instr} (h : bi_dn m i x k = true) : decode (bi_by m) (bi_pc m i) = .ok (x, k) ∧ bi_pc m (i + 1) = bi_pc m i + k := by
  simpa only [bi_dn, bi_d, Bool.and_eq_true, decide_eq_true_eq] using h
theorem bi_d_ok {m i k : Nat} {x : Instr} (h : bi_d m i x k = true) : decode (bi_by m) (bi_pc m i) = .ok (x, k) := by
  simpa only [bi_d, decide_eq_true_eq] using h
theorem bi_off_ok (m i t : Nat) : (bi_pc m i : Int) + bi_off m i t = (bi_pc m t : Int) := by unfold bi_off; omega
theorem bi_ite {α : Type} {p : Prop} [Decidable p] {a b : α} (h : (if p then some a else none) = some b) : p ∧ a = b := by
  by_cases hp : p
  · rw [if_pos hp] at h; exact ⟨hp, Option.some.inj h⟩
  · rw [if_neg hp] at h; cases h
theorem bi_iteO {α : Type} {p : Prop} [Decidable p] {a : Option α} {b : α} (h : (if p then a else none) = some b) : p ∧ a = some b := by
  by_cases hp : p
  · rw [if_pos hp] at h; exact ⟨hp, h⟩
  · rw [if_neg hp] at h; cases h
