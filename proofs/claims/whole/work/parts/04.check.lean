/-! WHAT MAKES AN INSTRUCTION OF THE TABLES A TRUE ONE: a check that a program decides -/
def wAll : List Cond := lw_tbl.filter goodWord
def bi_w (n : Nat) (w : Cond) : Bool := decide (lw_tbl[n]? = some w) && goodWord w
theorem bi_w_ok {n : Nat} {w : Cond} (h : bi_w n w = true) : w ∈ wAll := by
  simp only [bi_w, Bool.and_eq_true, decide_eq_true_eq] at h
  exact List.mem_filter.mpr ⟨List.mem_of_getElem? h.1, h.2⟩
/-- the instruction at a place -/
def bi_d (m i : Nat) (x : Instr) (k : Nat) : Bool := decide (decode (bi_by m) (bi_pc m i) = .ok (x, k))
/-- the same, and the next one lies behind it -/
def bi_dn (m i : Nat) (x : Instr) (k : Nat) : Bool := bi_d m i x k && decide (bi_pc m (i + 1) = bi_pc m i + k)
def bi_off (m i t : Nat) : Int := (bi_pc m t : Int) - (bi_pc m i : Int)
def bi_binI (a : Nat) : Instr := match a with
  | 0 => .iadd | 1 => .isub | 2 => .imul | 3 => .idiv | 4 => .irem | 5 => .ishl | 6 => .ishr | 7 => .iushr | 8 => .iand | 9 => .ior | _ => .ixor
def bi_unI (a : Nat) : Instr := match a with
  | 0 => .ineg | 1 => .i2b | _ => .i2c
def bi_lbinI (a : Nat) : Instr := match a with
  | 0 => .ladd | 1 => .lmul | _ => .lrem
def bi_cnd (a : Nat) : Jvm.ClassFile.Cond := match a with
  | 0 => .eq | 1 => .ne | 2 => .lt | 3 => .ge | 4 => .gt | _ => .le
def bi_cls (a : Nat) : vw_C := vwCl.getD a ("", fun _ => ("", "", "", false), 0)
def bi_fn (a b : Nat) : String × String × String × Bool := (bi_cls a).2.1 b
def bi_cfI (own : String) (m i n : Nat) (c : Int) : Bool := match lw_tbl[n]? with
  | some (.constant o j v) => decide (o = own) && bi_w n (.constant own j v) && decide (v.toInt = c) && (bi_dn m i (.ldc j) 2 || bi_dn m i (.ldc_w j) 3)
  | _ => false
def bi_cfL (own : String) (m i n : Nat) (c : Int) : Bool := match lw_tbl[n]? with
  | some (.constantLong o j v) => decide (o = own) && bi_w n (.constantLong own j v) && decide (v.toInt = c) && bi_dn m i (.ldc2_w j) 3
  | _ => false
/-- a field's word: of class a, number b; the constant pool's number j -/
def bi_fw (own : String) (n a b j : Nat) : Bool := bi_w n (.fieldLink own j (bi_fn a b).1 (bi_fn a b).2.1 (bi_fn a b).2.2.1) && decide (b < (bi_cls a).2.2) && decide (a < 10)
def bi_isI (a b : Nat) : Bool := decide ((bi_fn a b).2.2.1 = "I")
def bi_rt (a : Nat) (t : Option FieldType) : Bool := match a with
  | 0 => decide (t = some .int) | 1 => decide (t = some .boolean) | 2 => decide (t = some .char) | _ => decide (t = some .byte)
def bi_tabs (m i : Nat) (l : List Nat) (offs : List Int) : Bool := decide (l.map (fun t => bi_off m i t) = offs)
/-- a callee, by itself: its code is among the words -/
def bi_mok (m n1 n2 : Nat) : Bool := bi_w n1 (.code (bi_y m) (bi_by m) (bi_mL m) (bi_ret m)) && bi_w n2 (.initialized (bi_y m).cls) && plainName (bi_y m).cls && decide ((bi_y m).cls ≠ "java/lang/invoke/MethodHandle") && decide ((bi_y m).cls ≠ "java/lang/invoke/VarHandle") && decide (bi_own m = (bi_y m).cls)
def bi_np (m : Nat) : Option Nat := (parseMethodDescriptor (bi_y m).desc).map (fun d => d.parameters.length)
def bi_room (m a : Nat) : Bool := decide (bi_fr a + 1 ≤ bi_fr m) && decide (8 + (bi_mL a + 11) + bi_lo a ≤ bi_lo m)
def bi_mis : Nat → Nat → Bool := fun f l => decide (1 ≤ f) && decide (26 ≤ l)
def bi_jn (n : Nat) : Nat := match lw_tbl[n]? with
  | some (.methodLink _ j _) => j
  | some (.methodLinkNest _ j _ _) => j
  | some (.fieldLink _ j _ _ _) => j
  | some (.classLink _ j _) => j
  | _ => 0
/-- a call's link: plain, or of a nest mate -/
def bi_lk (m a n : Nat) (nest : Bool) : Bool := if nest then decide (lw_tbl[n]? = some (.methodLinkNest (bi_own m) (bi_jn n) (bi_y a) "ByInitials")) else bi_w n (.methodLink (bi_own m) (bi_jn n) (bi_y a))
/-- h: places of words; h = [link, selects, code, initialized, kind's word, nest] for a call -/
def bi_ok (m i : Nat) (h : List Nat) (x : Ins) : Bool := match x with
  | (0, _, _, c, _) => (bi_dn m i (.iconst c) 1 && decide ((Int32.ofInt c).toInt = c)) || (bi_dn m i (.bipush c) 2 && decide ((Int8.ofInt c).toInt32.toInt = c)) || (bi_dn m i (.sipush c) 3 && decide ((Int16.ofInt c).toInt32.toInt = c)) || bi_cfI (bi_own m) m i (h.headD 0) c
  | (1, a, 0, _, _) => bi_dn m i (.iload a) 2 || (if ha : a < 4 then bi_dn m i (.iload_n ⟨a, ha⟩) 1 else false)
  | (1, a, 1, _, _) => (if ha : a < 4 then bi_dn m i (.aload_n ⟨a, ha⟩) 1 else false)
  | (1, a, 2, _, _) => bi_dn m i (.lload a) 2 || (if ha : a < 4 then bi_dn m i (.lload_n ⟨a, ha⟩) 1 else false)
  | (2, a, 0, _, _) => bi_dn m i (.istore a) 2 || (if ha : a < 4 then bi_dn m i (.istore_n ⟨a, ha⟩) 1 else false)
  | (2, a, 1, _, _) => (if ha : a < 4 then bi_dn m i (.astore_n ⟨a, ha⟩) 1 else false)
  | (2, a, 2, _, _) => bi_dn m i (.lstore a) 2 || (if ha : a < 4 then bi_dn m i (.lstore_n ⟨a, ha⟩) 1 else false)
  | (3, a, _, _, _) => bi_dn m i (bi_binI a) 1
  | (4, a, _, _, _) => bi_dn m i (bi_unI a) 1
  | (5, _, _, _, _) => bi_dn m i .i2l 1
  | (6, _, _, _, _) => bi_dn m i .l2i 1
  | (7, a, _, _, _) => bi_dn m i (bi_lbinI a) 1
  | (8, _, _, _, _) => bi_dn m i .lcmp 1
  | (9, _, _, c, _) => (bi_dn m i (.lconst 0) 1 && decide (c = 0)) || (bi_dn m i (.lconst 1) 1 && decide (c = 1)) || bi_cfL (bi_own m) m i (h.headD 0) c
  | (10, a, _, c, _) => bi_dn m i (.iinc a c) 3 && decide ((Int32.ofInt c).toInt = c)
  | (11, a, _, _, _) => bi_d m i (.goto (bi_off m i a)) 3
  | (12, a, b, _, _) => bi_dn m i (.if_icmp (bi_cnd b) (bi_off m i a)) 3
  | (13, a, b, _, _) => bi_dn m i (.ifCond (bi_cnd b) (bi_off m i a)) 3
  | (14, 10, 1, _, _) => bi_w (h.headD 0) (.fieldLink (bi_own m) (bi_jn (h.headD 0)) "java/lang/String" "coder" "B") && bi_dn m i (.getfield (bi_jn (h.headD 0))) 3
  | (15, 10, 0, _, _) => bi_w (h.headD 0) (.fieldLink (bi_own m) (bi_jn (h.headD 0)) "java/lang/String" "value" "[B") && bi_dn m i (.getfield (bi_jn (h.headD 0))) 3
  | (14, a, b, _, _) => bi_fw (bi_own m) (h.headD 0) a b (bi_jn (h.headD 0)) && bi_isI a b && bi_dn m i (.getfield (bi_jn (h.headD 0))) 3
  | (15, a, b, _, _) => bi_fw (bi_own m) (h.headD 0) a b (bi_jn (h.headD 0)) && !bi_isI a b && bi_dn m i (.getfield (bi_jn (h.headD 0))) 3
  | (16, a, b, _, _) => bi_fw (bi_own m) (h.headD 0) a b (bi_jn (h.headD 0)) && bi_isI a b && bi_dn m i (.putfield (bi_jn (h.headD 0))) 3 && !(bi_fn a b).2.2.2
  | (17, a, b, _, _) => bi_fw (bi_own m) (h.headD 0) a b (bi_jn (h.headD 0)) && !bi_isI a b && bi_dn m i (.putfield (bi_jn (h.headD 0))) 3 && (bi_fn a b).2.2.2 && decide ((bi_fn a b).1 = bi_own m) && decide ((bi_y m).name = "<init>")
  | (18, _, _, _, _) => bi_dn m i .iaload 1
  | (19, _, _, _, _) => bi_dn m i .iastore 1
  | (20, _, _, _, _) => bi_dn m i .baload 1
  | (21, _, _, _, _) => bi_dn m i .bastore 1
  | (22, _, _, _, _) => bi_dn m i .aaload 1
  | (23, _, _, _, _) => bi_dn m i .aastore 1
  | (24, _, _, _, _) => bi_dn m i .arraylength 1
  | (25, a, b, _, _) => bi_w (h.getD 0 0) (.classLink (bi_own m) (bi_jn (h.getD 0 0)) (bi_cls a).1) && bi_w (h.getD 1 0) (.instantiable (bi_cls a).1 b) && bi_w (h.getD 2 0) (.initialized (bi_cls a).1) && decide (b = (bi_cls a).2.2) && decide (a < 10) && bi_dn m i (.new (bi_jn (h.getD 0 0))) 3
  | (26, 0, _, _, _) => bi_w (h.headD 0) (.arrayClass .int) && bi_dn m i (.newarray .int) 2
  | (26, 1, _, _, _) => bi_w (h.headD 0) (.arrayClass .byte) && bi_dn m i (.newarray .byte) 2
  | (26, _, _, _, _) => bi_w (h.headD 0) (.classLink (bi_own m) (bi_jn (h.headD 0)) "ByInitials$Town") && bi_dn m i (.anewarray (bi_jn (h.headD 0))) 3
  | (28, _, _, _, _) => bi_dn m i .dup 1
  | (29, _, _, _, _) => bi_dn m i .dup2 1
  | (30, _, _, _, _) => bi_dn m i .pop 1
  | (31, a, _, c, l) => match decode (bi_by m) (bi_pc m i) with
    | .ok (.tableswitch d lo hi offs, _) => decide (lo = c) && decide (hi = c + l.length - 1) && decide (d = bi_off m i a) && bi_tabs m i l offs.toList
    | _ => false
  | (32, a, _, _, l) => match decode (bi_by m) (bi_pc m i) with
    | .ok (.lookupswitch d ps, _) => decide (d = bi_off m i a) && (ps.toList.zip (ps.toList.drop 1)).all (fun (a, next) => a.1 < next.1) && decide (ps.toList.flatMap (fun q => [q.1, q.2 + (bi_pc m i : Int)]) = (List.range (l.length / 2)).flatMap (fun j => [(l.getD (2 * j) 0 : Int), (bi_pc m (l.getD (2 * j + 1) 0) : Int)])) && decide (l.length = 2 * (l.length / 2))
    | _ => false
  | (33, a, _, _, _) => bi_d m i .ireturn 1 && bi_rt a (bi_ret m)
  | (34, _, _, _, _) => bi_d m i .return_ 1 && decide (bi_ret m = none)
  | (35, _, _, _, _) => bi_d m i .areturn 1 && decide (bi_ret m = some (.object "ByInitials$Line"))
  | (36, a, b, 0, l) => bi_mok a (h.getD 2 0) (h.getD 3 0) && bi_room m a && bi_lk m a (h.getD 0 0) false && bi_w (h.getD 1 0) (.selects (bi_y a).cls (bi_y a) (bi_y a)) && bi_w (h.getD 4 0) (.instanceMethod (bi_y a)) && decide (bi_np a = some (b - 1)) && decide (1 ≤ b) && decide ((l.headD 0 = 10 ∧ (bi_y a).cls = "java/lang/String") ∨ (l.headD 0 < 10 ∧ (bi_y a).cls = (bi_cls (l.headD 0)).1)) && bi_dn m i (.invokevirtual (bi_jn (h.getD 0 0))) 3
  | (36, a, b, 1, _) => bi_mok a (h.getD 2 0) (h.getD 3 0) && bi_room m a && bi_lk m a (h.getD 0 0) (decide (h.getD 5 0 = 1)) && bi_w (h.getD 4 0) (.static (bi_y a)) && decide (bi_np a = some b) && bi_dn m i (.invokestatic (bi_jn (h.getD 0 0))) 3
  | (36, a, b, _, _) => bi_mok a (h.getD 2 0) (h.getD 3 0) && bi_room m a && bi_lk m a (h.getD 0 0) (decide (h.getD 5 0 = 1)) && bi_w (h.getD 4 0) (.instanceMethod (bi_y a)) && decide ((bi_y a).name = "<init>") && decide (bi_ret a = none) && decide (bi_np a = some (b - 1)) && decide (1 ≤ b) && bi_dn m i (.invokespecial (bi_jn (h.getD 0 0))) 3
  | (37, _, _, _, _) => bi_w (h.getD 0 0) (.methodLink (bi_own m) (bi_jn (h.getD 0 0)) Lib.objectInit) && bi_w (h.getD 1 0) (.instanceMethod Lib.objectInit) && bi_w (h.getD 2 0) (.code Lib.objectInit ⟨#[0xb1]⟩ 1 none) && bi_mis (bi_fr m) (bi_lo m + 6) && bi_dn m i (.invokespecial (bi_jn (h.getD 0 0))) 3
  | (38, a, _, _, _) => (match a with
    | 0 => bi_w (h.getD 0 0) (.methodLink (bi_own m) (bi_jn (h.getD 0 0)) Lib.Math.max.name) && bi_w (h.getD 1 0) (.static Lib.Math.max.name) && bi_w (h.getD 3 0) (.code Lib.Math.max.name Lib.Math.max.code 2 (some .int))
    | 1 => bi_w (h.getD 0 0) (.methodLink (bi_own m) (bi_jn (h.getD 0 0)) Lib.Math.min.name) && bi_w (h.getD 1 0) (.static Lib.Math.min.name) && bi_w (h.getD 3 0) (.code Lib.Math.min.name Lib.Math.min.code 2 (some .int))
    | _ => bi_w (h.getD 0 0) (.methodLink (bi_own m) (bi_jn (h.getD 0 0)) Lib.Math.abs.name) && bi_w (h.getD 1 0) (.static Lib.Math.abs.name) && bi_w (h.getD 3 0) (.code Lib.Math.abs.name Lib.Math.abs.code 1 (some .int))) && bi_w (h.getD 2 0) (.initialized "java/lang/Math") && bi_mis (bi_fr m) (bi_lo m + 5) && bi_dn m i (.invokestatic (bi_jn (h.getD 0 0))) 3
  | (39, _, _, _, _) => bi_w (h.getD 0 0) (.methodLink (bi_own m) (bi_jn (h.getD 0 0)) arraycopyName) && bi_w (h.getD 1 0) (.native arraycopyName) && bi_w (h.getD 2 0) (.static arraycopyName) && bi_w (h.getD 3 0) (.initialized "java/lang/System") && bi_mis (bi_fr m) (bi_lo m) && bi_dn m i (.invokestatic (bi_jn (h.getD 0 0))) 3
  | (40, _, _, _, _) => decide (bi_own m = "ByInitials") && bi_dn m i (.ldc 77) 2
  | (41, 0, _, _, _) => bi_w (h.headD 0) (.fieldLink (bi_own m) (bi_jn (h.headD 0)) "java/lang/String" "COMPACT_STRINGS" "Z") && bi_dn m i (.getstatic (bi_jn (h.headD 0))) 3
  | (41, _, _, _, _) => bi_w (h.headD 0) (.fieldLink (bi_own m) (bi_jn (h.headD 0)) "jdk/internal/util/Preconditions" "SIOOBE_FORMATTER" "Ljava/util/function/BiFunction;") && bi_dn m i (.getstatic (bi_jn (h.headD 0))) 3
  | _ => true
/-- a whole method: its hints, one a place -/
def bi_okM (m : Nat) (hs : List (List Nat)) : Nat → List Ins → Bool
  | _, [] => true
  | i, x :: l => bi_ok m i (hs.getD i []) x && bi_okM m hs (i + 1) l
theorem bi_okM_get {m : Nat} {hs : List (List Nat)} : ∀ (l : List Ins) (i j : Nat) (x : Ins), bi_okM m hs i l = true → l[j]? = some x → bi_ok m (i + j) (hs.getD (i + j) []) x = true := by
  intro l
  induction l with
  | nil => intro i j x h hj; simp at hj
  | cons y l ih =>
    intro i j x h hj
    simp only [bi_okM, Bool.and_eq_true] at h
    cases j with
    | zero => simp at hj; subst hj; exact h.1
    | succ j =>
      have := ih (i + 1) j x h.2 (by simpa using hj)
      rw [show i + (j + 1) = i + 1 + j by omega]
      exact this
