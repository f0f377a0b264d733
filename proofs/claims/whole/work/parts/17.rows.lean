/-! ROWS: an instruction a row, for En -/
section Rows
variable {m i : Nat} {L : Lcl} {st : List AV} {S : Shp} {M : Mem} {Q : Res → Prop} {code : List Ins} {nL : Nat} {a b : Nat} {c : Int} {l : List Nat}
theorem en1 {j : Nat} {L' : Lcl} {st' : List AV} {S' : Shp} {M' : Mem} {ins : Ins} (hP : PR m = (code, nL)) (hi : code[i]? = some ins) (hs : ∀ k cl, bi_step k cl ins i L st S M = k j L' st' S' M') (h : En m j L' st' S' M' Q) : En m i L st S M Q := by
  obtain ⟨n, r, h1, h2⟩ := h
  refine ⟨n + 1, r, ?_, h2⟩
  rw [bi_exec, hP]
  dsimp only
  rw [hi]
  dsimp only
  rw [hs]
  exact h1
theorem e_c (hP : PR m = (code, nL)) (hi : code[i]? = some (0, a, b, c, l)) (h : En m (i + 1) L (.inl c :: st) S M Q) : En m i L st S M Q := en1 hP hi (fun _ _ => rfl) h
theorem e_ld {v : AV} (hP : PR m = (code, nL)) (hi : code[i]? = some (1, a, b, c, l)) (hv : bi_load b L[a]? = some v) (h : En m (i + 1) L (v :: st) S M Q) : En m i L st S M Q := en1 hP hi (fun _ _ => by simp only [bi_step, hv]) h
theorem e_st {v : AV} {L' : Lcl} (hP : PR m = (code, nL)) (hi : code[i]? = some (2, a, b, c, l)) (hv : bi_store L b a v = some L') (h : En m (i + 1) L' st S M Q) : En m i L (v :: st) S M Q := en1 hP hi (fun _ _ => by simp only [bi_step, hv]) h
theorem e_bin {x y z : Int} (hP : PR m = (code, nL)) (hi : code[i]? = some (3, a, b, c, l)) (hv : bi_bin a x y = some z) (h : En m (i + 1) L (.inl z :: st) S M Q) : En m i L (.inl y :: .inl x :: st) S M Q := en1 hP hi (fun _ _ => by simp only [bi_step, hv]) h
theorem e_add {x y : Int} (hP : PR m = (code, nL)) (hi : code[i]? = some (3, 0, b, c, l)) (hv : inR (x + y)) (h : En m (i + 1) L (.inl (x + y) :: st) S M Q) : En m i L (.inl y :: .inl x :: st) S M Q := e_bin hP hi (if_pos hv) h
theorem e_sub {x y : Int} (hP : PR m = (code, nL)) (hi : code[i]? = some (3, 1, b, c, l)) (hv : inR (x - y)) (h : En m (i + 1) L (.inl (x - y) :: st) S M Q) : En m i L (.inl y :: .inl x :: st) S M Q := e_bin hP hi (if_pos hv) h
theorem e_mul {x y : Int} (hP : PR m = (code, nL)) (hi : code[i]? = some (3, 2, b, c, l)) (hv : inR (x * y)) (h : En m (i + 1) L (.inl (x * y) :: st) S M Q) : En m i L (.inl y :: .inl x :: st) S M Q := e_bin hP hi (if_pos hv) h
theorem e_div {x y : Int} (hP : PR m = (code, nL)) (hi : code[i]? = some (3, 3, b, c, l)) (hv : 0 ≤ x ∧ 0 < y) (h : En m (i + 1) L (.inl (x / y) :: st) S M Q) : En m i L (.inl y :: .inl x :: st) S M Q := e_bin hP hi (if_pos hv) h
theorem e_rem {x y : Int} (hP : PR m = (code, nL)) (hi : code[i]? = some (3, 4, b, c, l)) (hv : 0 ≤ x ∧ 0 < y) (h : En m (i + 1) L (.inl (x % y) :: st) S M Q) : En m i L (.inl y :: .inl x :: st) S M Q := e_bin hP hi (if_pos hv) h
theorem e_shl {x y : Int} (hP : PR m = (code, nL)) (hi : code[i]? = some (3, 5, b, c, l)) (hv : 0 ≤ x ∧ 0 ≤ y ∧ y < 32 ∧ inR (x * 2 ^ y.toNat)) (h : En m (i + 1) L (.inl (x * 2 ^ y.toNat) :: st) S M Q) : En m i L (.inl y :: .inl x :: st) S M Q := e_bin hP hi (if_pos hv) h
theorem e_shr {x y : Int} (hP : PR m = (code, nL)) (hi : code[i]? = some (3, 6, b, c, l)) (hv : 0 ≤ x ∧ 0 ≤ y ∧ y < 32) (h : En m (i + 1) L (.inl (x / 2 ^ y.toNat) :: st) S M Q) : En m i L (.inl y :: .inl x :: st) S M Q := e_bin hP hi (if_pos hv) h
theorem e_ush {x y : Int} (hP : PR m = (code, nL)) (hi : code[i]? = some (3, 7, b, c, l)) (hv : 0 ≤ x ∧ 0 ≤ y ∧ y < 32) (h : En m (i + 1) L (.inl (x / 2 ^ y.toNat) :: st) S M Q) : En m i L (.inl y :: .inl x :: st) S M Q := e_bin hP hi (if_pos hv) h
theorem e_and {x y z : Int} (hP : PR m = (code, nL)) (hi : code[i]? = some (3, 8, b, c, l)) (hv : bi_and x y = some z) (h : En m (i + 1) L (.inl z :: st) S M Q) : En m i L (.inl y :: .inl x :: st) S M Q := e_bin hP hi hv h
theorem e_or {x y : Int} (hP : PR m = (code, nL)) (hi : code[i]? = some (3, 9, b, c, l)) (hv : 0 ≤ x ∧ 0 ≤ y) (h : En m (i + 1) L (.inl ((x.toNat ||| y.toNat : Nat) : Int) :: st) S M Q) : En m i L (.inl y :: .inl x :: st) S M Q := e_bin hP hi (if_pos hv) h
theorem e_xor {x y z : Int} (hP : PR m = (code, nL)) (hi : code[i]? = some (3, 10, b, c, l)) (hv : bi_bin 10 x y = some z) (h : En m (i + 1) L (.inl z :: st) S M Q) : En m i L (.inl y :: .inl x :: st) S M Q := e_bin hP hi hv h
theorem e_un {x z : Int} (hP : PR m = (code, nL)) (hi : code[i]? = some (4, a, b, c, l)) (hv : bi_un a x = some z) (h : En m (i + 1) L (.inl z :: st) S M Q) : En m i L (.inl x :: st) S M Q := en1 hP hi (fun _ _ => by simp only [bi_step, hv]) h
theorem e_i2l {x : Int} (hP : PR m = (code, nL)) (hi : code[i]? = some (5, a, b, c, l)) (h : En m (i + 1) L (.inr (.inl x) :: st) S M Q) : En m i L (.inl x :: st) S M Q := en1 hP hi (fun _ _ => rfl) h
theorem e_l2i {x : Int} (hP : PR m = (code, nL)) (hi : code[i]? = some (6, a, b, c, l)) (hv : inR x) (h : En m (i + 1) L (.inl x :: st) S M Q) : En m i L (.inr (.inl x) :: st) S M Q := en1 hP hi (fun _ _ => by simp only [bi_step]; rw [if_pos hv]) h
theorem e_lb {x y z : Int} (hP : PR m = (code, nL)) (hi : code[i]? = some (7, a, b, c, l)) (hv : bi_lbin a x y = some z) (h : En m (i + 1) L (.inr (.inl z) :: st) S M Q) : En m i L (.inr (.inl y) :: .inr (.inl x) :: st) S M Q := en1 hP hi (fun _ _ => by simp only [bi_step, hv]) h
theorem e_lcmp {x y : Int} (hP : PR m = (code, nL)) (hi : code[i]? = some (8, a, b, c, l)) (h : En m (i + 1) L (.inl (if x < y then -1 else if x = y then 0 else 1) :: st) S M Q) : En m i L (.inr (.inl y) :: .inr (.inl x) :: st) S M Q := en1 hP hi (fun _ _ => rfl) h
theorem e_lc (hP : PR m = (code, nL)) (hi : code[i]? = some (9, a, b, c, l)) (h : En m (i + 1) L (.inr (.inl c) :: st) S M Q) : En m i L st S M Q := en1 hP hi (fun _ _ => rfl) h
theorem e_inc {x : Int} {L' : Lcl} (hP : PR m = (code, nL)) (hi : code[i]? = some (10, a, b, c, l)) (hx : L[a]? = some (some (.inl x))) (hv : inR (x + c)) (hL : bi_st1 L a (.inl (x + c)) = L') (h : En m (i + 1) L' st S M Q) : En m i L st S M Q := en1 hP hi (fun _ _ => by simp only [bi_step, hx]; rw [if_pos hv, hL]) h
theorem e_go (hP : PR m = (code, nL)) (hi : code[i]? = some (11, a, b, c, l)) (h : En m a L st S M Q) : En m i L st S M Q := en1 hP hi (fun _ _ => rfl) h
theorem e_cmp {x y : Int} (hP : PR m = (code, nL)) (hi : code[i]? = some (12, a, b, c, l)) (ht : bi_cond b x y = true → En m a L st S M Q) (hf : ¬ bi_cond b x y = true → En m (i + 1) L st S M Q) : En m i L (.inl y :: .inl x :: st) S M Q := by
  by_cases h : bi_cond b x y = true
  · exact en1 hP hi (fun _ _ => by simp only [bi_step]; rw [if_pos h]) (ht h)
  · exact en1 hP hi (fun _ _ => by simp only [bi_step]; rw [if_neg h]) (hf h)
theorem e_ifz {x : Int} (hP : PR m = (code, nL)) (hi : code[i]? = some (13, a, b, c, l)) (ht : bi_cond b x 0 = true → En m a L st S M Q) (hf : ¬ bi_cond b x 0 = true → En m (i + 1) L st S M Q) : En m i L (.inl x :: st) S M Q := by
  by_cases h : bi_cond b x 0 = true
  · exact en1 hP hi (fun _ _ => by simp only [bi_step]; rw [if_pos h]) (ht h)
  · exact en1 hP hi (fun _ _ => by simp only [bi_step]; rw [if_neg h]) (hf h)
theorem e_ceq {x y : Int} (hP : PR m = (code, nL)) (hi : code[i]? = some (12, a, 0, c, l)) (ht : x = y → En m a L st S M Q) (hf : x ≠ y → En m (i + 1) L st S M Q) : En m i L (.inl y :: .inl x :: st) S M Q := e_cmp hP hi (fun h => ht (of_decide_eq_true h)) (fun h => hf (fun z => h (decide_eq_true z)))
theorem e_cne {x y : Int} (hP : PR m = (code, nL)) (hi : code[i]? = some (12, a, 1, c, l)) (ht : x ≠ y → En m a L st S M Q) (hf : x = y → En m (i + 1) L st S M Q) : En m i L (.inl y :: .inl x :: st) S M Q := e_cmp hP hi (fun h => ht (of_decide_eq_true h)) (fun h => hf (Decidable.byContradiction fun z => h (decide_eq_true z)))
theorem e_clt {x y : Int} (hP : PR m = (code, nL)) (hi : code[i]? = some (12, a, 2, c, l)) (ht : x < y → En m a L st S M Q) (hf : y ≤ x → En m (i + 1) L st S M Q) : En m i L (.inl y :: .inl x :: st) S M Q := e_cmp hP hi (fun h => ht (of_decide_eq_true h)) (fun h => hf (Int.not_lt.mp (fun z => h (decide_eq_true z))))
theorem e_cge {x y : Int} (hP : PR m = (code, nL)) (hi : code[i]? = some (12, a, 3, c, l)) (ht : y ≤ x → En m a L st S M Q) (hf : x < y → En m (i + 1) L st S M Q) : En m i L (.inl y :: .inl x :: st) S M Q := e_cmp hP hi (fun h => ht (of_decide_eq_true h)) (fun h => hf (Int.not_le.mp (fun z => h (decide_eq_true z))))
theorem e_cgt {x y : Int} (hP : PR m = (code, nL)) (hi : code[i]? = some (12, a, 4, c, l)) (ht : y < x → En m a L st S M Q) (hf : x ≤ y → En m (i + 1) L st S M Q) : En m i L (.inl y :: .inl x :: st) S M Q := e_cmp hP hi (fun h => ht (of_decide_eq_true h)) (fun h => hf (Int.not_lt.mp (fun z => h (decide_eq_true z))))
theorem e_cle {x y : Int} (hP : PR m = (code, nL)) (hi : code[i]? = some (12, a, 5, c, l)) (ht : x ≤ y → En m a L st S M Q) (hf : y < x → En m (i + 1) L st S M Q) : En m i L (.inl y :: .inl x :: st) S M Q := e_cmp hP hi (fun h => ht (of_decide_eq_true h)) (fun h => hf (Int.not_le.mp (fun z => h (decide_eq_true z))))
theorem e_zeq {x : Int} (hP : PR m = (code, nL)) (hi : code[i]? = some (13, a, 0, c, l)) (ht : x = 0 → En m a L st S M Q) (hf : x ≠ 0 → En m (i + 1) L st S M Q) : En m i L (.inl x :: st) S M Q := e_ifz hP hi (fun h => ht (of_decide_eq_true h)) (fun h => hf (fun z => h (decide_eq_true z)))
theorem e_zne {x : Int} (hP : PR m = (code, nL)) (hi : code[i]? = some (13, a, 1, c, l)) (ht : x ≠ 0 → En m a L st S M Q) (hf : x = 0 → En m (i + 1) L st S M Q) : En m i L (.inl x :: st) S M Q := e_ifz hP hi (fun h => ht (of_decide_eq_true h)) (fun h => hf (Decidable.byContradiction fun z => h (decide_eq_true z)))
theorem e_zlt {x : Int} (hP : PR m = (code, nL)) (hi : code[i]? = some (13, a, 2, c, l)) (ht : x < 0 → En m a L st S M Q) (hf : 0 ≤ x → En m (i + 1) L st S M Q) : En m i L (.inl x :: st) S M Q := e_ifz hP hi (fun h => ht (of_decide_eq_true h)) (fun h => hf (Int.not_lt.mp (fun z => h (decide_eq_true z))))
theorem e_zge {x : Int} (hP : PR m = (code, nL)) (hi : code[i]? = some (13, a, 3, c, l)) (ht : 0 ≤ x → En m a L st S M Q) (hf : x < 0 → En m (i + 1) L st S M Q) : En m i L (.inl x :: st) S M Q := e_ifz hP hi (fun h => ht (of_decide_eq_true h)) (fun h => hf (Int.not_le.mp (fun z => h (decide_eq_true z))))
theorem e_zgt {x : Int} (hP : PR m = (code, nL)) (hi : code[i]? = some (13, a, 4, c, l)) (ht : 0 < x → En m a L st S M Q) (hf : x ≤ 0 → En m (i + 1) L st S M Q) : En m i L (.inl x :: st) S M Q := e_ifz hP hi (fun h => ht (of_decide_eq_true h)) (fun h => hf (Int.not_lt.mp (fun z => h (decide_eq_true z))))
theorem e_zle {x : Int} (hP : PR m = (code, nL)) (hi : code[i]? = some (13, a, 5, c, l)) (ht : x ≤ 0 → En m a L st S M Q) (hf : 0 < x → En m (i + 1) L st S M Q) : En m i L (.inl x :: st) S M Q := e_ifz hP hi (fun h => ht (of_decide_eq_true h)) (fun h => hf (Int.not_le.mp (fun z => h (decide_eq_true z))))
theorem e_gI (q : Nat) {n : Nat} {rs : List Nat} (hS : S[q]? = some (a + 3, n, rs)) (hP : PR m = (code, nL)) (hi : code[i]? = some (14, a, b, c, l)) (hb : b < n) (h : En m (i + 1) L (.inl (M q b) :: st) S M Q) : En m i L (.inr (.inr (q + 1)) :: st) S M Q := en1 hP hi (fun _ _ => by simp only [bi_step, bi_heap, hS]; rw [if_pos ⟨trivial, hb⟩]) h
theorem e_gR (q : Nat) {n : Nat} {rs : List Nat} {w : Nat} (hS : S[q]? = some (a + 3, n, rs)) (hP : PR m = (code, nL)) (hi : code[i]? = some (15, a, b, c, l)) (hb : b < n) (hw : rs.getD b 0 = w) (h : En m (i + 1) L (.inr (.inr w) :: st) S M Q) : En m i L (.inr (.inr (q + 1)) :: st) S M Q := en1 hP hi (fun _ _ => by simp only [bi_step, bi_heap, hS]; rw [if_pos ⟨trivial, hb⟩, hw]) h
theorem e_pI (q : Nat) {n : Nat} {rs : List Nat} {v : Int} (hS : S[q]? = some (a + 3, n, rs)) (h4 : 4 ≤ q) (hP : PR m = (code, nL)) (hi : code[i]? = some (16, a, b, c, l)) (hb : b < n) (h : En m (i + 1) L st S (up2 M q b v) Q) : En m i L (.inl v :: .inr (.inr (q + 1)) :: st) S M Q := en1 hP hi (fun _ _ => by simp only [bi_step, bi_heap, hS]; rw [if_pos ⟨trivial, hb, h4⟩]) h
theorem e_pR (q : Nat) {n w : Nat} {rs : List Nat} {S' : Shp} (hS : S[q]? = some (a + 3, n, rs)) (h4 : 4 ≤ q) (hP : PR m = (code, nL)) (hi : code[i]? = some (17, a, b, c, l)) (hb : b < n) (hn : n = rs.length) (hS' : S.set q (a + 3, n, rs.set b w) = S') (h : En m (i + 1) L st S' M Q) : En m i L (.inr (.inr w) :: .inr (.inr (q + 1)) :: st) S M Q := en1 hP hi (fun _ _ => by simp only [bi_step, bi_heap, hS]; rw [if_pos ⟨trivial, hb, h4, hn⟩, hS']) h
theorem e_al (q : Nat) {n : Nat} {rs : List Nat} {j : Int} (hS : S[q]? = some (0, n, rs)) (hP : PR m = (code, nL)) (hi : code[i]? = some (18, a, b, c, l)) (hj : 0 ≤ j ∧ j < n) (h : En m (i + 1) L (.inl (M q j.toNat) :: st) S M Q) : En m i L (.inl j :: .inr (.inr (q + 1)) :: st) S M Q := en1 hP hi (fun _ _ => by simp only [bi_step, bi_heap, hS]; rw [if_pos hj]) h
theorem e_as (q : Nat) {n : Nat} {rs : List Nat} {j v : Int} (hS : S[q]? = some (0, n, rs)) (h4 : 4 ≤ q) (hP : PR m = (code, nL)) (hi : code[i]? = some (19, a, b, c, l)) (hj : 0 ≤ j ∧ j < n) (h : En m (i + 1) L st S (up2 M q j.toNat v) Q) : En m i L (.inl v :: .inl j :: .inr (.inr (q + 1)) :: st) S M Q := en1 hP hi (fun _ _ => by simp only [bi_step, bi_heap, hS]; rw [if_pos ⟨hj.1, hj.2, h4⟩]) h
theorem e_bl (q : Nat) {n : Nat} {rs : List Nat} {j : Int} (hS : S[q]? = some (1, n, rs)) (hP : PR m = (code, nL)) (hi : code[i]? = some (20, a, b, c, l)) (hj : 0 ≤ j ∧ j < n) (h : En m (i + 1) L (.inl (M q j.toNat) :: st) S M Q) : En m i L (.inl j :: .inr (.inr (q + 1)) :: st) S M Q := en1 hP hi (fun _ _ => by simp only [bi_step, bi_heap, hS]; rw [if_pos hj]) h
theorem e_bs (q : Nat) {n : Nat} {rs : List Nat} {j v : Int} (hS : S[q]? = some (1, n, rs)) (h4 : 4 ≤ q) (hP : PR m = (code, nL)) (hi : code[i]? = some (21, a, b, c, l)) (hj : 0 ≤ j ∧ j < n) (hv : -128 ≤ v ∧ v ≤ 127) (h : En m (i + 1) L st S (up2 M q j.toNat v) Q) : En m i L (.inl v :: .inl j :: .inr (.inr (q + 1)) :: st) S M Q := en1 hP hi (fun _ _ => by simp only [bi_step, bi_heap, hS]; rw [if_pos ⟨hj.1, hj.2, h4, hv.1, hv.2⟩]) h
theorem e_aal (q : Nat) {n w : Nat} {rs : List Nat} {j : Int} (hS : S[q]? = some (2, n, rs)) (h4 : 4 ≤ q) (hP : PR m = (code, nL)) (hi : code[i]? = some (22, a, b, c, l)) (hj : 0 ≤ j ∧ j < n) (hw : (M q j.toNat).toNat = w) (h : En m (i + 1) L (.inr (.inr w) :: st) S M Q) : En m i L (.inl j :: .inr (.inr (q + 1)) :: st) S M Q := en1 hP hi (fun _ _ => by simp only [bi_step, bi_heap, hS]; rw [if_pos ⟨hj.1, hj.2, h4⟩, hw]) h
theorem e_aas (q v : Nat) {n n2 : Nat} {rs rs2 : List Nat} {j : Int} (hS : S[q]? = some (2, n, rs)) (hS2 : S[v]? = some (10, n2, rs2)) (h4 : 4 ≤ q) (hv4 : 4 ≤ v) (hP : PR m = (code, nL)) (hi : code[i]? = some (23, a, b, c, l)) (hj : 0 ≤ j ∧ j < n) (h : En m (i + 1) L st S (up2 M q j.toNat ((v + 1 : Nat) : Int)) Q) : En m i L (.inr (.inr (v + 1)) :: .inl j :: .inr (.inr (q + 1)) :: st) S M Q := en1 hP hi (fun _ _ => by simp only [bi_step, bi_heap, hS, hS2]; rw [if_pos ⟨hj.1, hj.2, h4, hv4⟩]) h
theorem e_len (q : Nat) {kd n : Nat} {rs : List Nat} (hS : S[q]? = some (kd, n, rs)) (hk : kd < 3 ∧ q ≠ 3) (hP : PR m = (code, nL)) (hi : code[i]? = some (24, a, b, c, l)) (h : En m (i + 1) L (.inl (n : Int) :: st) S M Q) : En m i L (.inr (.inr (q + 1)) :: st) S M Q := en1 hP hi (fun _ _ => by simp only [bi_step, bi_heap, hS]; rw [if_pos hk]) h
theorem e_new (hP : PR m = (code, nL)) (hi : code[i]? = some (25, a, b, c, l)) (h : En m (i + 1) L (.inr (.inr (S.length + 1)) :: st) (S ++ [(a + 3, b, List.replicate b 0)]) (fun q j => if q = S.length then 0 else M q j) Q) : En m i L st S M Q := en1 hP hi (fun _ _ => rfl) h
theorem e_na {n : Int} (hP : PR m = (code, nL)) (hi : code[i]? = some (26, a, b, c, l)) (hn : 0 ≤ n ∧ n ≤ 65536 ∧ a < 3) (h : En m (i + 1) L (.inr (.inr (S.length + 1)) :: st) (S ++ [(a, n.toNat, [])]) (fun q j => if q = S.length then 0 else M q j) Q) : En m i L (.inl n :: st) S M Q := en1 hP hi (fun _ _ => by simp only [bi_step]; rw [if_pos hn]) h
theorem e_dupI {x : Int} (hP : PR m = (code, nL)) (hi : code[i]? = some (28, a, b, c, l)) (h : En m (i + 1) L (.inl x :: .inl x :: st) S M Q) : En m i L (.inl x :: st) S M Q := en1 hP hi (fun _ _ => rfl) h
theorem e_dupR {q : Nat} (hP : PR m = (code, nL)) (hi : code[i]? = some (28, a, b, c, l)) (h : En m (i + 1) L (.inr (.inr q) :: .inr (.inr q) :: st) S M Q) : En m i L (.inr (.inr q) :: st) S M Q := en1 hP hi (fun _ _ => rfl) h
theorem e_dup2 {x : Int} {q : Nat} (hP : PR m = (code, nL)) (hi : code[i]? = some (29, a, b, c, l)) (h : En m (i + 1) L (.inl x :: .inr (.inr q) :: .inl x :: .inr (.inr q) :: st) S M Q) : En m i L (.inl x :: .inr (.inr q) :: st) S M Q := en1 hP hi (fun _ _ => rfl) h
theorem e_pop {x : Int} (hP : PR m = (code, nL)) (hi : code[i]? = some (30, a, b, c, l)) (h : En m (i + 1) L st S M Q) : En m i L (.inl x :: st) S M Q := en1 hP hi (fun _ _ => rfl) h
theorem e_popR {q : Nat} (hP : PR m = (code, nL)) (hi : code[i]? = some (30, a, b, c, l)) (h : En m (i + 1) L st S M Q) : En m i L (.inr (.inr q) :: st) S M Q := en1 hP hi (fun _ _ => rfl) h
theorem e_tab {x : Int} (hP : PR m = (code, nL)) (hi : code[i]? = some (31, a, b, c, l)) (hd : (x < c ∨ c + l.length ≤ x) → En m a L st S M Q) (ht : ∀ k t, l[k]? = some t → x = c + (k : Nat) → En m t L st S M Q) : En m i L (.inl x :: st) S M Q := by
  by_cases h : x < c ∨ c + l.length ≤ x
  · exact en1 hP hi (fun _ _ => by simp only [bi_step]; rw [if_pos h]) (hd h)
  · have hk : (x - c).toNat < l.length := by omega
    refine en1 (j := l.getD (x - c).toNat 0) hP hi (fun _ _ => by simp only [bi_step]; rw [if_neg h]) (ht (x - c).toNat _ ?_ (by omega))
    rw [List.getD_eq_getElem?_getD, List.getElem?_eq_getElem hk]
    rfl
theorem e_look {x : Int} {t : Nat} (hP : PR m = (code, nL)) (hi : code[i]? = some (32, a, b, c, l)) (ht : bi_look x l a = t) (h : En m t L st S M Q) : En m i L (.inl x :: st) S M Q := en1 hP hi (fun _ _ => by simp only [bi_step, ht]) h
theorem e_ret {x : Int} (hP : PR m = (code, nL)) (hi : code[i]? = some (33, a, b, c, l)) (hr : bi_retok a x = true) (h : Q (S, M, some (.inl x))) : En m i L [.inl x] S M Q := by
  refine ⟨1, _, ?_, h⟩
  rw [bi_exec, hP]
  dsimp only
  rw [hi]
  simp only [bi_step]
  rw [if_pos hr]
theorem e_retv (hP : PR m = (code, nL)) (hi : code[i]? = some (34, a, b, c, l)) (h : Q (S, M, none)) : En m i L [] S M Q := by
  refine ⟨1, _, ?_, h⟩
  rw [bi_exec, hP]
  dsimp only
  rw [hi]
  rfl
theorem e_reta {q : Nat} (hP : PR m = (code, nL)) (hi : code[i]? = some (35, a, b, c, l)) (h : Q (S, M, some (.inr (.inr q)))) : En m i L [.inr (.inr q)] S M Q := by
  refine ⟨1, _, ?_, h⟩
  rw [bi_exec, hP]
  dsimp only
  rw [hi]
  rfl
theorem e_call {as rest : List AV} (hP : PR m = (code, nL)) (hi : code[i]? = some (36, a, b, c, l)) (h1 : (st.take b).reverse = as) (h2 : st.drop b = rest) (h3 : b ≤ st.length) (h4 : bi_cats rest ≤ 8) (h5 : bi_recv c (l.headD 0) S st[b - 1]? = true) (h : Ca a as S M (fun r => En m (i + 1) L (r.2.2.toList ++ rest) r.1 r.2.1 Q)) : En m i L st S M Q := by
  obtain ⟨hc, n1, r1, g1, n2, r2, g2, g3⟩ := h
  refine ⟨n1 + n2 + 1, r2, ?_, g3⟩
  subst h1; subst h2
  have e1 := be_mono n2 g1
  have e2 := be_mono n1 g2
  rw [show n2 + n1 = n1 + n2 by omega] at e2
  rw [bi_exec, hP]
  dsimp only
  rw [hi]
  simp only [bi_step]
  rw [if_pos ⟨h3, h4, h5⟩, if_pos hc, e1]
  exact e2
theorem e_obj (q : Nat) (hP : PR m = (code, nL)) (hi : code[i]? = some (37, a, b, c, l)) (hq : q ≠ 3) (h4 : bi_cats st ≤ 8) (h : En m (i + 1) L st S M Q) : En m i L (.inr (.inr (q + 1)) :: st) S M Q := en1 hP hi (fun _ _ => by simp only [bi_step]; rw [if_pos ⟨hq, h4⟩]) h
theorem e_max {x y : Int} (hP : PR m = (code, nL)) (hi : code[i]? = some (38, 0, b, c, l)) (h4 : bi_cats st + 1 ≤ 8) (h : En m (i + 1) L (.inl (if x < y then y else x) :: st) S M Q) : En m i L (.inl y :: .inl x :: st) S M Q := en1 hP hi (fun _ _ => by simp only [bi_step, bi_math]; rw [if_pos]; rw [bw_cats_cons]; show 1 + _ ≤ 8; omega) h
theorem e_min {x y : Int} (hP : PR m = (code, nL)) (hi : code[i]? = some (38, 1, b, c, l)) (h4 : bi_cats st + 1 ≤ 8) (h : En m (i + 1) L (.inl (if y < x then y else x) :: st) S M Q) : En m i L (.inl y :: .inl x :: st) S M Q := en1 hP hi (fun _ _ => by simp only [bi_step, bi_math]; rw [if_pos]; rw [bw_cats_cons]; show 1 + _ ≤ 8; omega) h
theorem e_abs {x : Int} (hP : PR m = (code, nL)) (hi : code[i]? = some (38, 2, b, c, l)) (h4 : bi_cats st + 1 ≤ 8) (hx : inR (-x)) (h : En m (i + 1) L (.inl (if 0 ≤ x then x else -x) :: st) S M Q) : En m i L (.inl x :: st) S M Q := by
  refine en1 hP hi (fun _ _ => ?_) h
  by_cases h0 : 0 ≤ x
  · simp only [bi_step, bi_math]; rw [if_pos h0, if_pos h0]; dsimp only; rw [if_pos]; rw [bw_cats_cons]; show 1 + _ ≤ 8; omega
  · simp only [bi_step, bi_math]; rw [if_neg h0, if_neg h0, if_pos hx]; dsimp only; rw [if_pos]; rw [bw_cats_cons]; show 1 + _ ≤ 8; omega
theorem e_copy (qa qb : Nat) {na nb : Nat} {ra rb : List Nat} {k dp sp : Int} (hSa : S[qa]? = some (0, na, ra)) (hSb : S[qb]? = some (0, nb, rb)) (hP : PR m = (code, nL)) (hi : code[i]? = some (39, a, b, c, l)) (hv : 0 ≤ k ∧ 0 ≤ dp ∧ 0 ≤ sp ∧ sp + k ≤ na ∧ dp + k ≤ nb ∧ 4 ≤ qa ∧ 4 ≤ qb ∧ bi_cats st ≤ 8) (h : En m (i + 1) L st S (bi_cpy M qa sp.toNat qb dp.toNat k.toNat) Q) : En m i L (.inl k :: .inl dp :: .inr (.inr (qb + 1)) :: .inl sp :: .inr (.inr (qa + 1)) :: st) S M Q := en1 hP hi (fun _ _ => by simp only [bi_step, hSa, hSb]; rw [if_pos hv]) h
theorem e_str (hP : PR m = (code, nL)) (hi : code[i]? = some (40, a, b, c, l)) (h : En m (i + 1) L (.inr (.inr 2) :: st) S M Q) : En m i L st S M Q := en1 hP hi (fun _ _ => rfl) h
theorem e_gs0 (hP : PR m = (code, nL)) (hi : code[i]? = some (41, 0, b, c, l)) (h : En m (i + 1) L (.inl 1 :: st) S M Q) : En m i L st S M Q := en1 hP hi (fun _ _ => rfl) h
theorem e_gs1 (hP : PR m = (code, nL)) (hi : code[i]? = some (41, 1, b, c, l)) (h : En m (i + 1) L (.inr (.inr 4) :: st) S M Q) : En m i L st S M Q := en1 hP hi (fun _ _ => rfl) h
end Rows
