/-! THE CONSTRUCTORS: cells -/
def Zer (S : Shp) (M : Mem) : Prop := ∀ q j, S.length ≤ q → M q j = 0
theorem Zer.app {S X : Shp} {M : Mem} (h : Zer S M) : Zer (S ++ X) M := fun q j hq => h q j (by rw [List.length_append] at hq; omega)
section Make
variable {m i : Nat} {L : Lcl} {st : List AV} {S S0 X : Shp} {M : Mem} {Q : Res → Prop} {code : List Ins} {nL : Nat} {a b : Nat} {c : Int} {l : List Nat}
theorem Zer_M (hz : Zer S M) : (fun q j => if q = S.length then 0 else M q j) = M := by
  funext q j
  by_cases hq : q = S.length
  · rw [if_pos hq, hz q j (by omega)]
  · rw [if_neg hq]
theorem e_naZ {n : Int} (hz : Zer S M) (hP : PR m = (code, nL)) (hi : code[i]? = some (26, a, b, c, l)) (hn : 0 ≤ n ∧ n ≤ 65536 ∧ a < 3) (h : En m (i + 1) L (.inr (.inr (S.length + 1)) :: st) (S ++ [(a, n.toNat, [])]) M Q) : En m i L (.inl n :: st) S M Q := e_na hP hi hn (by rw [Zer_M hz]; exact h)
theorem e_newZ (hz : Zer S M) (hP : PR m = (code, nL)) (hi : code[i]? = some (25, a, b, c, l)) (h : En m (i + 1) L (.inr (.inr (S.length + 1)) :: st) (S ++ [(a + 3, b, List.replicate b 0)]) M Q) : En m i L st S M Q := e_new hP hi (by rw [Zer_M hz]; exact h)
theorem g0 (S0 : Shp) (x : Nat × Nat × List Nat) (X : Shp) : (S0 ++ x :: X)[S0.length]? = some x := by simp
theorem g1 (S0 : Shp) (x y : Nat × Nat × List Nat) (X : Shp) : (S0 ++ x :: y :: X)[S0.length + 1]? = some y := by
  rw [show S0 ++ x :: y :: X = (S0 ++ [x]) ++ y :: X by simp, show S0.length + 1 = (S0 ++ [x]).length by simp]
  exact g0 _ _ _
theorem s0 (S0 : Shp) (x y : Nat × Nat × List Nat) (X : Shp) : (S0 ++ x :: X).set S0.length y = S0 ++ y :: X := by simp
/-- a field gets a new array -/
theorem c_arr {n cl : Nat} {sz : Int} {rs : List Nat} (k : Nat) (hP : PR m = (code, nL)) (hk : k = S0.length + 1 + X.length) (h0 : code[i]? = some (1, 0, 1, 0, [])) (h1 : code[i + 1]? = some (0, 0, 0, sz, [])) (h2 : code[i + 2]? = some (26, a, 0, 0, [])) (h3 : code[i + 3]? = some (17, cl, b, 0, [])) (hL : L[0]? = some (some (.inr (.inr (S0.length + 1))))) (h4 : 4 ≤ S0.length) (hn : 0 ≤ sz ∧ sz ≤ 65536 ∧ a < 3) (hb : b < n) (hr : n = rs.length) (hz : Zer (S0 ++ (cl + 3, n, rs) :: X) M) (h : En m (i + 4) L st (S0 ++ (cl + 3, n, rs.set b (k + 1)) :: (X ++ [(a, sz.toNat, [])])) M Q) : En m i L st (S0 ++ (cl + 3, n, rs) :: X) M Q := by
  refine e_ldR hP h0 hL (nz_q h4) ?_
  refine e_c hP h1 ?_
  refine e_naZ hz hP h2 hn ?_
  refine e_pR (S' := S0 ++ (cl + 3, n, rs.set b (k + 1)) :: (X ++ [(a, sz.toNat, [])])) S0.length ?_ h4 hP h3 hb hr ?_ h
  · rw [List.append_assoc]; exact g0 _ _ _
  · have e : (S0 ++ (cl + 3, n, rs) :: X).length + 1 = k + 1 := by rw [List.length_append, List.length_cons]; omega
    rw [e, List.append_assoc]; exact s0 _ _ _ _
def tw (l : Nat) : Shp := [(10, 15, [0, 0, 0, 0, 0, l + 2, l + 3, l + 4, l + 5, l + 6, l + 7, l + 8, l + 9, l + 10, l + 11]), (0, 8, []), (0, 48, []), (0, 8, []), (0, 8, []), (0, 8, []), (0, 8, []), (0, 64, []), (0, 26, []), (0, 26, []), (0, 26, [])]
def ob0 (l : Nat) : Shp := [(3, 3, [l + 2, l + 3, l + 4]), (0, 8, []), (0, 256, []), (0, 256, [])]
def ob1 (l : Nat) : Shp := [(4, 3, [l + 2, l + 3, 0]), (0, 8, []), (0, 8, [])]
def ob3 (l : Nat) : Shp := [(6, 2, [l + 2, l + 3]), (0, 8, []), (0, 256, [])]
def ob5 (l : Nat) : Shp := [(8, 5, [l + 2, l + 3, 0, 0, 0]), (0, 200, []), (0, 6, [])]
def ob6 (l : Nat) : Shp := [(9, 4, [l + 2, l + 3, l + 4, 0]), (0, 2048, []), (0, 2048, []), (0, 8, [])]
def ob2 (l : Nat) : Shp := (5, 2, [l + 2, l + 3]) :: (0, 8, []) :: tw (l + 2)
def tws (l : Nat) : Nat → Shp
  | 0 => []
  | k + 1 => tws l k ++ tw (l + 11 * k)
def ob4 (n l : Nat) : Shp := (7, 2, [l + 2, 0]) :: (2, n, []) :: tws (l + 2) n
theorem sk_town (h4 : 4 ≤ S0.length) (hz : Zer S0 M) (h : Q (S0 ++ tw S0.length, M, none)) : Ca 63 [.inr (.inr (S0.length + 1))] (S0 ++ [(10, 15, List.replicate 15 0)]) M Q := by
  have hP : PR 63 = (bc_63, 1) := rfl
  refine ⟨Nat.le_of_ble_eq_true rfl, ?_⟩
  show En 63 0 [some (.inr (.inr (S0.length + 1)))] [] (S0 ++ [(10, 15, List.replicate 15 0)]) M Q
  refine e_ldR hP rfl rfl (nz_q h4) ?_
  refine e_obj S0.length hP rfl (by omega) (by decide) ?_
  refine c_arr (S0.length + 1) hP rfl rfl rfl rfl rfl rfl h4 (by decide) (by decide) rfl hz.app ?_
  refine c_arr (S0.length + 2) hP rfl rfl rfl rfl rfl rfl h4 (by decide) (by decide) rfl hz.app ?_
  refine c_arr (S0.length + 3) hP rfl rfl rfl rfl rfl rfl h4 (by decide) (by decide) rfl hz.app ?_
  refine c_arr (S0.length + 4) hP rfl rfl rfl rfl rfl rfl h4 (by decide) (by decide) rfl hz.app ?_
  refine c_arr (S0.length + 5) hP rfl rfl rfl rfl rfl rfl h4 (by decide) (by decide) rfl hz.app ?_
  refine c_arr (S0.length + 6) hP rfl rfl rfl rfl rfl rfl h4 (by decide) (by decide) rfl hz.app ?_
  refine c_arr (S0.length + 7) hP rfl rfl rfl rfl rfl rfl h4 (by decide) (by decide) rfl hz.app ?_
  refine c_arr (S0.length + 8) hP rfl rfl rfl rfl rfl rfl h4 (by decide) (by decide) rfl hz.app ?_
  refine c_arr (S0.length + 9) hP rfl rfl rfl rfl rfl rfl h4 (by decide) (by decide) rfl hz.app ?_
  refine c_arr (S0.length + 10) hP rfl rfl rfl rfl rfl rfl h4 (by decide) (by decide) rfl hz.app ?_
  exact e_retv hP rfl h
theorem sk_0 (h4 : 4 ≤ S0.length) (hz : Zer S0 M) (h : Q (S0 ++ ob0 S0.length, M, none)) : Ca 0 [.inr (.inr (S0.length + 1))] (S0 ++ [(3, 3, List.replicate 3 0)]) M Q := by
  have hP : PR 0 = (bc_0, 1) := rfl
  refine ⟨Nat.le_of_ble_eq_true rfl, ?_⟩
  show En 0 0 [some (.inr (.inr (S0.length + 1)))] [] (S0 ++ [(3, 3, List.replicate 3 0)]) M Q
  refine e_ldR hP rfl rfl (nz_q h4) ?_
  refine e_obj S0.length hP rfl (by omega) (by decide) ?_
  refine c_arr (cl := 0) (S0.length + 1) hP rfl rfl rfl rfl rfl rfl h4 (by decide) (by decide) rfl hz.app ?_
  refine c_arr (cl := 0) (S0.length + 2) hP rfl rfl rfl rfl rfl rfl h4 (by decide) (by decide) rfl hz.app ?_
  refine c_arr (cl := 0) (S0.length + 3) hP rfl rfl rfl rfl rfl rfl h4 (by decide) (by decide) rfl hz.app ?_
  exact e_retv hP rfl h
theorem sk_1 (h4 : 4 ≤ S0.length) (hz : Zer S0 M) (h : Q (S0 ++ ob1 S0.length, M, none)) : Ca 5 [.inr (.inr (S0.length + 1))] (S0 ++ [(4, 3, List.replicate 3 0)]) M Q := by
  have hP : PR 5 = (bc_5, 1) := rfl
  refine ⟨Nat.le_of_ble_eq_true rfl, ?_⟩
  show En 5 0 [some (.inr (.inr (S0.length + 1)))] [] (S0 ++ [(4, 3, List.replicate 3 0)]) M Q
  refine e_ldR hP rfl rfl (nz_q h4) ?_
  refine e_obj S0.length hP rfl (by omega) (by decide) ?_
  refine c_arr (cl := 1) (S0.length + 1) hP rfl rfl rfl rfl rfl rfl h4 (by decide) (by decide) rfl hz.app ?_
  refine c_arr (cl := 1) (S0.length + 2) hP rfl rfl rfl rfl rfl rfl h4 (by decide) (by decide) rfl hz.app ?_
  exact e_retv hP rfl h
theorem sk_3 (h4 : 4 ≤ S0.length) (hz : Zer S0 M) (h : Q (S0 ++ ob3 S0.length, M, none)) : Ca 25 [.inr (.inr (S0.length + 1))] (S0 ++ [(6, 2, List.replicate 2 0)]) M Q := by
  have hP : PR 25 = (bc_25, 1) := rfl
  refine ⟨Nat.le_of_ble_eq_true rfl, ?_⟩
  show En 25 0 [some (.inr (.inr (S0.length + 1)))] [] (S0 ++ [(6, 2, List.replicate 2 0)]) M Q
  refine e_ldR hP rfl rfl (nz_q h4) ?_
  refine e_obj S0.length hP rfl (by omega) (by decide) ?_
  refine c_arr (cl := 3) (S0.length + 1) hP rfl rfl rfl rfl rfl rfl h4 (by decide) (by decide) rfl hz.app ?_
  refine c_arr (cl := 3) (S0.length + 2) hP rfl rfl rfl rfl rfl rfl h4 (by decide) (by decide) rfl hz.app ?_
  exact e_retv hP rfl h
theorem sk_5 (h4 : 4 ≤ S0.length) (hz : Zer S0 M) (h : Q (S0 ++ ob5 S0.length, M, none)) : Ca 36 [.inr (.inr (S0.length + 1))] (S0 ++ [(8, 5, List.replicate 5 0)]) M Q := by
  have hP : PR 36 = (bc_36, 1) := rfl
  refine ⟨Nat.le_of_ble_eq_true rfl, ?_⟩
  show En 36 0 [some (.inr (.inr (S0.length + 1)))] [] (S0 ++ [(8, 5, List.replicate 5 0)]) M Q
  refine e_ldR hP rfl rfl (nz_q h4) ?_
  refine e_obj S0.length hP rfl (by omega) (by decide) ?_
  refine c_arr (cl := 5) (S0.length + 1) hP rfl rfl rfl rfl rfl rfl h4 (by decide) (by decide) rfl hz.app ?_
  refine c_arr (cl := 5) (S0.length + 2) hP rfl rfl rfl rfl rfl rfl h4 (by decide) (by decide) rfl hz.app ?_
  exact e_retv hP rfl h
theorem sk_6 (h4 : 4 ≤ S0.length) (hz : Zer S0 M) (h : Q (S0 ++ ob6 S0.length, M, none)) : Ca 53 [.inr (.inr (S0.length + 1))] (S0 ++ [(9, 4, List.replicate 4 0)]) M Q := by
  have hP : PR 53 = (bc_53, 1) := rfl
  refine ⟨Nat.le_of_ble_eq_true rfl, ?_⟩
  show En 53 0 [some (.inr (.inr (S0.length + 1)))] [] (S0 ++ [(9, 4, List.replicate 4 0)]) M Q
  refine e_ldR hP rfl rfl (nz_q h4) ?_
  refine e_obj S0.length hP rfl (by omega) (by decide) ?_
  refine c_arr (cl := 6) (S0.length + 1) hP rfl rfl rfl rfl rfl rfl h4 (by decide) (by decide) rfl hz.app ?_
  refine c_arr (cl := 6) (S0.length + 2) hP rfl rfl rfl rfl rfl rfl h4 (by decide) (by decide) rfl hz.app ?_
  refine c_arr (cl := 6) (S0.length + 3) hP rfl rfl rfl rfl rfl rfl h4 (by decide) (by decide) rfl hz.app ?_
  exact e_retv hP rfl h
/-- a field gets a new object -/
theorem c_new {X ob : Shp} {n cl n2 cl2 ct : Nat} {rs : List Nat} (k : Nat) (hP : PR m = (code, nL)) (hk : k = S0.length + 1 + X.length) (h0 : code[i]? = some (1, 0, 1, 0, [])) (h1 : code[i + 1]? = some (25, cl2, n2, 0, [])) (h2 : code[i + 2]? = some (28, 0, 0, 0, [])) (h3 : code[i + 3]? = some (36, ct, 1, 2, [])) (h5 : code[i + 4]? = some (17, cl, b, 0, [])) (hL : L[0]? = some (some (.inr (.inr (S0.length + 1))))) (h4 : 4 ≤ S0.length) (hb : b < n) (hr : n = rs.length) (hz : Zer (S0 ++ (cl + 3, n, rs) :: X) M) (hs : bi_cats st ≤ 6) (hc : ∀ (S1 : Shp) (Q' : Res → Prop), S1.length = k → 4 ≤ S1.length → Zer S1 M → Q' (S1 ++ ob, M, none) → Ca ct [.inr (.inr (S1.length + 1))] (S1 ++ [(cl2 + 3, n2, List.replicate n2 0)]) M Q') (h : En m (i + 5) L st (S0 ++ (cl + 3, n, rs.set b (k + 1)) :: (X ++ ob)) M Q) : En m i L st (S0 ++ (cl + 3, n, rs) :: X) M Q := by
  have e : (S0 ++ (cl + 3, n, rs) :: X).length = k := by rw [List.length_append, List.length_cons]; omega
  refine e_ldR hP h0 hL (nz_q h4) ?_
  refine e_newZ hz hP h1 ?_
  refine e_dupR hP h2 ?_
  rw [e]
  refine e_call (as := [.inr (.inr (k + 1))]) (rest := .inr (.inr (k + 1)) :: .inr (.inr (S0.length + 1)) :: st) hP h3 rfl rfl (by simp) ?_ (rcv2 (by omega)) ?_
  · rw [bw_cats_cons, bw_cats_cons]; show 1 + (1 + _) ≤ 8; omega
  · have hh := hc (S0 ++ (cl + 3, n, rs) :: X) (fun r => En m (i + 3 + 1) L (r.2.2.toList ++ .inr (.inr (k + 1)) :: .inr (.inr (S0.length + 1)) :: st) r.1 r.2.1 Q) e (by rw [e]; omega) hz ?_
    · rw [e] at hh; exact hh
    · show En m (i + 4) L (.inr (.inr (k + 1)) :: .inr (.inr (S0.length + 1)) :: st) ((S0 ++ (cl + 3, n, rs) :: X) ++ ob) M Q
      refine e_pR (S' := S0 ++ (cl + 3, n, rs.set b (k + 1)) :: (X ++ ob)) S0.length ?_ h4 hP h5 hb hr ?_ h
      · rw [List.append_assoc]; exact g0 _ _ _
      · rw [List.append_assoc]; exact s0 _ _ _ _
theorem sk_2 (h4 : 4 ≤ S0.length) (hz : Zer S0 M) (h : Q (S0 ++ ob2 S0.length, M, none)) : Ca 12 [.inr (.inr (S0.length + 1))] (S0 ++ [(5, 2, List.replicate 2 0)]) M Q := by
  have hP : PR 12 = (bc_12, 1) := rfl
  refine ⟨Nat.le_of_ble_eq_true rfl, ?_⟩
  show En 12 0 [some (.inr (.inr (S0.length + 1)))] [] (S0 ++ [(5, 2, List.replicate 2 0)]) M Q
  refine e_ldR hP rfl rfl (nz_q h4) ?_
  refine e_obj S0.length hP rfl (by omega) (by decide) ?_
  refine c_arr (cl := 2) (S0.length + 1) hP rfl rfl rfl rfl rfl rfl h4 (by decide) (by decide) rfl hz.app ?_
  refine c_new (cl := 2) (ob := tw (S0.length + 2)) (S0.length + 2) hP rfl rfl rfl rfl rfl rfl rfl h4 (by decide) rfl hz.app (by decide) (fun S1 Q' e1 e2 e3 q => ?_) ?_
  · rw [← e1] at q; exact sk_town e2 e3 q
  · exact e_retv hP rfl h
theorem tw_len (l : Nat) : (tw l).length = 11 := rfl
theorem tws_len (l : Nat) : ∀ k, (tws l k).length = 11 * k := by
  intro k
  induction k with
  | zero => rfl
  | succ k ih => rw [tws, List.length_append, ih, tw_len]; omega
/-- towns in store -/
theorem sk_4 {n : Nat} (hn : 1 ≤ n ∧ n ≤ 8) (h4 : 4 ≤ S0.length) (hz : Zer S0 M) (h : ∀ M', (∀ q, q ≠ S0.length + 1 → M' q = M q) → (∀ k : Nat, k < n → M' (S0.length + 1) k = ((S0.length + 2 + 11 * k + 1 : Nat) : Int)) → Zer (S0 ++ ob4 n S0.length) M' → Q (S0 ++ ob4 n S0.length, M', none)) : Ca 31 [.inr (.inr (S0.length + 1)), .inl (n : Int)] (S0 ++ [(7, 2, List.replicate 2 0)]) M Q := by
  have hP : PR 31 = (bc_31, 3) := rfl
  obtain ⟨l, hl⟩ : ∃ l, l = S0.length := ⟨_, rfl⟩
  have loop : ∀ (d k : Nat) (M1 : Mem), k + d = n → (∀ q, q ≠ S0.length + 1 → M1 q = M q) → (∀ j : Nat, j < k → M1 (S0.length + 1) j = ((S0.length + 2 + 11 * j + 1 : Nat) : Int)) → En 31 13 [some (.inr (.inr (S0.length + 1))), some (.inl (n : Int)), some (.inl (k : Int))] [] (S0 ++ (7, 2, [S0.length + 2, 0]) :: (2, n, []) :: tws (S0.length + 2) k) M1 Q := by
    intro d
    induction d with
    | zero =>
      intro k M1 hk f1 f2
      have e : k = n := by omega
      subst e
      refine e_ld hP rfl rfl ?_
      refine e_ldR hP rfl rfl (nz_q h4) ?_
      refine e_gR (a := 4) (w := S0.length + 2) S0.length (g0 _ _ _) hP rfl (by decide) rfl ?_
      refine e_len (S0.length + 1) (g1 _ _ _ _) ⟨by decide, by omega⟩ hP rfl ?_
      refine e_cge hP rfl (fun _ => ?_) (fun z => by omega)
      refine e_retv hP rfl (h M1 f1 f2 (fun q j hq => ?_))
      rw [List.length_append] at hq
      have : (ob4 k S0.length).length = 2 + 11 * k := by unfold ob4; rw [List.length_cons, List.length_cons, tws_len]; omega
      rw [f1 q (by omega)]
      exact hz q j (by omega)
    | succ d ih =>
      intro k M1 hk f1 f2
      have hlen : (S0 ++ (7, 2, [S0.length + 2, 0]) :: (2, n, []) :: tws (S0.length + 2) k).length = S0.length + 2 + 11 * k := by rw [List.length_append, List.length_cons, List.length_cons, tws_len]; omega
      have z1 : Zer (S0 ++ (7, 2, [S0.length + 2, 0]) :: (2, n, []) :: tws (S0.length + 2) k) M1 := fun q j hq => by
        rw [hlen] at hq
        rw [f1 q (by omega)]; exact hz q j (by omega)
      refine e_ld hP rfl rfl ?_
      refine e_ldR hP rfl rfl (nz_q h4) ?_
      refine e_gR (a := 4) (w := S0.length + 2) S0.length (g0 _ _ _) hP rfl (by decide) rfl ?_
      refine e_len (S0.length + 1) (g1 _ _ _ _) ⟨by decide, by omega⟩ hP rfl ?_
      refine e_cge hP rfl (fun z => by omega) (fun _ => ?_)
      refine e_ldR hP rfl rfl (nz_q h4) ?_
      refine e_gR (a := 4) (w := S0.length + 2) S0.length (g0 _ _ _) hP rfl (by decide) rfl ?_
      refine e_ld hP rfl rfl ?_
      refine e_newZ z1 hP rfl ?_
      refine e_dupR hP rfl ?_
      refine e_call (as := [.inr (.inr ((S0 ++ (7, 2, [S0.length + 2, 0]) :: (2, n, []) :: tws (S0.length + 2) k).length + 1))]) (rest := [.inr (.inr ((S0 ++ (7, 2, [S0.length + 2, 0]) :: (2, n, []) :: tws (S0.length + 2) k).length + 1)), .inl (k : Int), .inr (.inr (S0.length + 2))]) hP rfl rfl rfl (Nat.le_of_ble_eq_true rfl) (Nat.le_of_ble_eq_true rfl) (rcv2 (by rw [hlen]; omega)) (sk_town (by rw [hlen]; omega) z1 ?_)
      rw [hlen]
      have ea : (S0 ++ (7, 2, [S0.length + 2, 0]) :: (2, n, []) :: tws (S0.length + 2) k) ++ tw (S0.length + 2 + 11 * k) = S0 ++ (7, 2, [S0.length + 2, 0]) :: (2, n, []) :: tws (S0.length + 2) (k + 1) := by rw [tws, List.append_assoc, List.cons_append, List.cons_append]
      show En 31 24 [some (.inr (.inr (S0.length + 1))), some (.inl (n : Int)), some (.inl (k : Int))] [.inr (.inr (S0.length + 2 + 11 * k + 1)), .inl (k : Int), .inr (.inr (S0.length + 2))] ((S0 ++ (7, 2, [S0.length + 2, 0]) :: (2, n, []) :: tws (S0.length + 2) k) ++ tw (S0.length + 2 + 11 * k)) M1 Q
      have gt : ((S0 ++ (7, 2, [S0.length + 2, 0]) :: (2, n, []) :: tws (S0.length + 2) k) ++ tw (S0.length + 2 + 11 * k))[S0.length + 2 + 11 * k]? = some (10, 15, [0, 0, 0, 0, 0, S0.length + 2 + 11 * k + 2, S0.length + 2 + 11 * k + 3, S0.length + 2 + 11 * k + 4, S0.length + 2 + 11 * k + 5, S0.length + 2 + 11 * k + 6, S0.length + 2 + 11 * k + 7, S0.length + 2 + 11 * k + 8, S0.length + 2 + 11 * k + 9, S0.length + 2 + 11 * k + 10, S0.length + 2 + 11 * k + 11]) := by
        have := g0 (S0 ++ (7, 2, [S0.length + 2, 0]) :: (2, n, []) :: tws (S0.length + 2) k) (10, 15, [0, 0, 0, 0, 0, S0.length + 2 + 11 * k + 2, S0.length + 2 + 11 * k + 3, S0.length + 2 + 11 * k + 4, S0.length + 2 + 11 * k + 5, S0.length + 2 + 11 * k + 6, S0.length + 2 + 11 * k + 7, S0.length + 2 + 11 * k + 8, S0.length + 2 + 11 * k + 9, S0.length + 2 + 11 * k + 10, S0.length + 2 + 11 * k + 11]) [(0, 8, []), (0, 48, []), (0, 8, []), (0, 8, []), (0, 8, []), (0, 8, []), (0, 64, []), (0, 26, []), (0, 26, []), (0, 26, [])]
        rw [hlen] at this
        exact this
      rw [ea] at gt ⊢
      refine e_aas (S0.length + 1) (S0.length + 2 + 11 * k) (g1 _ _ _ _) gt (by omega) (by omega) hP rfl (by omega) ?_
      rw [Int.toNat_natCast]
      refine e_inc hP rfl rfl (by unfold inR; omega) rfl ?_
      refine e_go hP rfl ?_
      have ec : ((k : Int) + 1) = ((k + 1 : Nat) : Int) := by omega
      show En 31 13 [some (.inr (.inr (S0.length + 1))), some (.inl (n : Int)), some (.inl ((k : Int) + 1))] [] _ _ Q
      rw [ec]
      refine ih (k + 1) _ (by omega) (fun q hq => by rw [up2_row _ _ _ _ hq]; exact f1 q hq) (fun j hj => ?_)
      rw [up2_at]
      by_cases hjk : j = k
      · rw [if_pos hjk, hjk]
      · rw [if_neg hjk]; exact f2 j (by omega)
  refine ⟨Nat.le_of_ble_eq_true rfl, ?_⟩
  show En 31 0 [some (.inr (.inr (S0.length + 1))), some (.inl (n : Int)), none] [] (S0 ++ [(7, 2, List.replicate 2 0)]) M Q
  refine e_ldR hP rfl rfl (nz_q h4) ?_
  refine e_obj S0.length hP rfl (by omega) (by decide) ?_
  refine e_ldR hP rfl rfl (nz_q h4) ?_
  refine e_ld hP rfl rfl ?_
  refine e_c hP rfl ?_
  refine e_cge hP rfl (fun _ => ?_) (fun z => by omega)
  refine e_ld hP rfl rfl ?_
  refine e_naZ hz.app hP rfl (by omega) ?_
  have e1 : (S0 ++ [((7 : Nat), (2 : Nat), List.replicate 2 (0 : Nat))]).length = S0.length + 1 := by simp
  rw [e1, Int.toNat_natCast]
  refine e_pR (S' := S0 ++ (7, 2, [S0.length + 2, 0]) :: (2, n, []) :: tws (S0.length + 2) 0) S0.length (rs := [0, 0]) (n := 2) (by rw [List.append_assoc]; exact g0 _ _ _) h4 hP rfl (by decide) rfl (by rw [List.append_assoc]; exact s0 _ _ _ _) ?_
  refine e_c hP rfl ?_
  refine e_st hP rfl rfl ?_
  exact loop n 0 M (by omega) (fun _ _ => rfl) (fun j hj => by omega)
end Make
