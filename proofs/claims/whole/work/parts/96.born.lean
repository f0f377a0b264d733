/-! THE CLASS's CONSTRUCTOR -/
section Born
variable {m i : Nat} {L : Lcl} {st : List AV} {S S0 X : Shp} {M : Mem} {Q : Res → Prop} {code : List Ins} {nL : Nat} {b : Nat}
theorem En_B {B Y Y' : Shp} (h : Y = Y') (g : En m i L st (B ++ Y') M Q) : En m i L st (B ++ Y) M Q := by rw [h]; exact g
/-- a field gets a new store of towns -/
theorem c_newM {n cl nn : Nat} {rs : List Nat} (k : Nat) (hP : PR m = (code, nL)) (hk : k = S0.length + 1 + X.length) (hnn : 1 ≤ nn ∧ nn ≤ 8) (h0 : code[i]? = some (1, 0, 1, 0, [])) (h1 : code[i + 1]? = some (25, 4, 2, 0, [])) (h2 : code[i + 2]? = some (28, 0, 0, 0, [])) (h3 : code[i + 3]? = some (0, 0, 0, (nn : Int), [])) (h6 : code[i + 4]? = some (36, 31, 2, 2, [])) (h5 : code[i + 5]? = some (17, cl, b, 0, [])) (hL : L[0]? = some (some (.inr (.inr (S0.length + 1))))) (h4 : 4 ≤ S0.length) (hb : b < n) (hr : n = rs.length) (hz : Zer (S0 ++ (cl + 3, n, rs) :: X) M) (hs : bi_cats st ≤ 6) (h : ∀ M', (∀ q, q ≠ k + 1 → M' q = M q) → (∀ j : Nat, j < nn → M' (k + 1) j = ((k + 2 + 11 * j + 1 : Nat) : Int)) → Zer (S0 ++ (cl + 3, n, rs.set b (k + 1)) :: (X ++ ob4 nn k)) M' → En m (i + 6) L st (S0 ++ (cl + 3, n, rs.set b (k + 1)) :: (X ++ ob4 nn k)) M' Q) : En m i L st (S0 ++ (cl + 3, n, rs) :: X) M Q := by
  have e : (S0 ++ (cl + 3, n, rs) :: X).length = k := by rw [List.length_append, List.length_cons]; omega
  refine e_ldR hP h0 hL (nz_q h4) ?_
  refine e_newZ hz hP h1 ?_
  refine e_dupR hP h2 ?_
  refine e_c hP h3 ?_
  rw [e]
  refine e_call (as := [.inr (.inr (k + 1)), .inl (nn : Int)]) (rest := .inr (.inr (k + 1)) :: .inr (.inr (S0.length + 1)) :: st) hP h6 rfl rfl (by simp) ?_ (rcv2 (by omega)) ?_
  · rw [bw_cats_cons, bw_cats_cons]; show 1 + (1 + _) ≤ 8; omega
  · have hh := sk_4 (S0 := S0 ++ (cl + 3, n, rs) :: X) (M := M) (Q := fun r => En m (i + 4 + 1) L (r.2.2.toList ++ .inr (.inr (k + 1)) :: .inr (.inr (S0.length + 1)) :: st) r.1 r.2.1 Q) hnn (by rw [e]; omega) hz (fun M' f1 f2 f3 => ?_)
    · rw [e] at hh; exact hh
    · rw [e] at f1 f2 f3
      show En m (i + 5) L (.inr (.inr (k + 1)) :: .inr (.inr (S0.length + 1)) :: st) ((S0 ++ (cl + 3, n, rs) :: X) ++ ob4 nn (S0 ++ (cl + 3, n, rs) :: X).length) M' Q
      rw [e]
      refine e_pR (S' := S0 ++ (cl + 3, n, rs.set b (k + 1)) :: (X ++ ob4 nn k)) S0.length ?_ h4 hP h5 hb hr ?_ (h M' f1 f2 (fun q j hq => f3 q j ?_))
      · rw [List.append_assoc]; exact g0 _ _ _
      · rw [List.append_assoc]; exact s0 _ _ _ _
      · rw [List.length_append, List.length_cons, List.length_append] at hq
        rw [List.length_append, List.length_append, List.length_cons]
        omega
def clsT : Shp := (bx_tab.drop 4).take 168
theorem KC_of {B : Shp} (hB : B.length = 4) {Y : Shp} : KC (B ++ (clsT ++ Y)) := fun k h1 h2 => by
  rw [List.getElem?_append_right (by omega), hB]
  have hl : clsT.length = 168 := by decide +kernel
  rw [List.getElem?_append_left (by omega)]
  unfold clsT
  rw [List.getElem?_take, if_pos (by omega), List.getElem?_drop]
  congr 1
  omega
/-- cells for the class -/
theorem born_cells {B : Shp} {nL : Nat} (hP : PR 93 = (bc_93, nL)) (hB : B.length = 4) (hz : Zer B M) {x1 : Option AV} (h : ∀ M', (∀ q, q ≠ 31 → q ≠ 121 → M' q = M q) → (∀ j : Nat, j < 8 → M' 31 j = ((32 + 11 * j + 1 : Nat) : Int)) → (∀ j : Nat, j < 2 → M' 121 j = ((122 + 11 * j + 1 : Nat) : Int)) → En 93 58 [some (.inr (.inr 5)), x1] [] (B ++ clsT) M' Q) : En 93 0 [some (.inr (.inr 5)), x1] [] (B ++ [(11, 12, List.replicate 12 0)]) M Q := by
  have h4 : 4 ≤ B.length := by omega
  have hL : ([some (.inr (.inr 5)), x1] : Lcl)[0]? = some (some (.inr (.inr (B.length + 1)))) := by rw [hB]; rfl
  refine e_ldR hP rfl rfl (by decide) ?_
  refine e_obj 4 hP rfl (by decide) (by decide) ?_
  refine c_new (cl := 8) (ob := ob5 5) 5 hP (by rw [hB]; decide +kernel) rfl rfl rfl rfl rfl hL h4 (by decide) rfl hz.app (by decide) (fun S1 Q' e1 e2 e3 q => by rw [← e1] at q; exact sk_5 e2 e3 q) ?_
  refine c_new (cl := 8) (ob := tw 8) 8 hP (by rw [hB]; decide +kernel) rfl rfl rfl rfl rfl hL h4 (by decide) rfl hz.app (by decide) (fun S1 Q' e1 e2 e3 q => by rw [← e1] at q; exact sk_town e2 e3 q) ?_
  refine c_new (cl := 8) (ob := tw 19) 19 hP (by rw [hB]; decide +kernel) rfl rfl rfl rfl rfl hL h4 (by decide) rfl hz.app (by decide) (fun S1 Q' e1 e2 e3 q => by rw [← e1] at q; exact sk_town e2 e3 q) ?_
  refine c_newM (cl := 8) (nn := 8) 30 hP (by rw [hB]; decide +kernel) (by decide) rfl rfl rfl rfl rfl rfl hL h4 (by decide) rfl hz.app (by decide) (fun M1 f1 f2 z1 => ?_)
  refine c_newM (cl := 8) (nn := 2) 120 hP (by rw [hB]; decide +kernel) (by decide) rfl rfl rfl rfl rfl rfl hL h4 (by decide) rfl z1 (by decide) (fun M2 k1 k2 z2 => ?_)
  have hz2 : ∀ Y : Shp, 140 ≤ Y.length → Zer (B ++ Y) M2 := fun Y hY q j hq => z2 q j (by
    rw [List.length_append, hB] at *
    refine Nat.le_trans ?_ hq
    rw [List.length_cons]
    have e : ((([] ++ ob5 5) ++ tw 8) ++ tw 19 ++ ob4 8 30 ++ ob4 2 120).length = 139 := by decide +kernel
    rw [e]; omega)
  refine En_B (Y' := (11, 12, [6, 9, 20, 31, 121, 0, 0, 0, 0, 0, 0, 0]) :: (bx_tab.drop 5).take 139) (by decide +kernel) ?_
  refine c_new (cl := 8) (ob := ob2 144) 144 hP (by rw [hB]; decide +kernel) rfl rfl rfl rfl rfl hL h4 (by decide) rfl (hz2 _ (by decide +kernel)) (by decide) (fun S1 Q' e1 e2 e3 q => by rw [← e1] at q; exact sk_2 e2 e3 q) ?_
  refine c_new (cl := 8) (ob := ob3 157) 157 hP (by rw [hB]; decide +kernel) rfl rfl rfl rfl rfl hL h4 (by decide) rfl (hz2 _ (by decide +kernel)) (by decide) (fun S1 Q' e1 e2 e3 q => by rw [← e1] at q; exact sk_3 e2 e3 q) ?_
  refine c_new (cl := 8) (ob := ob6 160) 160 hP (by rw [hB]; decide +kernel) rfl rfl rfl rfl rfl hL h4 (by decide) rfl (hz2 _ (by decide +kernel)) (by decide) (fun S1 Q' e1 e2 e3 q => by rw [← e1] at q; exact sk_6 e2 e3 q) ?_
  refine c_new (cl := 8) (ob := ob0 164) 164 hP (by rw [hB]; decide +kernel) rfl rfl rfl rfl rfl hL h4 (by decide) rfl (hz2 _ (by decide +kernel)) (by decide) (fun S1 Q' e1 e2 e3 q => by rw [← e1] at q; exact sk_0 e2 e3 q) ?_
  refine c_new (cl := 8) (ob := ob1 168) 168 hP (by rw [hB]; decide +kernel) rfl rfl rfl rfl rfl hL h4 (by decide) rfl (hz2 _ (by decide +kernel)) (by decide) (fun S1 Q' e1 e2 e3 q => by rw [← e1] at q; exact sk_1 e2 e3 q) ?_
  refine c_arr (cl := 8) 171 hP (by rw [hB]; decide +kernel) rfl rfl rfl rfl hL h4 (by decide) (by decide) rfl (hz2 _ (by decide +kernel)) ?_
  refine En_B (Y' := clsT) (by decide +kernel) ?_
  exact h M2 (fun q a b => by rw [k1 q b, f1 q a]) (fun j hj => by rw [k1 31 (by decide)]; exact f2 j hj) k2
/-- the first town, as its text tells it -/
def tx (k : Nat) : Int := bs_txt.getD k 0
def σF : Nat → Int := putQ (putN (putN (putN (putN σ0 (fun k => tx (1 + k) - 97) 0 4 5 9) (fun k => tx (11 + k) - 97) 1 5 9 5) (fun k => tx (22 + k) - 97) 2 3 8 30) (fun k => tx (32 + k) - 97) 3 0 3 0) (lf tx 38)
theorem pF1 : pI tx 41 0 σ0 = some (10, putN σ0 (fun k => tx (1 + k) - 97) 0 4 5 9) := by
  unfold pI
  rw [if_pos (by decide +kernel), if_pos (by decide +kernel)]
  rw [show q3 tx 41 0 + 1 = 10 by decide +kernel, show nL tx 41 (0 + 1) = 4 by decide +kernel, show nV tx 41 (q1 tx 41 0 + 1) = 5 by decide +kernel, show nV tx 41 (q2 tx 41 0 + 1) = 9 by decide +kernel, show (σ0 0).toNat = 0 by decide +kernel]
def σ1 : Nat → Int := putN σ0 (fun k => tx (1 + k) - 97) 0 4 5 9
def σ2 : Nat → Int := putN σ1 (fun k => tx (11 + k) - 97) 1 5 9 5
def σ3 : Nat → Int := putN σ2 (fun k => tx (22 + k) - 97) 2 3 8 30
def σ4 : Nat → Int := putN σ3 (fun k => tx (32 + k) - 97) 3 0 3 0
theorem pF2 : pI tx 41 10 σ1 = some (21, σ2) := by
  unfold pI
  rw [if_pos (by decide +kernel), if_pos (by decide +kernel)]
  rw [show q3 tx 41 10 + 1 = 21 by decide +kernel, show nL tx 41 (10 + 1) = 5 by decide +kernel, show nV tx 41 (q1 tx 41 10 + 1) = 9 by decide +kernel, show nV tx 41 (q2 tx 41 10 + 1) = 5 by decide +kernel, show (σ1 0).toNat = 1 by decide +kernel]
  rfl
theorem pF3 : pI tx 41 21 σ2 = some (31, σ3) := by
  unfold pI
  rw [if_pos (by decide +kernel), if_pos (by decide +kernel)]
  rw [show q3 tx 41 21 + 1 = 31 by decide +kernel, show nL tx 41 (21 + 1) = 3 by decide +kernel, show nV tx 41 (q1 tx 41 21 + 1) = 8 by decide +kernel, show nV tx 41 (q2 tx 41 21 + 1) = 30 by decide +kernel, show (σ2 0).toNat = 2 by decide +kernel]
  rfl
theorem pF4 : pI tx 41 31 σ3 = some (37, σ4) := by
  unfold pI
  rw [if_pos (by decide +kernel), if_pos (by decide +kernel)]
  rw [show q3 tx 41 31 + 1 = 37 by decide +kernel, show nL tx 41 (31 + 1) = 0 by decide +kernel, show nV tx 41 (q1 tx 41 31 + 1) = 3 by decide +kernel, show nV tx 41 (q2 tx 41 31 + 1) = 0 by decide +kernel, show (σ3 0).toNat = 3 by decide +kernel]
  rfl
theorem pF5 : pI tx 41 37 σ4 = some (41, σF) := by
  unfold pI
  rw [if_neg (by decide +kernel), if_neg (by decide +kernel), if_neg (by decide +kernel), if_neg (by decide +kernel), if_neg (by decide +kernel), if_neg (by decide +kernel), if_pos (by decide +kernel), if_pos (by decide +kernel)]
  rw [show q1 tx 41 37 + 1 = 41 by decide +kernel]
  rfl
theorem pF : pL tx 41 200 0 σ0 = (-4, σF) := by
  show pL tx 41 (194 + 1 + 1 + 1 + 1 + 1 + 1) 0 σ0 = (-4, σF)
  rw [pL, if_neg (by decide), pF1]
  show pL tx 41 (194 + 1 + 1 + 1 + 1 + 1) 10 σ1 = (-4, σF)
  rw [pL, if_neg (by decide), pF2]
  show pL tx 41 (194 + 1 + 1 + 1 + 1) 21 σ2 = (-4, σF)
  rw [pL, if_neg (by decide), pF3]
  show pL tx 41 (194 + 1 + 1 + 1) 31 σ3 = (-4, σF)
  rw [pL, if_neg (by decide), pF4]
  show pL tx 41 (194 + 1 + 1) 37 σ4 = (-4, σF)
  rw [pL, if_neg (by decide), pF5]
  show pL tx 41 (194 + 1) 41 σF = (-4, σF)
  rw [pL, if_pos (by decide)]
/-- the class is made -/
theorem sk_class {B : Shp} (hB : B.length = 4) (hz : Zer B M) (hj1 : B[1]? = some (13, 2, [3, 0])) (hj2 : B[2]? = some (1, 41, [])) (hm1 : M 1 1 = 0) (hm2 : ∀ k, k < 41 → M 2 k = tx k) (h : ∀ M', CR M' 8 σF → SO σF → M' 5 2 = 0 → (∀ q, q ≠ 5 → q ≠ 6 → q ≠ 7 → ¬ (8 ≤ q ∧ q ≤ 18) → q ≠ 31 → q ≠ 121 → M' q = M q) → (∀ j : Nat, j < 8 → M' 31 j = ((32 + 11 * j + 1 : Nat) : Int)) → (∀ j : Nat, j < 2 → M' 121 j = ((122 + 11 * j + 1 : Nat) : Int)) → Q (B ++ clsT, M', none)) : Ca 93 [.inr (.inr 5)] (B ++ [(11, 12, List.replicate 12 0)]) M Q := by
  have hP : PR 93 = (bc_93, 2) := rfl
  refine ⟨Nat.le_of_ble_eq_true rfl, ?_⟩
  show En 93 0 [some (.inr (.inr 5)), none] [] (B ++ [(11, 12, List.replicate 12 0)]) M Q
  refine born_cells hP hB hz (fun M1 f1 f2 f3 => ?_)
  have hS : KC (B ++ clsT) := by
    have := KC_of hB (Y := [])
    rw [List.append_nil] at this
    exact this
  have hJ : ∀ M' : Mem, M' 1 = M 1 → M' 2 = M 2 → KJ (B ++ clsT) M' := fun M' e1 e2 => ⟨by rw [List.getElem?_append_left (by omega)]; exact hj1, by rw [List.getElem?_append_left (by omega)]; exact hj2, by rw [e1]; exact hm1, fun k hk => by rw [e2]; exact hm2 k hk⟩
  have fz : ∀ q, 4 ≤ q → q ≠ 31 → q ≠ 121 → ∀ j, M1 q j = 0 := fun q a b c j => by rw [f1 q b c]; exact hz q j (by omega)
  have loop : ∀ (d k : Nat) (M2 : Mem), k + d = 41 → (∀ q, q ≠ 5 → q ≠ 6 → M2 q = M1 q) → M2 5 2 = (k : Int) → (∀ j, j < k → M2 6 j = tx j) → En 93 60 [some (.inr (.inr 5)), some (.inl (k : Int))] [] (B ++ clsT) M2 Q := by
    intro d
    induction d with
    | zero =>
      intro k M2 hk g1 g2 g3
      have ek : k = 41 := by omega
      subst ek
      have hj := hJ M2 (by rw [g1 1 (by decide) (by decide), f1 1 (by decide) (by decide)]) (by rw [g1 2 (by decide) (by decide), f1 2 (by decide) (by decide)])
      refine e_ld hP rfl rfl ?_
      refine e_str hP rfl ?_
      refine e_call (as := [.inr (.inr 2)]) (rest := [.inl ((41 : Nat) : Int)]) hP rfl rfl rfl (by decide) (by decide) (rcvS hj.1) (sj_length hj ?_)
      show En 93 63 [some (.inr (.inr 5)), some (.inl ((41 : Nat) : Int))] [.inl 41, .inl ((41 : Nat) : Int)] (B ++ clsT) M2 Q
      refine e_cge hP rfl (fun _ => ?_) (fun z => by omega)
      refine e_ldR hP rfl rfl (by decide) ?_
      refine e_gR (a := 8) (w := 6) 4 (sh_4 hS) hP rfl (by decide) rfl ?_
      refine e_ldR hP rfl rfl (by decide) ?_
      refine e_gR (a := 8) (w := 9) 4 (sh_4 hS) hP rfl (by decide) rfl ?_
      refine e_call (as := [.inr (.inr 6), .inr (.inr 9)]) (rest := []) hP rfl rfl rfl (by decide) (by decide) (rcv0 (sh_5 hS) (by decide)) ?_
      refine sp_readInto (T := tx) (L := 41) (t := 8) hS (by decide) ⟨g2, by decide, fun k hk => ⟨g3 k hk, (txt_in k hk).2.2.2⟩⟩ (fun M3 d3 c3 => ?_)
      rw [pF] at c3
      obtain ⟨c1, c2⟩ := c3 rfl
      show En 93 78 [some (.inr (.inr 5)), some (.inl ((41 : Nat) : Int))] [.inl _] (B ++ clsT) M3 Q
      refine e_pop hP rfl ?_
      refine e_ldR hP rfl rfl (by decide) ?_
      refine e_gR (a := 8) (w := 6) 4 (sh_4 hS) hP rfl (by decide) rfl ?_
      refine e_c hP rfl ?_
      refine e_pI (a := 5) 5 (sh_5 hS) (by decide) hP rfl (by decide) ?_
      refine e_retv hP rfl (h _ (CR_rows c1 (fun j hj => by rw [up2_row _ _ _ _ (by omega)]) (by rw [up2_off _ _ _ _ (by decide)])) c2 (up2_get _ _ _ _) (fun q a b c d e f => ?_) (fun j hj => ?_) (fun j hj => ?_))
      · rw [up2_row _ _ _ _ a, d3.1 q a c (by omega), g1 q a b, f1 q e f]
      · rw [up2_row _ _ _ _ (by decide), d3.1 31 (by decide) (by decide) (by decide), g1 31 (by decide) (by decide)]; exact f2 j hj
      · rw [up2_row _ _ _ _ (by decide), d3.1 121 (by decide) (by decide) (by decide), g1 121 (by decide) (by decide)]; exact f3 j hj
    | succ d ih =>
      intro k M2 hk g1 g2 g3
      have hj := hJ M2 (by rw [g1 1 (by decide) (by decide), f1 1 (by decide) (by decide)]) (by rw [g1 2 (by decide) (by decide), f1 2 (by decide) (by decide)])
      refine e_ld hP rfl rfl ?_
      refine e_str hP rfl ?_
      refine e_call (as := [.inr (.inr 2)]) (rest := [.inl (k : Int)]) hP rfl rfl rfl (Nat.le_of_ble_eq_true rfl) (Nat.le_of_ble_eq_true rfl) (rcvS hj.1) (sj_length hj ?_)
      show En 93 63 [some (.inr (.inr 5)), some (.inl (k : Int))] [.inl 41, .inl (k : Int)] (B ++ clsT) M2 Q
      refine e_cge hP rfl (fun z => by omega) (fun _ => ?_)
      refine e_ldR hP rfl rfl (by decide) ?_
      refine e_gR (a := 8) (w := 6) 4 (sh_4 hS) hP rfl (by decide) rfl ?_
      refine e_str hP rfl ?_
      refine e_ld hP rfl rfl ?_
      refine e_call (as := [.inr (.inr 2), .inl (k : Int)]) (rest := [.inr (.inr 6)]) hP rfl rfl rfl (Nat.le_of_ble_eq_true rfl) (Nat.le_of_ble_eq_true rfl) (rcvS hj.1) (sj_charAt hj (by omega) ?_)
      show En 93 69 [some (.inr (.inr 5)), some (.inl (k : Int))] [.inl (tx k), .inr (.inr 6)] (B ++ clsT) M2 Q
      refine e_call (as := [.inr (.inr 6), .inl (tx k)]) (rest := []) hP rfl rfl rfl (Nat.le_of_ble_eq_true rfl) (Nat.le_of_ble_eq_true rfl) (rcv0 (sh_5 hS) (by decide)) ?_
      apply r_X5_add_0 hS
      rw [up2_row _ _ _ _ (by decide), g2, Int.toNat_natCast]
      refine ⟨fun _ => ⟨by omega, by unfold inR; omega, ?_⟩, fun z => by omega⟩
      show En 93 70 [some (.inr (.inr 5)), some (.inl (k : Int))] [.inl 1] (B ++ clsT) (up2 (up2 M2 6 k (tx k)) 5 2 ((k : Int) + 1)) Q
      refine e_pop hP rfl ?_
      refine e_inc hP rfl rfl (by unfold inR; omega) rfl ?_
      refine e_go hP rfl ?_
      show En 93 60 [some (.inr (.inr 5)), some (.inl ((k : Int) + 1))] [] (B ++ clsT) (up2 (up2 M2 6 k (tx k)) 5 2 ((k : Int) + 1)) Q
      rw [show ((k : Int) + 1) = ((k + 1 : Nat) : Int) by omega]
      refine ih (k + 1) _ (by omega) (fun q a b => by rw [up2_row _ _ _ _ a, up2_row _ _ _ _ b]; exact g1 q a b) (up2_get _ _ _ _) (fun j hj => ?_)
      rw [up2_row _ _ _ _ (by decide), up2_at]
      by_cases hjk : j = k
      · rw [if_pos hjk, hjk]
      · rw [if_neg hjk]; exact g3 j (by omega)
  refine e_c hP rfl ?_
  refine e_st hP rfl rfl ?_
  exact loop 41 0 M1 rfl (fun _ _ _ => rfl) (fz 5 (by decide) (by decide) (by decide) 2) (fun j hj => by omega)
end Born
