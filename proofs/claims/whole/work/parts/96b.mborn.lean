/-! THE REFERENCE's CONSTRUCTOR -/
section MBorn
variable {S S0 : Shp} {M : Mem} {Q : Res → Prop} {σ : Nat → Int}
theorem MR_N {M1 : Mem} {i m : Nat} {v w : Int} {f : Nat → Int} (hi : σ 0 = (i : Int)) (hi8 : i < 8) (hm : m ≤ 6) (hc : MR M σ) (hs : SO σ) (g1 : ∀ q, q ≠ 174 → q ≠ 175 → q ≠ 176 → q ≠ 177 → q ≠ 187 → M1 q = M q) (g2 : ∀ k, M1 174 k = if k = 6 then (i : Int) + 1 else M 174 k) (g3 : ∀ k, M1 175 k = if k = 8 + i then v else M 175 k) (g4 : ∀ k, M1 177 k = if k = i then w else M 177 k) (g5 : ∀ z, M1 176 z = if z = 7 * i then (m : Int) else if 7 * i + 1 ≤ z ∧ z < 7 * i + 1 + m then f (z - (7 * i + 1)) else M 176 z) : MR M1 (putN σ f i m v w) := by
  obtain ⟨⟨a0, a1, a2, a3, a4, a5⟩, b1, b2, b3⟩ := hc
  have P0 : putN σ f i m v w 0 = σ 0 + 1 := if_pos rfl
  have Po : ∀ j, j ≠ 0 → j < 10 ∨ 90 ≤ j → putN σ f i m v w j = σ j := fun j h1 h2 => by unfold putN; rw [if_neg h1, if_neg (by omega), if_neg (by omega), if_neg (by omega), if_neg (by omega)]
  refine ⟨⟨by rw [g2, if_pos rfl, P0, hi], by rw [g2, if_neg (by decide), Po 1 (by decide) (by omega)]; exact a1, by rw [g2, if_neg (by decide), Po 2 (by decide) (by omega)]; exact a2, by rw [g2, if_neg (by decide), Po 3 (by decide) (by omega)]; exact a3, by rw [g2, if_neg (by decide), Po 4 (by decide) (by omega)]; exact a4, by rw [g2, if_neg (by decide), Po 5 (by decide) (by omega)]; exact a5⟩, fun j hj => ?_, fun x hx => ?_, fun k hk => ?_⟩
  · rw [P0] at hj
    rw [g5, g3, g4]
    unfold putN
    by_cases hji : j = i
    · subst hji
      rw [if_pos rfl, if_pos rfl, if_pos rfl, if_neg (by omega), if_pos rfl, if_neg (by omega), if_neg (by omega), if_neg (by omega), if_pos rfl, if_neg (by omega), if_neg (by omega), if_neg (by omega), if_neg (by omega), if_pos rfl]
      refine ⟨rfl, rfl, rfl, fun k hk => ?_⟩
      rw [g5, if_neg (by omega), if_pos (by omega), if_neg (by omega), if_neg (by omega), if_pos (by omega), show 20 + 6 * j + k - (20 + 6 * j) = k by omega, show 7 * j + 1 + k - (7 * j + 1) = k by omega]
    · have b := b1 j (by omega)
      have sj := hs.2.2.2.2.2.2.1 j (by omega)
      rw [if_neg (by omega), if_neg (by omega), if_neg (by omega), if_neg (by omega), if_neg (by omega), if_neg (by omega), if_neg (by omega), if_neg (by omega), if_neg (by omega), if_neg (by omega), if_neg (by omega), if_neg (by omega), if_neg (by omega), if_neg (by omega), if_neg (by omega), if_neg (by omega), if_neg (by omega), if_neg (by omega), if_neg (by omega)]
      refine ⟨b.1, b.2.1, b.2.2.1, fun k hk => ?_⟩
      rw [g5, if_neg (by omega), if_neg (by omega), if_neg (by omega), if_neg (by omega), if_neg (by omega), if_neg (by omega), if_neg (by omega)]
      exact b.2.2.2 k hk
  · rw [g1 178 (by decide) (by decide) (by decide) (by decide) (by decide), Po _ (by omega) (by omega)]; exact b2 x hx
  · rw [Po 5 (by decide) (by omega)] at hk
    rw [g1 179 (by decide) (by decide) (by decide) (by decide) (by decide), Po _ (by omega) (by omega), Po _ (by omega) (by omega)]; exact b3 k hk
theorem sq_puts (hM : KM S) {i m : Nat} {v w : Int} {f : Nat → Int} (hi : σ 0 = (i : Int)) (hi8 : i < 8) (hm : m ≤ 6) (hc : MR M σ) (hs : SO σ) (h23 : M 172 23 = (m : Int)) (hf : ∀ k, k < m → M 188 k = f k) (h : ∀ M', (∀ q, q ≠ 174 → q ≠ 175 → q ≠ 176 → q ≠ 177 → q ≠ 187 → M' q = M q) → MR M' (putN σ f i m v w) → Q (S, M', none)) : Ca 142 [.inr (.inr 173), .inl v, .inl w] S M Q := by
  apply r_X9_puts_0 hM
  rw [show (0 : Int).toNat = 0 from rfl, show (1 : Int).toNat = 1 from rfl, show (11 : Int).toNat = 11 from rfl]
  have R : ∀ q, q ≠ 187 → (up2 (up2 M 187 0 v) 187 1 w) q = M q := fun q hq => by rw [up2_row _ _ _ _ hq, up2_row _ _ _ _ hq]
  have v0 : (up2 (up2 M 187 0 v) 187 1 w) 187 0 = v := by rw [up2_off _ _ _ _ (by decide), up2_get]
  have v1 : (up2 (up2 M 187 0 v) 187 1 w) 187 1 = w := up2_get _ _ _ _
  refine ⟨by decide, by decide, sq_isPersonPut (f := f) hM hi8 hm (by rw [R 174 (by decide), hc.1.1]; exact hi) (by rw [R 172 (by decide)]; exact h23) (fun k hk => by rw [R 188 (by decide)]; exact hf k hk) (fun M1 g1 g2 g3 g4 g5 => ⟨_, _, rfl, by decide, fun z => absurd z (by decide), fun _ => ?_⟩)⟩
  have e11 : M1 174 11 = σ 4 := by rw [g2, if_neg (by decide), R 174 (by decide)]; exact hc.1.2.2.2.2.1
  have s4 := hs.2.2.2.2.1
  rw [Int.add_zero, up2_same]
  refine ⟨by rw [e11]; unfold inR; omega, by decide, h M1 (fun q a b c d e => by rw [g1 q a b c d, R q e]) (MR_N hi hi8 hm hc hs (fun q a b c d e => by rw [g1 q a b c d, R q e]) (fun k => by rw [g2, R 174 (by decide)]) (fun k => by rw [g3, v0, R 175 (by decide)]) (fun k => by rw [g4, v1, R 177 (by decide)]) (fun z => by rw [g5, R 176 (by decide)]))⟩
theorem sq_spelled (hM : KM S) {p1 p2 p3 p4 p5 p6 : Int} (h : ∀ M', (∀ q, q ≠ 172 → q ≠ 188 → M' q = M q) → (∀ k, k ≠ 23 → M' 172 k = M 172 k) → M' 172 23 = p1 → M' 188 0 = p2 → M' 188 1 = p3 → M' 188 2 = p4 → M' 188 3 = p5 → M' 188 4 = p6 → Q (S, M', none)) : Ca 141 [.inr (.inr 173), .inl p1, .inl p2, .inl p3, .inl p4, .inl p5, .inl p6] S M Q := by
  apply r_X9_spelled_0 hM
  refine ⟨by decide, by decide, by decide, by decide, by decide, h _ (fun q a b => ?_) (fun k a => ?_) ?_ ?_ ?_ ?_ ?_ ?_⟩
  · rw [up2_row _ _ _ _ b, up2_row _ _ _ _ b, up2_row _ _ _ _ b, up2_row _ _ _ _ b, up2_row _ _ _ _ b, up2_row _ _ _ _ a]
  · rw [up2_row _ _ _ _ (by decide), up2_row _ _ _ _ (by decide), up2_row _ _ _ _ (by decide), up2_row _ _ _ _ (by decide), up2_row _ _ _ _ (by decide), up2_off _ _ _ _ a]
  all_goals simp [up2_any]
def modT : Shp := bx_tab.drop 172
theorem KM_of (h0 : S0.length = 172) : KM (S0 ++ modT) := fun k h1 h2 => by
  rw [List.getElem?_append_right (by omega), h0]
  unfold modT
  rw [List.getElem?_drop, show 172 + (k - 172) = k by omega]
theorem σ_0s : σ0 0 = ((0 : Nat) : Int) ∧ σ1 0 = ((1 : Nat) : Int) ∧ σ2 0 = ((2 : Nat) : Int) ∧ σ3 0 = ((3 : Nat) : Int) ∧ σ4 5 = 0 := by decide +kernel
theorem sk_model (h0 : S0.length = 172) (hz : Zer S0 M) (h : ∀ M', (∀ q, q < 172 → M' q = M q) → M' 172 0 = 0 → (∃ M1, Tk M1 M' σF) → Q (S0 ++ modT, M', none)) : Ca 139 [.inr (.inr 173)] (S0 ++ [(12, 25, List.replicate 25 0)]) M Q := by
  have hP : PR 139 = (bc_139, 1) := rfl
  have h4 : 4 ≤ S0.length := by omega
  have hL : ([some (.inr (.inr 173))] : Lcl)[0]? = some (some (.inr (.inr (S0.length + 1)))) := by rw [h0]; rfl
  refine ⟨Nat.le_of_ble_eq_true rfl, ?_⟩
  show En 139 0 [some (.inr (.inr 173))] [] (S0 ++ [(12, 25, List.replicate 25 0)]) M Q
  refine e_ldR hP rfl rfl (by decide) ?_
  refine e_obj 172 hP rfl (by decide) (by decide) ?_
  refine c_arr (cl := 9) 173 hP (by rw [h0]; decide +kernel) rfl rfl rfl rfl hL h4 (by decide) (by decide) rfl hz.app ?_
  refine c_arr (cl := 9) 174 hP (by rw [h0]; decide +kernel) rfl rfl rfl rfl hL h4 (by decide) (by decide) rfl hz.app ?_
  refine c_arr (cl := 9) 175 hP (by rw [h0]; decide +kernel) rfl rfl rfl rfl hL h4 (by decide) (by decide) rfl hz.app ?_
  refine c_arr (cl := 9) 176 hP (by rw [h0]; decide +kernel) rfl rfl rfl rfl hL h4 (by decide) (by decide) rfl hz.app ?_
  refine c_arr (cl := 9) 177 hP (by rw [h0]; decide +kernel) rfl rfl rfl rfl hL h4 (by decide) (by decide) rfl hz.app ?_
  refine c_arr (cl := 9) 178 hP (by rw [h0]; decide +kernel) rfl rfl rfl rfl hL h4 (by decide) (by decide) rfl hz.app ?_
  refine c_arr (cl := 9) 179 hP (by rw [h0]; decide +kernel) rfl rfl rfl rfl hL h4 (by decide) (by decide) rfl hz.app ?_
  refine c_arr (cl := 9) 180 hP (by rw [h0]; decide +kernel) rfl rfl rfl rfl hL h4 (by decide) (by decide) rfl hz.app ?_
  refine c_arr (cl := 9) 181 hP (by rw [h0]; decide +kernel) rfl rfl rfl rfl hL h4 (by decide) (by decide) rfl hz.app ?_
  refine c_arr (cl := 9) 182 hP (by rw [h0]; decide +kernel) rfl rfl rfl rfl hL h4 (by decide) (by decide) rfl hz.app ?_
  refine c_arr (cl := 9) 183 hP (by rw [h0]; decide +kernel) rfl rfl rfl rfl hL h4 (by decide) (by decide) rfl hz.app ?_
  refine c_arr (cl := 9) 184 hP (by rw [h0]; decide +kernel) rfl rfl rfl rfl hL h4 (by decide) (by decide) rfl hz.app ?_
  refine c_arr (cl := 9) 185 hP (by rw [h0]; decide +kernel) rfl rfl rfl rfl hL h4 (by decide) (by decide) rfl hz.app ?_
  refine c_arr (cl := 9) 186 hP (by rw [h0]; decide +kernel) rfl rfl rfl rfl hL h4 (by decide) (by decide) rfl hz.app ?_
  refine c_arr (cl := 9) 187 hP (by rw [h0]; decide +kernel) rfl rfl rfl rfl hL h4 (by decide) (by decide) rfl hz.app ?_
  refine c_arr (cl := 9) 188 hP (by rw [h0]; decide +kernel) rfl rfl rfl rfl hL h4 (by decide) (by decide) rfl hz.app ?_
  refine En_B (Y' := modT) (by decide +kernel) ?_
  have hM := KM_of h0
  obtain ⟨S, hSe⟩ : ∃ S, S = S0 ++ modT := ⟨_, rfl⟩
  rw [← hSe] at hM h ⊢
  have g172 : S[172]? = some (12, 25, [0, 174, 0, 175, 176, 177, 178, 179, 180, 181, 0, 0, 0, 182, 0, 183, 184, 185, 186, 187, 0, 188, 189, 0, 0]) := hM 172 (by decide) (by decide)
  have g179 : S[179]? = some (0, 24, []) := hM 179 (by decide) (by decide)
  have g174 : S[174]? = some (0, 12, []) := hM 174 (by decide) (by decide)
  have so1 : SO σ1 := (pI_so SO_0 pF1).1
  have so2 : SO σ2 := (pI_so so1 pF2).1
  have so3 : SO σ3 := (pI_so so2 pF3).1
  have so4 : SO σ4 := (pI_so so3 pF4).1
  have soF : SO σF := (pI_so so4 pF5).1
  have zr : ∀ M' : Mem, (∀ q, q < 172 → M' q = M q) → M' 172 0 = M 172 0 → True := fun _ _ _ => trivial
  clear zr
  refine e_ldR hP rfl rfl (by decide) ?_
  refine e_call (as := [.inr (.inr 173)]) (rest := []) hP rfl rfl rfl (by decide) (by decide) (rcv0 g172 (by decide)) (sq_begins hM (fun M1 a1 a2 a3 => ?_))
  show En 139 68 [some (.inr (.inr 173))] [] S M1 Q
  have z1 : ∀ q, q < 172 → M1 q = M q := fun q hq => a1 q (by omega) (by omega)
  have t1 : M1 172 0 = 0 := by rw [a1 172 (by decide) (by decide)]; exact hz 172 0 (by omega)
  refine e_ldR hP rfl rfl (by decide) ?_
  refine e_c hP rfl (e_c hP rfl (e_c hP rfl (e_c hP rfl (e_c hP rfl (e_c hP rfl ?_)))))
  refine e_call (as := [.inr (.inr 173), .inl 4, .inl 0, .inl 3, .inl 0, .inl 12, .inl 0]) (rest := []) hP rfl rfl rfl (by decide) (by decide) (rcv0 g172 (by decide)) (sq_spelled hM (fun M2 b1 b2 b3 c0 c1 c2 c3 c4 => ?_))
  show En 139 76 [some (.inr (.inr 173))] [] S M2 Q
  have m2 : MR M2 σ0 := MR_rows a3 (b1 _ (by decide) (by decide)) (b1 _ (by decide) (by decide)) (b1 _ (by decide) (by decide)) (b1 _ (by decide) (by decide)) (b1 _ (by decide) (by decide)) (b1 _ (by decide) (by decide))
  refine e_ldR hP rfl rfl (by decide) ?_
  refine e_c hP rfl (e_c hP rfl ?_)
  refine e_call (as := [.inr (.inr 173), .inl 5, .inl 9]) (rest := []) hP rfl rfl rfl (by decide) (by decide) (rcv0 g172 (by decide)) (sq_puts hM (i := 0) (m := 4) (f := fun k => tx (1 + k) - 97) σ_0s.1 (by decide) (by decide) m2 SO_0 b3 (fun k hk => ?_) (fun M3 d1 d2 => ?_))
  · match k, hk with
    | 0, _ => rw [c0]; decide
    | 1, _ => rw [c1]; decide
    | 2, _ => rw [c2]; decide
    | 3, _ => rw [c3]; decide
  show En 139 80 [some (.inr (.inr 173))] [] S M3 Q
  have z3 : ∀ q, q < 172 → M3 q = M q := fun q hq => by rw [d1 q (by omega) (by omega) (by omega) (by omega) (by omega), b1 q (by omega) (by omega)]; exact z1 q hq
  have t3 : M3 172 0 = 0 := by rw [d1 172 (by decide) (by decide) (by decide) (by decide) (by decide), b2 0 (by decide)]; exact t1
  clear a1 a2 a3 b1 b2 b3 c0 c1 c2 c3 c4 m2
  refine e_ldR hP rfl rfl (by decide) ?_
  refine e_c hP rfl (e_c hP rfl (e_c hP rfl (e_c hP rfl (e_c hP rfl (e_c hP rfl ?_)))))
  refine e_call (as := [.inr (.inr 173), .inl 5, .inl 16, .inl 20, .inl 8, .inl 13, .inl 13]) (rest := []) hP rfl rfl rfl (by decide) (by decide) (rcv0 g172 (by decide)) (sq_spelled hM (fun M2 b1 b2 b3 c0 c1 c2 c3 c4 => ?_))
  show En 139 88 [some (.inr (.inr 173))] [] S M2 Q
  have m2 : MR M2 σ1 := MR_rows d2 (b1 _ (by decide) (by decide)) (b1 _ (by decide) (by decide)) (b1 _ (by decide) (by decide)) (b1 _ (by decide) (by decide)) (b1 _ (by decide) (by decide)) (b1 _ (by decide) (by decide))
  refine e_ldR hP rfl rfl (by decide) ?_
  refine e_c hP rfl (e_c hP rfl ?_)
  refine e_call (as := [.inr (.inr 173), .inl 9, .inl 5]) (rest := []) hP rfl rfl rfl (by decide) (by decide) (rcv0 g172 (by decide)) (sq_puts hM (i := 1) (m := 5) (f := fun k => tx (11 + k) - 97) σ_0s.2.1 (by decide) (by decide) m2 so1 b3 (fun k hk => ?_) (fun M5 d1' d2' => ?_))
  · match k, hk with
    | 0, _ => rw [c0]; decide
    | 1, _ => rw [c1]; decide
    | 2, _ => rw [c2]; decide
    | 3, _ => rw [c3]; decide
    | 4, _ => rw [c4]; decide
  show En 139 92 [some (.inr (.inr 173))] [] S M5 Q
  have z5 : ∀ q, q < 172 → M5 q = M q := fun q hq => by rw [d1' q (by omega) (by omega) (by omega) (by omega) (by omega), b1 q (by omega) (by omega)]; exact z3 q hq
  have t5 : M5 172 0 = 0 := by rw [d1' 172 (by decide) (by decide) (by decide) (by decide) (by decide), b2 0 (by decide)]; exact t3
  clear b1 b2 b3 c0 c1 c2 c3 c4 m2 d1 d2 d1'
  refine e_ldR hP rfl rfl (by decide) ?_
  refine e_c hP rfl (e_c hP rfl (e_c hP rfl (e_c hP rfl (e_c hP rfl (e_c hP rfl ?_)))))
  refine e_call (as := [.inr (.inr 173), .inl 3, .inl 25, .inl 14, .inl 4, .inl 0, .inl 0]) (rest := []) hP rfl rfl rfl (by decide) (by decide) (rcv0 g172 (by decide)) (sq_spelled hM (fun M2 b1 b2 b3 c0 c1 c2 c3 c4 => ?_))
  show En 139 100 [some (.inr (.inr 173))] [] S M2 Q
  have m2 : MR M2 σ2 := MR_rows d2' (b1 _ (by decide) (by decide)) (b1 _ (by decide) (by decide)) (b1 _ (by decide) (by decide)) (b1 _ (by decide) (by decide)) (b1 _ (by decide) (by decide)) (b1 _ (by decide) (by decide))
  refine e_ldR hP rfl rfl (by decide) ?_
  refine e_c hP rfl (e_c hP rfl ?_)
  refine e_call (as := [.inr (.inr 173), .inl 8, .inl 30]) (rest := []) hP rfl rfl rfl (by decide) (by decide) (rcv0 g172 (by decide)) (sq_puts hM (i := 2) (m := 3) (f := fun k => tx (22 + k) - 97) σ_0s.2.2.1 (by decide) (by decide) m2 so2 b3 (fun k hk => ?_) (fun M6 d1 d2 => ?_))
  · match k, hk with
    | 0, _ => rw [c0]; decide
    | 1, _ => rw [c1]; decide
    | 2, _ => rw [c2]; decide
  show En 139 104 [some (.inr (.inr 173))] [] S M6 Q
  have z6 : ∀ q, q < 172 → M6 q = M q := fun q hq => by rw [d1 q (by omega) (by omega) (by omega) (by omega) (by omega), b1 q (by omega) (by omega)]; exact z5 q hq
  have t6 : M6 172 0 = 0 := by rw [d1 172 (by decide) (by decide) (by decide) (by decide) (by decide), b2 0 (by decide)]; exact t5
  clear b1 b2 b3 c0 c1 c2 c3 c4 m2 d1 d2'
  refine e_ldR hP rfl rfl (by decide) ?_
  refine e_c hP rfl (e_c hP rfl (e_c hP rfl (e_c hP rfl (e_c hP rfl (e_c hP rfl ?_)))))
  refine e_call (as := [.inr (.inr 173), .inl 0, .inl 0, .inl 0, .inl 0, .inl 0, .inl 0]) (rest := []) hP rfl rfl rfl (by decide) (by decide) (rcv0 g172 (by decide)) (sq_spelled hM (fun M2 b1 b2 b3 c0 c1 c2 c3 c4 => ?_))
  show En 139 112 [some (.inr (.inr 173))] [] S M2 Q
  have m2 : MR M2 σ3 := MR_rows d2 (b1 _ (by decide) (by decide)) (b1 _ (by decide) (by decide)) (b1 _ (by decide) (by decide)) (b1 _ (by decide) (by decide)) (b1 _ (by decide) (by decide)) (b1 _ (by decide) (by decide))
  refine e_ldR hP rfl rfl (by decide) ?_
  refine e_c hP rfl (e_c hP rfl ?_)
  refine e_call (as := [.inr (.inr 173), .inl 3, .inl 0]) (rest := []) hP rfl rfl rfl (by decide) (by decide) (rcv0 g172 (by decide)) (sq_puts hM (i := 3) (m := 0) (f := fun k => tx (32 + k) - 97) σ_0s.2.2.2.1 (by decide) (by decide) m2 so3 b3 (fun k hk => by omega) (fun M7 d1 d3 => ?_))
  show En 139 116 [some (.inr (.inr 173))] [] S M7 Q
  have z7 : ∀ q, q < 172 → M7 q = M q := fun q hq => by rw [d1 q (by omega) (by omega) (by omega) (by omega) (by omega), b1 q (by omega) (by omega)]; exact z6 q hq
  have t7 : M7 172 0 = 0 := by rw [d1 172 (by decide) (by decide) (by decide) (by decide) (by decide), b2 0 (by decide)]; exact t6
  have m7 : MR M7 σ4 := d3
  clear b1 b2 b3 c0 c1 c2 c3 c4 m2 d1 d2 d3
  refine e_ldR hP rfl rfl (by decide) ?_
  refine e_gR (a := 9) (w := 180) 172 g172 hP rfl (by decide) rfl ?_
  refine e_c hP rfl (e_c hP rfl ?_)
  refine e_as 179 g179 (by decide) hP rfl (by decide) ?_
  refine e_ldR hP rfl rfl (by decide) ?_
  refine e_gR (a := 9) (w := 180) 172 g172 hP rfl (by decide) rfl ?_
  refine e_c hP rfl (e_c hP rfl ?_)
  refine e_as 179 g179 (by decide) hP rfl (by decide) ?_
  refine e_ldR hP rfl rfl (by decide) ?_
  refine e_gR (a := 9) (w := 175) 172 g172 hP rfl (by decide) rfl ?_
  refine e_c hP rfl (e_c hP rfl ?_)
  refine e_as 174 g174 (by decide) hP rfl (by decide) ?_
  rw [show (12 : Int).toNat = 12 from rfl, show (13 : Int).toNat = 13 from rfl, show (10 : Int).toNat = 10 from rfl]
  obtain ⟨M8, hM8⟩ : ∃ z, z = up2 (up2 (up2 M7 179 12 0) 179 13 16) 174 10 1 := ⟨_, rfl⟩
  rw [← hM8]
  have R8 : ∀ q, q ≠ 174 → q ≠ 179 → M8 q = M7 q := fun q a b => by rw [hM8, up2_row _ _ _ _ a, up2_row _ _ _ _ b, up2_row _ _ _ _ b]
  have R84 : ∀ k, M8 174 k = if k = 10 then 1 else M7 174 k := fun k => by rw [hM8, up2_at, up2_row _ _ _ _ (by decide), up2_row _ _ _ _ (by decide)]
  have R89 : M8 179 12 = 0 ∧ M8 179 13 = 16 := by rw [hM8]; simp [up2_any]
  have m8 : MR M8 σF := by
    obtain ⟨⟨a0, a1, a2, a3, a4, a5⟩, b1, b2, b3⟩ := m7
    have e5 : σ4 5 = 0 := σ_0s.2.2.2.2
    have o : ∀ j, j ≠ 5 → j ≠ 120 → j ≠ 121 → σF j = σ4 j := fun j h1 h2 h3 => by show putQ σ4 (lf tx 38) j = σ4 j; unfold putQ; rw [e5, if_neg h1, if_neg (by simp; exact h2), if_neg (by simp; exact h3)]
    have eF : σF 5 = 1 ∧ σF 120 = 0 ∧ σF 121 = 16 := by decide +kernel
    have s0 := so4.1
    refine ⟨⟨by rw [R84, if_neg (by decide), o 0 (by decide) (by decide) (by decide)]; exact a0, by rw [R84, if_neg (by decide), o 1 (by decide) (by decide) (by decide)]; exact a1, by rw [R84, if_neg (by decide), o 2 (by decide) (by decide) (by decide)]; exact a2, by rw [R84, if_neg (by decide), o 3 (by decide) (by decide) (by decide)]; exact a3, by rw [R84, if_neg (by decide), o 4 (by decide) (by decide) (by decide)]; exact a4, by rw [R84, if_pos rfl]; exact eF.1.symm⟩, fun i hi => ?_, fun x hx => ?_, fun k hk => ?_⟩
    · rw [o 0 (by decide) (by decide) (by decide)] at hi
      have b := b1 i hi
      have sj := so4.2.2.2.2.2.2.1 i hi
      rw [R8 176 (by decide) (by decide), R8 175 (by decide) (by decide), R8 177 (by decide) (by decide), o (10 + i) (by omega) (by omega) (by omega), o (70 + i) (by omega) (by omega) (by omega), o (80 + i) (by omega) (by omega) (by omega)]
      exact ⟨b.1, b.2.1, b.2.2.1, fun k hk => by rw [o _ (by omega) (by omega) (by omega)]; exact b.2.2.2 k hk⟩
    · rw [R8 178 (by decide) (by decide), o _ (by omega) (by omega) (by omega)]; exact b2 x hx
    · have k0 : k = 0 := by rw [eF.1] at hk; omega
      subst k0
      exact ⟨by rw [show 12 + 2 * 0 = 12 from rfl, show 120 + 2 * 0 = 120 from rfl, R89.1, eF.2.1], by rw [show 13 + 2 * 0 = 13 from rfl, show 121 + 2 * 0 = 121 from rfl, R89.2, eF.2.2]⟩
  refine e_ldR hP rfl rfl (by decide) ?_
  refine e_call (as := [.inr (.inr 173)]) (rest := []) hP rfl rfl rfl (by decide) (by decide) (rcv0 g172 (by decide)) (sq_takes hM m8 soF (fun M9 k9 => ?_))
  show En 139 133 [some (.inr (.inr 173))] [] S M9 Q
  refine e_retv hP rfl (h M9 (fun q hq => ?_) ?_ ⟨M8, k9⟩)
  · rw [k9.1 q (by omega) (by omega) (by omega) (by omega) (by omega), R8 q (by omega) (by omega)]; exact z7 q hq
  · rw [k9.2.1 0 (by decide) (by decide) (by decide) (by decide), R8 172 (by decide) (by decide)]; exact t7
end MBorn
