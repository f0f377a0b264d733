/-! THE LINE: a copy of the town, keys, what one gets by a key -/
def tlen (j : Nat) : Nat := [5, 8, 48, 8, 8, 8, 8, 64, 26, 26, 26].getD j 0
/-- the town o has been copied into the town t -/
def Cp (M M' : Mem) (t o : Nat) : Prop := (∀ q, ¬ (t ≤ q ∧ q ≤ t + 10) → M' q = M q) ∧ ∀ j, j ≤ 10 → ∀ k, k < tlen j → M' (t + j) k = M (o + j) k
theorem tw_far : ∀ t, t ∈ bx_tw → ∀ o, o ∈ bx_tw → t ≠ o → o + 10 < t ∨ t + 10 < o := by decide
theorem cp_up {M0 M : Mem} {t o : Nat} (hd : o + 10 < t ∨ t + 10 < o) {k : Nat} (h : (∀ q, q ≠ t → M0 q = M q) ∧ ∀ i, i < k → M0 t i = M o i) : (∀ q, q ≠ t → up2 M0 t k (M0 o k) q = M q) ∧ ∀ i, i < k + 1 → up2 M0 t k (M0 o k) t i = M o i := by
  have ho : o ≠ t := by omega
  refine ⟨fun q hq => by rw [up2_ne _ _ _ _ q hq]; exact h.1 q hq, fun i hi => ?_⟩
  rw [up2_at]
  by_cases hik : i = k
  · rw [if_pos hik, h.1 o ho, hik]
  · rw [if_neg hik]; exact h.2 i (by omega)
theorem cp_cp {M0 M : Mem} {t o j n : Nat} (hd : o + 10 < t ∨ t + 10 < o) (hj : j < 10) (hn : n = tlen (j + 1)) (h : (∀ q, ¬ (t ≤ q ∧ q ≤ t + j) → M0 q = M q) ∧ ∀ i, i ≤ j → ∀ k, k < tlen i → M0 (t + i) k = M (o + i) k) : (∀ q, ¬ (t ≤ q ∧ q ≤ t + (j + 1)) → bi_cpy M0 (o + (j + 1)) 0 (t + (j + 1)) 0 n q = M q) ∧ ∀ i, i ≤ j + 1 → ∀ k, k < tlen i → bi_cpy M0 (o + (j + 1)) 0 (t + (j + 1)) 0 n (t + i) k = M (o + i) k := by
  refine ⟨fun q hq => ?_, fun i hi k hk => ?_⟩
  · rw [bi_cpy_ne _ _ _ _ _ _ q (by omega)]
    exact h.1 q (by omega)
  · by_cases hij : i = j + 1
    · subst hij
      unfold bi_cpy
      rw [if_pos ⟨rfl, by omega, by omega⟩]
      have := h.1 (o + (j + 1)) (by omega)
      rw [this]
      congr 1
      omega
    · rw [bi_cpy_ne _ _ _ _ _ _ (t + i) (by omega)]
      exact h.2 i (by omega) k hk
theorem sp_copyFrom {S : Shp} {M : Mem} {Q : Res → Prop} (hS : KC S) {t o : Nat} (ht : t ∈ bx_tw) (ho : o ∈ bx_tw) (hne : t ≠ o) (h : ∀ M', Cp M M' t o → Q (S, M', none)) : Ca 65 [.inr (.inr (t + 1)), .inr (.inr (o + 1))] S M Q := by
  apply r_X7_copyFrom_0 hS ht ho
  apply h
  have hd := tw_far t ht o ho hne
  have h0 : (∀ q, q ≠ t → M q = M q) ∧ ∀ i, i < 0 → M t i = M o i := ⟨fun _ _ => rfl, fun i hi => absurd hi (by omega)⟩
  have h5 := cp_up hd (cp_up hd (cp_up hd (cp_up hd (cp_up hd h0))))
  refine cp_cp (j := 9) hd (by omega) rfl (cp_cp (j := 8) hd (by omega) rfl (cp_cp (j := 7) hd (by omega) rfl (cp_cp (j := 6) hd (by omega) rfl (cp_cp (j := 5) hd (by omega) rfl (cp_cp (j := 4) hd (by omega) rfl (cp_cp (j := 3) hd (by omega) rfl (cp_cp (j := 2) hd (by omega) rfl (cp_cp (j := 1) hd (by omega) rfl (cp_cp (j := 0) hd (by omega) rfl ⟨fun q hq => h5.1 q (by omega), fun i hi k hk => ?_⟩)))))))))
  have e : i = 0 := by omega
  subst e
  exact h5.2 k hk
/-- who is before one with a key -/
def lbef (K : Nat → Int) (i : Nat) (key : Int) (j : Nat) : Prop := j ≠ i ∧ ¬ (key < K j ∨ (key = K j ∧ i < j))
def lbefD (K : Nat → Int) (i : Nat) (key : Int) (j : Nat) : Bool := decide (j ≠ i) && !(decide (key < K j) || (decide (key = K j) && decide (i < j)))
def lsum (K W : Nat → Int) (i : Nat) (key : Int) : Nat → Int
  | 0 => 0
  | j + 1 => lsum K W i key j + (if lbefD K i key j then W j else 0)
def lcnt (K : Nat → Int) (i : Nat) (key : Int) : Nat → Int
  | 0 => 0
  | j + 1 => lcnt K i key j + (if lbefD K i key j then 1 else 0)
/-- at least 0, at most what he wants, what is left else -/
def lget (w left : Int) : Int := if 0 < (if w < left then w else left) then (if w < left then w else left) else 0
def LnS (M : Mem) (n : Nat) : Prop := M 146 0 = n ∧ n ≤ 8 ∧ (0 ≤ M 146 1 ∧ M 146 1 ≤ 99) ∧ (0 ≤ M 146 3 ∧ M 146 3 ≤ 9) ∧ ∀ i, i < n → 0 ≤ M 149 i ∧ M 149 i ≤ 9
theorem lsum_in {K W : Nat → Int} {i : Nat} {key : Int} : ∀ {n : Nat}, (∀ j, j < n → 0 ≤ W j ∧ W j ≤ 9) → 0 ≤ lsum K W i key n ∧ lsum K W i key n ≤ 9 * n := by
  intro n
  induction n with
  | zero => intro _; exact ⟨Int.le_refl 0, Int.le_refl 0⟩
  | succ n ih =>
    intro h
    have h1 := ih (fun j hj => h j (by omega))
    have h2 := h n (by omega)
    rw [lsum]
    split <;> omega
theorem lcnt_in {K : Nat → Int} {i : Nat} {key : Int} : ∀ (n : Nat), 0 ≤ lcnt K i key n ∧ lcnt K i key n ≤ n := by
  intro n
  induction n with
  | zero => exact ⟨Int.le_refl 0, Int.le_refl 0⟩
  | succ n ih => rw [lcnt]; split <;> omega
theorem lget_in {w l : Int} (h : 0 ≤ w ∧ w ≤ 9) : 0 ≤ lget w l ∧ lget w l ≤ 9 := by unfold lget; split <;> (try split) <;> omega
section Line
variable {S : Shp} {M : Mem} {Q : Res → Prop}
theorem sp_isAhead (hS : KC S) {j i : Nat} {key : Int} (hj : j < 8) (h : Q (S, M, some (.inl (if key < M 145 j ∨ (key = M 145 j ∧ i < j) then 1 else 0)))) : Ca 15 [.inr (.inr 145), .inl (j : Int), .inl (i : Int), .inl key] S M Q := by
  apply r_X2_isAhead_0 hS
  simp only [Int.toNat_natCast]
  grind
theorem lbefD_iff {K : Nat → Int} {i : Nat} {key : Int} {j : Nat} : lbefD K i key j = true ↔ j ≠ i ∧ ¬ (key < K j ∨ (key = K j ∧ i < j)) := by
  unfold lbefD
  simp only [Bool.and_eq_true, Bool.not_eq_true', Bool.or_eq_false_iff, decide_eq_true_eq, decide_eq_false_iff_not, Bool.and_eq_false_iff]
  constructor
  · rintro ⟨h1, h2, h3⟩; exact ⟨h1, by omega⟩
  · rintro ⟨h1, h2⟩; exact ⟨h1, by omega, by omega⟩
theorem getsBy_loop (hS : KC S) {n : Nat} (hn : LnS M n) {i : Nat} {key : Int} (hi : i < n) (h : Q (S, M, some (.inl (lget (M 149 i) (M 146 1 - lsum (M 145) (M 149) i key n))))) : ∀ d j, j + d = n → En 17 6 [some (.inr (.inr 145)), some (.inl (i : Int)), some (.inl key), some (.inl (M 146 1 - lsum (M 145) (M 149) i key j)), some (.inl (j : Int))] [] S M Q := by
  obtain ⟨h1, h2, h3, h4, h5⟩ := hn
  intro d
  induction d with
  | zero =>
    intro j hj
    have e : j = n := by omega
    subst e
    apply r_X2_getsBy_6 hS
    simp only [Int.toNat_natCast]
    exact ⟨fun _ => ⟨by omega, h⟩, fun q => by omega⟩
  | succ d ih =>
    intro j hj
    have hs := lsum_in (K := M 145) (W := M 149) (i := i) (key := key) (n := j) (fun k hk => h5 k (by omega))
    have hw := h5 j (by omega)
    have ej : ((j : Int) + 1) = ((j + 1 : Nat) : Int) := by omega
    have ih := ih (j + 1) (by omega)
    rw [lsum] at ih
    apply r_X2_getsBy_6 hS
    simp only [Int.toNat_natCast, inR]
    refine ⟨fun q => by omega, fun _ => ⟨fun q => ⟨by omega, ?_⟩, fun q => sp_isAhead hS (by omega) ⟨_, _, rfl, ?_⟩⟩⟩
    · have hb : ¬ lbefD (M 145) i key j = true := fun z => (lbefD_iff.mp z).1 (by omega)
      rw [if_neg hb, Int.add_zero] at ih
      rw [ej]; exact ih
    · by_cases hb : lbefD (M 145) i key j = true
      · rw [if_pos hb] at ih
        rw [if_neg (lbefD_iff.mp hb).2]
        refine ⟨fun z => absurd rfl z, fun _ => ⟨by omega, by omega, by omega, ?_⟩⟩
        rw [ej, Int.sub_sub]; exact ih
      · rw [if_neg hb, Int.add_zero] at ih
        rw [if_pos (Decidable.byContradiction fun z => hb (lbefD_iff.mpr ⟨by omega, z⟩))]
        refine ⟨fun _ => ⟨by omega, ?_⟩, fun z => absurd z (by decide)⟩
        rw [ej]; exact ih
theorem sp_getsBy (hS : KC S) {n : Nat} (hn : LnS M n) {i : Nat} {key : Int} (hi : i < n) (h : Q (S, M, some (.inl (lget (M 149 i) (M 146 1 - lsum (M 145) (M 149) i key n))))) : Ca 17 [.inr (.inr 145), .inl (i : Int), .inl key] S M Q := by
  apply r_X2_getsBy_0 hS
  have := getsBy_loop hS hn hi h n 0 (by omega)
  rw [lsum, Int.sub_zero] at this
  exact this
theorem sp_getsNow (hS : KC S) {n : Nat} (hn : LnS M n) {i : Nat} (hi : i < n) (h : Q (S, M, some (.inl (lget (M 149 i) (M 146 1 - lsum (M 145) (M 149) i (M 145 i) n))))) : Ca 18 [.inr (.inr 145), .inl (i : Int)] S M Q := by
  apply r_X2_getsNow_0 hS
  simp only [Int.toNat_natCast]
  exact ⟨by have := hn.2.1; omega, sp_getsBy hS hn hi ⟨_, _, rfl, h⟩⟩
theorem placeOf_loop (hS : KC S) {n : Nat} (hn : LnS M n) {i : Nat} (hi : i < n) (h : Q (S, M, some (.inl (lcnt (M 145) i (M 145 i) n)))) : ∀ d j, j + d = n → En 16 4 [some (.inr (.inr 145)), some (.inl (i : Int)), some (.inl (lcnt (M 145) i (M 145 i) j)), some (.inl (j : Int))] [] S M Q := by
  obtain ⟨h1, h2, h3, h4, h5⟩ := hn
  intro d
  induction d with
  | zero =>
    intro j hj
    have e : j = n := by omega
    subst e
    apply r_X2_placeOf_4 hS
    exact ⟨fun _ => h, fun q => by omega⟩
  | succ d ih =>
    intro j hj
    have hs := lcnt_in (K := M 145) (i := i) (key := M 145 i) j
    have ej : ((j : Int) + 1) = ((j + 1 : Nat) : Int) := by omega
    have ih := ih (j + 1) (by omega)
    rw [lcnt] at ih
    apply r_X2_placeOf_4 hS
    simp only [Int.toNat_natCast, inR]
    refine ⟨fun q => by omega, fun _ => ⟨fun q => ⟨by omega, by omega, ?_⟩, fun q => ⟨by omega, sp_isAhead hS (by omega) ⟨_, _, rfl, ?_⟩⟩⟩⟩
    · have hb : ¬ lbefD (M 145) i (M 145 i) j = true := fun z => (lbefD_iff.mp z).1 (by omega)
      rw [if_neg hb] at ih
      rw [ej]; exact ih
    · by_cases hb : lbefD (M 145) i (M 145 i) j = true
      · rw [if_pos hb] at ih
        rw [if_neg (lbefD_iff.mp hb).2]
        refine ⟨fun z => absurd rfl z, fun _ => ⟨by omega, by omega, ?_⟩⟩
        rw [ej]; exact ih
      · rw [if_neg hb] at ih
        rw [if_pos (Decidable.byContradiction fun z => hb (lbefD_iff.mpr ⟨by omega, z⟩))]
        refine ⟨fun _ => ⟨by omega, by omega, ?_⟩, fun z => absurd z (by decide)⟩
        rw [ej]; exact ih
theorem sp_placeOf (hS : KC S) {n : Nat} (hn : LnS M n) {i : Nat} (hi : i < n) (h : Q (S, M, some (.inl (lcnt (M 145) i (M 145 i) n)))) : Ca 16 [.inr (.inr 145), .inl (i : Int)] S M Q := by
  apply r_X2_placeOf_0 hS
  exact placeOf_loop hS hn hi h n 0 (by omega)
/-- how many of the first m get all they want -/
def lfull (K W : Nat → Int) (goods : Int) (n : Nat) : Nat → Int
  | 0 => 0
  | i + 1 => lfull K W goods n i + (if lget (W i) (goods - lsum K W i (K i) n) = W i then 1 else 0)
theorem lfull_in {K W : Nat → Int} {goods : Int} {n : Nat} : ∀ m : Nat, 0 ≤ lfull K W goods n m ∧ lfull K W goods n m ≤ m := by
  intro m
  induction m with
  | zero => exact ⟨Int.le_refl 0, Int.le_refl 0⟩
  | succ m ih => rw [lfull]; split <;> omega
theorem countFull_loop (hS : KC S) {n : Nat} (hn : LnS M n) (h : Q (S, M, some (.inl (lfull (M 145) (M 149) (M 146 1) n n)))) : ∀ d i, i + d = n → En 19 4 [some (.inr (.inr 145)), some (.inl (lfull (M 145) (M 149) (M 146 1) n i)), some (.inl (i : Int))] [] S M Q := by
  have h1 := hn.1
  have h2 := hn.2.1
  intro d
  induction d with
  | zero =>
    intro i hi
    have e : i = n := by omega
    subst e
    apply r_X2_countFull_4 hS
    exact ⟨fun _ => h, fun q => by omega⟩
  | succ d ih =>
    intro i hi
    have hs := lfull_in (K := M 145) (W := M 149) (goods := M 146 1) (n := n) i
    have ej : ((i : Int) + 1) = ((i + 1 : Nat) : Int) := by omega
    have ih := ih (i + 1) (by omega)
    rw [lfull] at ih
    apply r_X2_countFull_4 hS
    simp only [Int.toNat_natCast, inR]
    refine ⟨fun q => by omega, fun _ => sp_getsNow hS hn (by omega) ⟨_, _, rfl, by omega, fun q => ?_, fun q => ?_⟩⟩
    · rw [if_neg q] at ih
      exact ⟨by omega, by omega, by rw [ej]; exact ih⟩
    · rw [if_pos q] at ih
      exact ⟨by omega, by omega, by rw [ej]; exact ih⟩
theorem sp_countFull (hS : KC S) {n : Nat} (hn : LnS M n) (h : Q (S, M, some (.inl (lfull (M 145) (M 149) (M 146 1) n n)))) : Ca 19 [.inr (.inr 145)] S M Q := by
  apply r_X2_countFull_0 hS
  exact countFull_loop hS hn h n 0 (by omega)
end Line
