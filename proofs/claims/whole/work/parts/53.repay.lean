/-! repay, lend: coins go from one to another, a debt changes -/
/-- a sum of coins when n of them go from a to b -/
theorem sumB_two {W V : Nat → Int} {a b : Nat} {c : Int} (hab : a ≠ b) (ha : V a = W a - c) (hb : V b = W b + c) (ho : ∀ k, k ≠ a → k ≠ b → V k = W k) : ∀ m, sumB (fun _ => true) V m = sumB (fun _ => true) W m - (if a < m then c else 0) + (if b < m then c else 0) := by
  intro m
  induction m with
  | zero => rw [if_neg (by omega), if_neg (by omega)]; rfl
  | succ m ih =>
    rw [sumB, sumB, if_pos rfl, if_pos rfl, ih]
    by_cases h1 : m = a
    · subst h1
      rw [if_neg (by omega : ¬ m < m), if_pos (by omega : m < m + 1), ha]
      by_cases h2 : b < m
      · rw [if_pos h2, if_pos (by omega : b < m + 1)]; omega
      · rw [if_neg h2, if_neg (by omega : ¬ b < m + 1)]; omega
    · by_cases h2 : m = b
      · subst h2
        rw [if_neg (by omega : ¬ m < m), if_pos (by omega : m < m + 1), hb]
        by_cases h3 : a < m
        · rw [if_pos h3, if_pos (by omega : a < m + 1)]; omega
        · rw [if_neg h3, if_neg (by omega : ¬ a < m + 1)]; omega
      · rw [ho m h1 h2]
        by_cases h3 : a < m
        · rw [if_pos h3, if_pos (by omega : a < m + 1)]
          by_cases h4 : b < m
          · rw [if_pos h4, if_pos (by omega : b < m + 1)]; omega
          · rw [if_neg h4, if_neg (by omega : ¬ b < m + 1)]; omega
        · rw [if_neg h3, if_neg (by omega : ¬ a < m + 1)]
          by_cases h4 : b < m
          · rw [if_pos h4, if_pos (by omega : b < m + 1)]; omega
          · rw [if_neg h4, if_neg (by omega : ¬ b < m + 1)]; omega
theorem sumB_ge {W : Nat → Int} {m : Nat} (h : ∀ k, k < m → 0 ≤ W k) {a : Nat} (ha : a < m) : W a ≤ sumB (fun _ => true) W m ∧ 0 ≤ sumB (fun _ => true) W m := by
  induction m with
  | zero => omega
  | succ m ih =>
    rw [sumB, if_pos rfl]
    have hm := h m (by omega)
    have nn : 0 ≤ sumB (fun _ => true) W m := by
      clear ih ha
      have : ∀ j, j ≤ m → 0 ≤ sumB (fun _ => true) W j := by
        intro j
        induction j with
        | zero => intro _; exact Int.le_refl 0
        | succ j ij => intro hj; rw [sumB, if_pos rfl]; have := ij (by omega); have := h j (by omega); omega
      exact this m (Nat.le_refl m)
    by_cases e : a = m
    · subst e; omega
    · have := ih (fun k hk => h k (by omega)) (by omega)
      omega
section Repay
variable {S : Shp} {M : Mem} {Q : Res → Prop}
theorem sp_pay (hS : KC S) {a b : Nat} {c : Int} (ha : a < 8) (hb : b < 8) (hab : a ≠ b) (hx : 0 ≤ M 12 a ∧ M 12 a ≤ 800) (hy : 0 ≤ M 12 b ∧ M 12 b ≤ 800) (hc : 0 ≤ c ∧ c ≤ 99) (h : ∀ M', (∀ q, q ≠ 12 → M' q = M q) → (∀ z, M' 12 z = if z = b then M 12 b + c else if z = a then M 12 a - c else M 12 z) → Q (S, M', none)) : Ca 87 [.inr (.inr 9), .inl (a : Int), .inl (b : Int), .inl c] S M Q := by
  refine r_X7_pay_0 (t := 8) hS (by decide) ?_
  rw [Int.toNat_natCast, Int.toNat_natCast]
  have e : up2 M (8 + 4) a (M (8 + 4) a - c) (8 + 4) b = M 12 b := by rw [up2_any, if_neg (by omega)]
  rw [e]
  refine ⟨by omega, by show inR (M 12 a - c); unfold inR; omega, by omega, by omega, by unfold inR; omega, by omega, h _ (fun q hq => ?_) (fun z => ?_)⟩
  · rw [up2_row _ _ _ _ hq, up2_row _ _ _ _ hq]
  · show up2 (up2 M 12 a (M 12 a - c)) 12 b (M 12 b + c) 12 z = _
    rw [up2_any, up2_any]
    simp
theorem sp_setDebt (hS : KC S) {a b : Nat} {c : Int} (ha : a < 8) (hb : b < 8) (h : ∀ M', (∀ q, q ≠ 15 → M' q = M q) → (∀ z, M' 15 z = if z = 8 * a + b then c else M 15 z) → Q (S, M', none)) : Ca 89 [.inr (.inr 9), .inl (a : Int), .inl (b : Int), .inl c] S M Q := by
  refine r_X7_setDebt_0 (t := 8) hS (by decide) ?_
  have e : (((a : Int) * 8) + b).toNat = 8 * a + b := by omega
  rw [e]
  refine ⟨by unfold inR; omega, by unfold inR; omega, by omega, h _ (fun q hq => ?_) (fun z => ?_)⟩
  · rw [up2_row _ _ _ _ hq]
  · show up2 M 15 (8 * a + b) c 15 z = _
    rw [up2_any]
    simp
/-- the town after c coins went from a to b and the debt of y to x is d, in class and reference -/
theorem TT_pay {M M4 : Mem} {n a b x y : Nat} {c d : Int} (hT : Tn M 8 0 n) (ha : a < n) (hb : b < n) (hab : a ≠ b) (hx : x < n) (hy : y < n) (hc : 0 ≤ c ∧ c ≤ M 180 (56 + a)) (hd : 0 ≤ d ∧ d ≤ 999)
    (E : ∀ q, 8 ≤ q → q ≤ 18 → q ≠ 12 → q ≠ 15 → M4 q = M q) (E4 : M4 174 = M 174) (E5 : M4 175 = M 175) (E9 : M4 179 = M 179)
    (c12 : ∀ z, M4 12 z = if z = b then M 12 b + c else if z = a then M 12 a - c else M 12 z) (c15 : ∀ z, M4 15 z = if z = 8 * x + y then d else M 15 z)
    (s : ∀ j, j < 170 → M4 180 j = if j = 80 + 8 * y + x then d else if j = 56 + b then M 180 (56 + b) + c else if j = 56 + a then M 180 (56 + a) - c else M 180 j) : Tn M4 8 0 n := by
  obtain ⟨t0, t1, t2, t3, t4, t5, t6, t7, t8, t9, t10⟩ := Tn_TT hT
  have s1 : ∀ j, j < 170 → (j < 56 ∨ 64 ≤ j) → (j < 80 ∨ 144 ≤ j) → M4 180 j = M 180 j := fun j hj h1 h2 => by rw [s j hj, if_neg (by omega), if_neg (by omega), if_neg (by omega)]
  have s2 : ∀ z, z < 8 → M4 180 (56 + z) = if z = b then M 180 (56 + b) + c else if z = a then M 180 (56 + a) - c else M 180 (56 + z) := fun z hz => by
    rw [s (56 + z) (by omega), if_neg (by omega)]
    by_cases h1 : z = b
    · rw [if_pos (by omega : 56 + z = 56 + b), if_pos h1]
    · rw [if_neg (by omega : ¬ 56 + z = 56 + b), if_neg h1]
      by_cases h2 : z = a
      · rw [if_pos (by omega : 56 + z = 56 + a), if_pos h2]
      · rw [if_neg (by omega : ¬ 56 + z = 56 + a), if_neg h2]
  refine ⟨(TT_iff M4 n).mpr ⟨t0, fun i hi => ?_, fun i k hi hk => ?_, fun i hi => ?_, ?_, fun i hi => ?_, fun i hi => ?_, fun i j hi hj => ?_, fun z hz => ?_, ?_, fun r hr' => ?_⟩, TC_mem (E 8 (by decide) (by decide) (by decide) (by decide)) (E 11 (by decide) (by decide) (by decide) (by decide)) (E 18 (by decide) (by decide) (by decide) (by decide)) E4 E5 E9 hT⟩
  · rw [E 9 (by decide) (by decide) (by decide) (by decide), s1 i (by omega) (by omega) (by omega)]; exact t1 i hi
  · rw [s1 i (by omega) (by omega) (by omega)] at hk
    have := (t1 i hi).2
    rw [E 10 (by decide) (by decide) (by decide) (by decide), s1 _ (by omega) (by omega) (by omega)]; exact t2 i k hi hk
  · have q1 := t3 i hi
    have q2 := t3 a ha
    have q3 := t3 b hb
    rw [c12 i, s2 i (by omega)]
    by_cases h1 : i = b
    · rw [if_pos h1, if_pos h1]; omega
    · rw [if_neg h1, if_neg h1]
      by_cases h2 : i = a
      · rw [if_pos h2, if_pos h2]; omega
      · rw [if_neg h2, if_neg h2]; exact q1
  · have : sumB (fun _ => true) (fun i => M4 180 (56 + i)) n = sumB (fun _ => true) (fun z => if z = b then M 180 (56 + b) + c else if z = a then M 180 (56 + a) - c else M 180 (56 + z)) n := sumB_eq n (fun k hk => s2 k (by omega))
    rw [this, sumB_two (W := fun i => M 180 (56 + i)) (a := a) (b := b) (c := c) hab (by rw [if_neg hab, if_pos rfl]) (by rw [if_pos rfl]) (fun k h1 h2 => by rw [if_neg h2, if_neg h1]) n, if_pos ha, if_pos hb]
    omega
  · rw [E 13 (by decide) (by decide) (by decide) (by decide), s1 _ (by omega) (by omega) (by omega)]; exact t5 i hi
  · rw [E 14 (by decide) (by decide) (by decide) (by decide), s1 _ (by omega) (by omega) (by omega)]; exact t6 i hi
  · rw [c15, s (80 + 8 * j + i) (by omega)]
    by_cases h1 : i = x ∧ j = y
    · rw [if_pos (by omega : 8 * i + j = 8 * x + y), if_pos (by omega : 80 + 8 * j + i = 80 + 8 * y + x)]; exact ⟨rfl, hd⟩
    · rw [if_neg (by omega : ¬ 8 * i + j = 8 * x + y), if_neg (by omega : ¬ 80 + 8 * j + i = 80 + 8 * y + x), if_neg (by omega : ¬ 80 + 8 * j + i = 56 + b), if_neg (by omega : ¬ 80 + 8 * j + i = 56 + a)]; exact t7 i j hi hj
  · rw [E 16 (by decide) (by decide) (by decide) (by decide), s1 _ (by omega) (by omega) (by omega)]; exact t8 z hz
  · refine ⟨fun z hz => ?_, fun z w hz hw e => ?_⟩
    · show 0 ≤ M4 180 (144 + z) ∧ M4 180 (144 + z) < 26
      rw [s1 _ (by omega) (by omega) (by omega)]; exact t9.1 z hz
    · have e' : M4 180 (144 + z) = M4 180 (144 + w) := e
      rw [s1 _ (by omega) (by omega) (by omega), s1 _ (by omega) (by omega) (by omega)] at e'
      exact t9.2 z w hz hw e'
  · rw [E 17 (by decide) (by decide) (by decide) (by decide), E 16 (by decide) (by decide) (by decide) (by decide)]; exact t10 r hr'
end Repay
