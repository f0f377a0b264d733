/-! Integer.bitCount -/
theorem and_split {a b m k : Nat} (ha : a < 256) (hm : m < 256) : (a + 256 * b) &&& (m + 256 * k) = (a &&& m) + 256 * (b &&& k) := by
  have h1 := Nat.and_mod_two_pow (a := a + 256 * b) (b := m + 256 * k) (n := 8)
  have h2 := Nat.and_div_two_pow (a := a + 256 * b) (b := m + 256 * k) (n := 8)
  rw [show (2 : Nat) ^ 8 = 256 from rfl] at h1 h2
  rw [show (a + 256 * b) % 256 = a by omega, show (m + 256 * k) % 256 = m by omega] at h1
  rw [show (a + 256 * b) / 256 = b by omega, show (m + 256 * k) / 256 = k by omega] at h2
  have := Nat.mod_add_div ((a + 256 * b) &&& (m + 256 * k)) 256
  omega
def w1 (c x : Nat) : Nat := x - (x / 2 &&& c)
def w2 (c x : Nat) : Nat := (x &&& c) + (x / 4 &&& c)
def w3 (c x : Nat) : Nat := (x + x / 16) &&& c
theorem w_d1 : ∀ a, a < 256 → ∀ r, r < 2 → (a / 2 + 128 * r) &&& 85 = a / 2 &&& 85 := by decide +kernel
theorem w_d2 : ∀ a, a < 256 → ∀ r, r < 4 → (a / 4 + 64 * r) &&& 51 = a / 4 &&& 51 := by decide +kernel
theorem w_d3 : ∀ a, a < 69 → ∀ r, r < 5 → (a + a / 16 + 16 * r) &&& 15 = (a + a / 16) &&& 15 := by decide +kernel
theorem w_d4 : ∀ a, a < 256 → w1 85 a < 256 ∧ w2 51 (w1 85 a) < 69 ∧ w2 51 (w1 85 a) % 16 < 5 ∧ w3 15 (w2 51 (w1 85 a)) + ce a 8 = 8 := by decide +kernel
theorem w1_split {a b k : Nat} (ha : a < 256) : w1 (85 + 256 * k) (a + 256 * b) = w1 85 a + 256 * w1 k b := by
  unfold w1
  have e : (a + 256 * b) / 2 = (a / 2 + 128 * (b % 2)) + 256 * (b / 2) := by omega
  rw [e, and_split (by omega) (by omega), w_d1 a ha (b % 2) (by omega)]
  have p : a / 2 &&& 85 ≤ a / 2 := Nat.and_le_left
  have q : b / 2 &&& k ≤ b / 2 := Nat.and_le_left
  omega
theorem w2_split {a b k : Nat} (ha : a < 256) : w2 (51 + 256 * k) (a + 256 * b) = w2 51 a + 256 * w2 k b := by
  unfold w2
  have e : (a + 256 * b) / 4 = (a / 4 + 64 * (b % 4)) + 256 * (b / 4) := by omega
  rw [e, and_split ha (by omega), and_split (by omega) (by omega), w_d2 a ha (b % 4) (by omega)]
  omega
theorem w3_split {a b k : Nat} (ha : a < 69) (hb : b % 16 < 5) : w3 (15 + 256 * k) (a + 256 * b) = w3 15 a + 256 * w3 k b := by
  unfold w3
  have e : (a + 256 * b) + (a + 256 * b) / 16 = (a + a / 16 + 16 * (b % 16)) + 256 * (b + b / 16) := by omega
  rw [e, and_split (by omega) (by omega), w_d3 a ha (b % 16) hb]
/-- what the method computes -/
def pcn (x : Nat) : Nat := ((w3 252645135 (w2 858993459 (w1 1431655765 x)) + w3 252645135 (w2 858993459 (w1 1431655765 x)) / 256) + (w3 252645135 (w2 858993459 (w1 1431655765 x)) + w3 252645135 (w2 858993459 (w1 1431655765 x)) / 256) / 65536) &&& 63
theorem ce_split (x m : Nat) : ∀ n, ce x (m + n) = ce x m + ce (x / 2 ^ m) n := by
  intro n
  induction n with
  | zero => rfl
  | succ n ih =>
    rw [← Nat.add_assoc, ce, ce, ih, Nat.testBit_div_two_pow, Nat.add_assoc, Nat.add_comm n m]
theorem ce_mod (x m : Nat) : ∀ n, n ≤ m → ce (x % 2 ^ m) n = ce x n := by
  intro n
  induction n with
  | zero => intro _; rfl
  | succ n ih =>
    intro h
    rw [ce, ce, ih (by omega), Nat.testBit_mod_two_pow]
    simp [show n < m by omega]
theorem pcn_ce {x : Nat} (hx : x < 4294967296) : pcn x + ce x 32 = 32 := by
  obtain ⟨a0, h0⟩ : ∃ a, a = x % 256 := ⟨_, rfl⟩
  obtain ⟨a1, h1⟩ : ∃ a, a = x / 256 % 256 := ⟨_, rfl⟩
  obtain ⟨a2, h2⟩ : ∃ a, a = x / 65536 % 256 := ⟨_, rfl⟩
  obtain ⟨a3, h3⟩ : ∃ a, a = x / 16777216 := ⟨_, rfl⟩
  have ex : x = a0 + 256 * (a1 + 256 * (a2 + 256 * a3)) := by omega
  have l0 : a0 < 256 := by omega
  have l1 : a1 < 256 := by omega
  have l2 : a2 < 256 := by omega
  have l3 : a3 < 256 := by omega
  have cc : ce x 32 = ce a0 8 + ce a1 8 + ce a2 8 + ce a3 8 := by
    have s1 := ce_split x 8 24
    have s2 := ce_split (x / 2 ^ 8) 8 16
    have s3 := ce_split (x / 2 ^ 8 / 2 ^ 8) 8 8
    rw [show 8 + 24 = 32 from rfl] at s1
    rw [show 8 + 16 = 24 from rfl] at s2
    rw [show 8 + 8 = 16 from rfl] at s3
    have m0 := ce_mod x 8 8 (Nat.le_refl 8)
    have m1 := ce_mod (x / 2 ^ 8) 8 8 (Nat.le_refl 8)
    have m2 := ce_mod (x / 2 ^ 8 / 2 ^ 8) 8 8 (Nat.le_refl 8)
    have e0 : x % 2 ^ 8 = a0 := by rw [show (2 : Nat) ^ 8 = 256 from rfl]; omega
    have e1 : x / 2 ^ 8 % 2 ^ 8 = a1 := by rw [show (2 : Nat) ^ 8 = 256 from rfl]; omega
    have e2 : x / 2 ^ 8 / 2 ^ 8 % 2 ^ 8 = a2 := by rw [show (2 : Nat) ^ 8 = 256 from rfl]; omega
    have e3 : x / 2 ^ 8 / 2 ^ 8 / 2 ^ 8 = a3 := by rw [show (2 : Nat) ^ 8 = 256 from rfl]; omega
    rw [e0] at m0
    rw [e1] at m1
    rw [e2] at m2
    rw [e3] at s3
    omega
  obtain ⟨p0, q0, r0, d0⟩ := w_d4 a0 l0
  obtain ⟨p1, q1, r1, d1⟩ := w_d4 a1 l1
  obtain ⟨p2, q2, r2, d2⟩ := w_d4 a2 l2
  obtain ⟨p3, q3, r3, d3⟩ := w_d4 a3 l3
  have E1 : w1 1431655765 x = w1 85 a0 + 256 * (w1 85 a1 + 256 * (w1 85 a2 + 256 * w1 85 a3)) := by
    rw [ex, show (1431655765 : Nat) = 85 + 256 * 5592405 from rfl, w1_split l0, show (5592405 : Nat) = 85 + 256 * 21845 from rfl, w1_split l1, show (21845 : Nat) = 85 + 256 * 85 from rfl, w1_split l2]
  have E2 : w2 858993459 (w1 1431655765 x) = w2 51 (w1 85 a0) + 256 * (w2 51 (w1 85 a1) + 256 * (w2 51 (w1 85 a2) + 256 * w2 51 (w1 85 a3))) := by
    rw [E1, show (858993459 : Nat) = 51 + 256 * 3355443 from rfl, w2_split p0, show (3355443 : Nat) = 51 + 256 * 13107 from rfl, w2_split p1, show (13107 : Nat) = 51 + 256 * 51 from rfl, w2_split p2]
  have E3 : w3 252645135 (w2 858993459 (w1 1431655765 x)) = w3 15 (w2 51 (w1 85 a0)) + 256 * (w3 15 (w2 51 (w1 85 a1)) + 256 * (w3 15 (w2 51 (w1 85 a2)) + 256 * w3 15 (w2 51 (w1 85 a3)))) := by
    rw [E2, show (252645135 : Nat) = 15 + 256 * 986895 from rfl, w3_split q0 (by omega), show (986895 : Nat) = 15 + 256 * 3855 from rfl, w3_split q1 (by omega), show (3855 : Nat) = 15 + 256 * 15 from rfl, w3_split q2 (by omega)]
  unfold pcn
  rw [E3, cc, show (63 : Nat) = 2 ^ 6 - 1 from rfl, Nat.and_two_pow_sub_one_eq_mod, show (2 : Nat) ^ 6 = 64 from rfl]
  obtain ⟨P0, hP0⟩ : ∃ y, y = w3 15 (w2 51 (w1 85 a0)) := ⟨_, rfl⟩
  obtain ⟨P1, hP1⟩ : ∃ y, y = w3 15 (w2 51 (w1 85 a1)) := ⟨_, rfl⟩
  obtain ⟨P2, hP2⟩ : ∃ y, y = w3 15 (w2 51 (w1 85 a2)) := ⟨_, rfl⟩
  obtain ⟨P3, hP3⟩ : ∃ y, y = w3 15 (w2 51 (w1 85 a3)) := ⟨_, rfl⟩
  rw [← hP0] at d0 ⊢
  rw [← hP1] at d1 ⊢
  rw [← hP2] at d2 ⊢
  rw [← hP3] at d3 ⊢
  clear E1 E2 E3 hP0 hP1 hP2 hP3 cc p0 q0 r0 p1 q1 r1 p2 q2 r2 p3 q3 r3
  have s1 : (P0 + 256 * (P1 + 256 * (P2 + 256 * P3))) / 256 = P1 + 256 * (P2 + 256 * P3) := by omega
  rw [s1]
  have s2 : P0 + 256 * (P1 + 256 * (P2 + 256 * P3)) + (P1 + 256 * (P2 + 256 * P3)) = (P0 + P1 + 256 * (P1 + P2)) + 65536 * (P2 + P3 + 256 * P3) := by omega
  rw [s2]
  have s3 : ((P0 + P1 + 256 * (P1 + P2)) + 65536 * (P2 + P3 + 256 * P3)) / 65536 = P2 + P3 + 256 * P3 := by omega
  rw [s3]
  have s4 : ((P0 + P1 + 256 * (P1 + P2)) + 65536 * (P2 + P3 + 256 * P3) + (P2 + P3 + 256 * P3)) % 64 = P0 + P1 + P2 + P3 := by omega
  rw [s4]
  omega
theorem pcn_26 {x : Nat} (hx : x < 67108864) : pcn x + ce x 26 = 26 := by
  have a := pcn_ce (x := x) (by omega)
  have b := ce_split x 26 6
  rw [show 26 + 6 = 32 from rfl] at b
  have e : x / 2 ^ 26 = 0 := by rw [show (2 : Nat) ^ 26 = 67108864 from rfl]; omega
  rw [e, ce_0] at b
  omega
theorem w_le {c x : Nat} : w1 c x ≤ x := Nat.sub_le _ _
section Bits
variable {S : Shp} {M : Mem} {Q : Res → Prop}
theorem ush_nat (x k : Nat) {j : Int} (hj : j.toNat = k) : ((x : Int) / 2 ^ j.toNat) = ((x / 2 ^ k : Nat) : Int) := by rw [hj]; simp
theorem sp_bitCount {x : Nat} (hx : x < 67108864) (h : Q (S, M, some (.inl (pcn x : Int)))) : Ca 219 [.inl (x : Int)] S M Q := by
  have hP : PR 219 = (bc_219, 1) := rfl
  refine ⟨Nat.le_of_ble_eq_true rfl, ?_⟩
  show En 219 0 [some (.inl (x : Int))] [] S M Q
  have b0 : x / 2 &&& 1431655765 ≤ x / 2 := Nat.and_le_left
  obtain ⟨x1, hx1⟩ : ∃ y, y = w1 1431655765 x := ⟨_, rfl⟩
  obtain ⟨x2, hx2⟩ : ∃ y, y = w2 858993459 x1 := ⟨_, rfl⟩
  obtain ⟨x3, hx3⟩ : ∃ y, y = w3 252645135 x2 := ⟨_, rfl⟩
  have l1 : x1 ≤ x := by rw [hx1]; exact w_le
  have l2a : x1 &&& 858993459 ≤ x1 := Nat.and_le_left
  have l2b : x1 / 4 &&& 858993459 ≤ x1 / 4 := Nat.and_le_left
  have l2 : x2 ≤ x1 + x1 / 4 := by rw [hx2]; unfold w2; omega
  have l3 : x3 ≤ x2 + x2 / 16 := by rw [hx3]; unfold w3; exact Nat.and_le_left
  refine e_ld hP rfl rfl ?_
  refine e_ld hP rfl rfl ?_
  refine e_c hP rfl ?_
  refine e_ush hP rfl ⟨by omega, by decide, by decide⟩ ?_
  rw [ush_nat x 1 rfl, show (2 : Nat) ^ 1 = 2 from rfl]
  refine e_c hP rfl ?_
  refine e_and hP rfl (bi_andN (x / 2) 1431655765) ?_
  refine e_sub hP rfl (by unfold inR; omega) ?_
  have e1 : ((x : Int) - ((x / 2 &&& 1431655765 : Nat) : Int)) = (x1 : Int) := by rw [hx1]; unfold w1; omega
  rw [e1]
  refine e_st hP rfl rfl ?_
  show En 219 8 [some (.inl (x1 : Int))] [] S M Q
  refine e_ld hP rfl rfl ?_
  refine e_c hP rfl ?_
  refine e_and hP rfl (bi_andN x1 858993459) ?_
  refine e_ld hP rfl rfl ?_
  refine e_c hP rfl ?_
  refine e_ush hP rfl ⟨by omega, by decide, by decide⟩ ?_
  rw [ush_nat x1 2 rfl, show (2 : Nat) ^ 2 = 4 from rfl]
  refine e_c hP rfl ?_
  refine e_and hP rfl (bi_andN (x1 / 4) 858993459) ?_
  refine e_add hP rfl (by unfold inR; omega) ?_
  have e2 : (((x1 &&& 858993459 : Nat) : Int) + ((x1 / 4 &&& 858993459 : Nat) : Int)) = (x2 : Int) := by rw [hx2]; unfold w2; omega
  rw [e2]
  refine e_st hP rfl rfl ?_
  show En 219 18 [some (.inl (x2 : Int))] [] S M Q
  refine e_ld hP rfl rfl ?_
  refine e_ld hP rfl rfl ?_
  refine e_c hP rfl ?_
  refine e_ush hP rfl ⟨by omega, by decide, by decide⟩ ?_
  rw [ush_nat x2 4 rfl, show (2 : Nat) ^ 4 = 16 from rfl]
  refine e_add hP rfl (by unfold inR; omega) ?_
  have e3 : ((x2 : Int) + ((x2 / 16 : Nat) : Int)) = ((x2 + x2 / 16 : Nat) : Int) := by omega
  rw [e3]
  refine e_c hP rfl ?_
  refine e_and hP rfl (bi_andN (x2 + x2 / 16) 252645135) ?_
  have e4 : (((x2 + x2 / 16) &&& 252645135 : Nat) : Int) = (x3 : Int) := by rw [hx3]; rfl
  rw [e4]
  refine e_st hP rfl rfl ?_
  show En 219 26 [some (.inl (x3 : Int))] [] S M Q
  refine e_ld hP rfl rfl ?_
  refine e_ld hP rfl rfl ?_
  refine e_c hP rfl ?_
  refine e_ush hP rfl ⟨by omega, by decide, by decide⟩ ?_
  rw [ush_nat x3 8 rfl, show (2 : Nat) ^ 8 = 256 from rfl]
  refine e_add hP rfl (by unfold inR; omega) ?_
  have e5 : ((x3 : Int) + ((x3 / 256 : Nat) : Int)) = ((x3 + x3 / 256 : Nat) : Int) := by omega
  rw [e5]
  refine e_st hP rfl rfl ?_
  show En 219 32 [some (.inl ((x3 + x3 / 256 : Nat) : Int))] [] S M Q
  obtain ⟨x4, hx4⟩ : ∃ y, y = x3 + x3 / 256 := ⟨_, rfl⟩
  rw [← hx4]
  refine e_ld hP rfl rfl ?_
  refine e_ld hP rfl rfl ?_
  refine e_c hP rfl ?_
  refine e_ush hP rfl ⟨by omega, by decide, by decide⟩ ?_
  rw [ush_nat x4 16 rfl, show (2 : Nat) ^ 16 = 65536 from rfl]
  refine e_add hP rfl (by unfold inR; omega) ?_
  have e6 : ((x4 : Int) + ((x4 / 65536 : Nat) : Int)) = ((x4 + x4 / 65536 : Nat) : Int) := by omega
  rw [e6]
  refine e_st hP rfl rfl ?_
  show En 219 38 [some (.inl ((x4 + x4 / 65536 : Nat) : Int))] [] S M Q
  refine e_ld hP rfl rfl ?_
  refine e_c hP rfl ?_
  refine e_and hP rfl (bi_andN (x4 + x4 / 65536) 63) ?_
  refine e_ret hP rfl rfl ?_
  have e7 : (x4 + x4 / 65536) &&& 63 = pcn x := by unfold pcn; rw [hx4, hx3, hx2, hx1]
  rw [e7]
  exact h
end Bits
/-! letters that are no two alike -/
theorem ls_lt {f : Nat → Nat} : ∀ m, (∀ k, k < m → f k < 26) → ls f m < 67108864 := by
  intro m
  induction m with
  | zero => intro _; rw [ls]; decide
  | succ m ih =>
    intro h
    rw [ls]
    have a := ih (fun k hk => h k (by omega))
    exact or_lt (n := 26) a (h m (by omega))
theorem ls_bit {f : Nat → Nat} {x : Nat} : ∀ m, (ls f m).testBit x = true ↔ ∃ k, k < m ∧ f k = x := by
  intro m
  induction m with
  | zero => rw [ls, Nat.zero_testBit]; exact ⟨fun h => (by cases h), fun ⟨k, h, _⟩ => (by omega)⟩
  | succ m ih =>
    rw [ls, or_bit, Bool.or_eq_true, ih, decide_eq_true_eq]
    constructor
    · rintro (⟨k, h1, h2⟩ | h)
      · exact ⟨k, by omega, h2⟩
      · exact ⟨m, by omega, h⟩
    · rintro ⟨k, h1, h2⟩
      by_cases hk : k = m
      · subst hk; exact Or.inr h2
      · exact Or.inl ⟨k, by omega, h2⟩
/-- no two of the first m are alike -/
def dist (f : Nat → Nat) (m : Nat) : Prop := ∀ k, k < m → (ls f k).testBit (f k) = false
theorem ls_cnt {f : Nat → Nat} : ∀ m, (∀ k, k < m → f k < 26) → 26 ≤ ce (ls f m) 26 + m ∧ (26 = ce (ls f m) 26 + m ↔ dist f m) := by
  intro m
  induction m with
  | zero => intro _; rw [ls, ce_0]; exact ⟨by omega, fun _ k hk => by omega, fun _ => rfl⟩
  | succ m ih =>
    intro h
    obtain ⟨i1, i2⟩ := ih (fun k hk => h k (by omega))
    rw [ls]
    cases hb : (ls f m).testBit (f m)
    · have := ce_set hb 26
      rw [if_pos (h m (by omega))] at this
      refine ⟨by omega, fun q k hk => ?_, fun q => ?_⟩
      · by_cases hkm : k = m
        · subst hkm; exact hb
        · exact (i2.mp (by omega)) k (by omega)
      · have := i2.mpr (fun k hk => q k (by omega))
        omega
    · have e : ls f m ||| 2 ^ f m = ls f m := set_ext (fun k => by
        rw [or_bit]
        by_cases hk : f m = k
        · subst hk; rw [hb]; rfl
        · simp [hk])
      rw [e]
      refine ⟨by omega, fun q => by omega, fun q => ?_⟩
      have := q m (by omega)
      rw [hb] at this; cases this
theorem bits_dist {f : Nat → Nat} {m : Nat} (h : ∀ k, k < m → f k < 26) : pcn (ls f m) = m ↔ dist f m := by
  have a := pcn_26 (ls_lt m h)
  have b := ls_cnt m h
  rw [← b.2]
  have := ce_le (ls f m) 26
  omega
