/-! SETS of persons as numbers; the most weddings, as a function of a set -/
def del (s i : Nat) : Nat := s ^^^ (s &&& 2 ^ i)
def lo (s : Nat) : Nat → Nat
  | 0 => 7
  | d + 1 => if s.testBit (6 - d) = true then 6 - d else lo s d
def low (s : Nat) : Nat := lo s 7
theorem set_low : ∀ s, s < 256 → s ≠ 0 → s.testBit (low s) = true ∧ low s < 8 ∧ (∀ j, j < 8 → j < low s → s.testBit j = false) ∧ s &&& (s - 1) = del s (low s) := by decide +kernel
theorem del_bit (s i k : Nat) : (del s i).testBit k = (s.testBit k && decide (k ≠ i)) := by
  unfold del
  rw [Nat.testBit_xor, Nat.testBit_and, Nat.testBit_two_pow]
  by_cases h : i = k
  · subst h; cases s.testBit i <;> simp
  · have h2 : ¬ k = i := fun z => h z.symm
    cases s.testBit k <;> simp [h, h2]
theorem set_ext {a b : Nat} (h : ∀ k, a.testBit k = b.testBit k) : a = b := Nat.eq_of_testBit_eq h
theorem xor_del {s i : Nat} (h : s.testBit i = true) : s ^^^ 2 ^ i = del s i := by
  refine set_ext (fun k => ?_)
  rw [del_bit, Nat.testBit_xor, Nat.testBit_two_pow]
  by_cases hk : i = k
  · subst hk; rw [h]; simp
  · have h2 : ¬ k = i := fun z => hk z.symm
    cases s.testBit k <;> simp [hk, h2]
theorem del_le (s i : Nat) : del s i ≤ s := by
  have e : del s i = s &&& del s i := by
    refine set_ext (fun k => ?_)
    rw [Nat.testBit_and, del_bit]
    cases s.testBit k <;> simp
  rw [e]
  exact Nat.and_le_left
theorem del_lt {s i : Nat} (h : s.testBit i = true) : del s i < s := by
  have a := del_le s i
  by_cases e : del s i = s
  · have := del_bit s i i
    rw [e, h] at this
    simp at this
  · omega
theorem big_bit {s n k : Nat} (h : s < 2 ^ n) (hk : n ≤ k) : s.testBit k = false := Nat.testBit_lt_two_pow (Nat.lt_of_lt_of_le h (Nat.pow_le_pow_right (by decide) hk))
theorem p8 {n : Nat} (h : n ≤ 8) : 2 ^ n ≤ 256 := Nat.pow_le_pow_right (by decide) h
theorem low_lt {s n : Nat} (hn : n ≤ 8) (h : s < 2 ^ n) (h0 : s ≠ 0) : low s < n := by
  have := p8 hn
  have a := (set_low s (by omega) h0).1
  by_cases q : low s < n
  · exact q
  · rw [big_bit h (by omega)] at a; cases a
theorem all_bit {n : Nat} (k : Nat) : (2 ^ n - 1).testBit k = decide (k < n) := by
  have := Nat.testBit_two_pow_sub_one n k
  exact this
/-- the interpreter's set operations -/
theorem bi_del (s i : Nat) : bi_and (s : Int) (-((1 : Int) * 2 ^ i) - 1) = some ((del s i : Nat) : Int) := by
  have e : (1 : Int) * 2 ^ i = ((2 ^ i : Nat) : Int) := by simp
  rw [e]
  obtain ⟨w, hw⟩ : ∃ w, w = 2 ^ i := ⟨_, rfl⟩
  unfold bi_and del
  rw [← hw, if_pos (by omega), if_neg (by omega), Int.toNat_natCast, show (-(-(w : Int) - 1) - 1).toNat = w by omega]
  rfl
theorem bi_not (i : Nat) : bi_bin 10 ((1 : Int) * 2 ^ i) (-1) = some (-((1 : Int) * 2 ^ i) - 1) := by
  show (if 0 ≤ (1 : Int) * 2 ^ i ∧ (0 : Int) ≤ -1 then some (((((1 : Int) * 2 ^ i).toNat ^^^ (-1 : Int).toNat : Nat)) : Int) else if (-1 : Int) = -1 then some (-((1 : Int) * 2 ^ i) - 1) else none) = _
  rw [if_neg (fun h => absurd h.2 (by decide)), if_pos rfl]
theorem bi_andN (a b : Nat) : bi_and (a : Int) (b : Int) = some ((a &&& b : Nat) : Int) := by
  unfold bi_and
  rw [if_pos (by omega), if_pos (by omega), Int.toNat_natCast, Int.toNat_natCast]
theorem bi_xorN (a i : Nat) : bi_bin 10 (a : Int) ((1 : Int) * 2 ^ i) = some ((a ^^^ 2 ^ i : Nat) : Int) := by
  have e : (1 : Int) * 2 ^ i = ((2 ^ i : Nat) : Int) := by simp
  rw [e]
  show (if 0 ≤ (a : Int) ∧ (0 : Int) ≤ ((2 ^ i : Nat) : Int) then some ((((a : Int).toNat ^^^ ((2 ^ i : Nat) : Int).toNat : Nat)) : Int) else if ((2 ^ i : Nat) : Int) = -1 then some (-(a : Int) - 1) else none) = _
  rw [if_pos ⟨by omega, Int.natCast_nonneg _⟩, Int.toNat_natCast, Int.toNat_natCast]
theorem p2m {n : Nat} (hn : n ≤ 8) : (0 ≤ (1 : Int) ∧ 0 ≤ (n : Int) ∧ (n : Int) < 32 ∧ inR ((1 : Int) * 2 ^ ((n : Int)).toNat)) ∧ inR (((1 : Int) * 2 ^ ((n : Int)).toNat) - 1) ∧ ((1 : Int) * 2 ^ ((n : Int)).toNat) - 1 = ((2 ^ n - 1 : Nat) : Int) ∧ (1 : Int) * 2 ^ ((n : Int)).toNat = ((2 ^ n : Nat) : Int) := by
  obtain ⟨a, b, c⟩ := p2_in (v := n) (by omega)
  have e : (1 : Int) * 2 ^ n = ((2 ^ n : Nat) : Int) := by simp
  have p := p8 hn
  have q : 0 < 2 ^ n := Nat.pow_pos (by decide)
  rw [Int.toNat_natCast]
  refine ⟨⟨by omega, by omega, by omega, b⟩, ?_, ?_, e⟩
  · rw [e]; obtain ⟨w, hw⟩ : ∃ w, w = 2 ^ n := ⟨_, rfl⟩
    rw [← hw] at p q ⊢; unfold inR; omega
  · rw [e]; obtain ⟨w, hw⟩ : ∃ w, w = 2 ^ n := ⟨_, rfl⟩
    rw [← hw] at p q ⊢; omega
theorem p2k {k : Nat} (hk : k < 31) : 0 ≤ (1 : Int) ∧ 0 ≤ (k : Int) ∧ (k : Int) < 32 ∧ inR ((1 : Int) * 2 ^ ((k : Int)).toNat) := by
  obtain ⟨a, b, c⟩ := p2_in (v := k) hk
  rw [Int.toNat_natCast]
  exact ⟨by omega, by omega, by omega, b⟩
/-- the best of a set with i in it, over partners i + 1 .. i + d -/
def mI (w : Nat → Nat → Bool) (A : Nat → Int) (i rest : Nat) : Nat → Int
  | 0 => A rest
  | d + 1 => if rest.testBit (i + 1 + d) = true ∧ w i (i + 1 + d) = true ∧ mI w A i rest d < A (del rest (i + 1 + d)) + 1 then A (del rest (i + 1 + d)) + 1 else mI w A i rest d
def mRec (w : Nat → Nat → Bool) (A : Nat → Int) (s : Nat) : Int := if s = 0 then 0 else mI w A (low s) (del s (low s)) (7 - low s)
def mTab (w : Nat → Nat → Bool) : Nat → (Nat → Int)
  | 0 => fun _ => 0
  | m + 1 => fun s => if s = m then mRec w (mTab w m) m else mTab w m s
def mV (w : Nat → Nat → Bool) (s : Nat) : Int := mTab w (s + 1) s
theorem mTab_lt {w : Nat → Nat → Bool} {s : Nat} : ∀ m, s < m → mTab w m s = mV w s := by
  intro m
  induction m with
  | zero => intro h; omega
  | succ m ih =>
    intro h
    by_cases hs : s = m
    · subst hs; rfl
    · rw [mTab]
      show (if s = m then _ else mTab w m s) = _
      rw [if_neg hs]; exact ih (by omega)
theorem mI_congr {w : Nat → Nat → Bool} {A B : Nat → Int} {i rest : Nat} (h : ∀ t, t ≤ rest → A t = B t) : ∀ d, mI w A i rest d = mI w B i rest d := by
  intro d
  induction d with
  | zero => exact h rest (Nat.le_refl _)
  | succ d ih => rw [mI, mI, ih, h _ (del_le _ _)]
theorem mV_0 (w : Nat → Nat → Bool) : mV w 0 = 0 := rfl
theorem mV_s {w : Nat → Nat → Bool} {s : Nat} (h : s < 256) (h0 : s ≠ 0) : mV w s = mI w (mV w) (low s) (del s (low s)) (7 - low s) := by
  have e : mV w s = mRec w (mTab w s) s := by
    show (if s = s then mRec w (mTab w s) s else _) = _
    rw [if_pos rfl]
  rw [e]
  unfold mRec
  rw [if_neg h0]
  have := del_lt (set_low s h h0).1
  exact mI_congr (fun t ht => mTab_lt s (by omega)) _
/-- no partner at n or above -/
theorem mI_top {w : Nat → Nat → Bool} {A : Nat → Int} {i rest n : Nat} (h : rest < 2 ^ n) (hi : i < n) : ∀ e, mI w A i rest (n - 1 - i + e) = mI w A i rest (n - 1 - i) := by
  intro e
  induction e with
  | zero => rfl
  | succ e ih =>
    rw [← Nat.add_assoc, mI, ih, if_neg]
    intro z
    rw [big_bit h (by omega)] at z
    exact absurd z.1 (by decide)
theorem mV_n {w : Nat → Nat → Bool} {s n : Nat} (hn : n ≤ 8) (h : s < 2 ^ n) (h0 : s ≠ 0) : mV w s = mI w (mV w) (low s) (del s (low s)) (n - 1 - low s) := by
  have p := p8 hn
  have l := low_lt hn h h0
  have d := del_le s (low s)
  rw [mV_s (by omega) h0, ← mI_top (n := n) (by omega) l (8 - n)]
  congr 1
  omega
theorem mI_in {w : Nat → Nat → Bool} {A : Nat → Int} {i rest : Nat} (h : ∀ t, t ≤ rest → 0 ≤ A t ∧ A t ≤ t) : ∀ d, 0 ≤ mI w A i rest d ∧ mI w A i rest d ≤ rest := by
  intro d
  induction d with
  | zero => exact h rest (Nat.le_refl _)
  | succ d ih =>
    rw [mI]
    split
    · rename_i z
      have a := del_lt z.1
      have b := h (del rest (i + 1 + d)) (by omega)
      omega
    · exact ih
theorem mV_in (w : Nat → Nat → Bool) : ∀ m s, s < m → s < 256 → 0 ≤ mV w s ∧ mV w s ≤ s := by
  intro m
  induction m with
  | zero => intro s h; omega
  | succ m ih =>
    intro s hs h
    by_cases h0 : s = 0
    · subst h0; rw [mV_0]; omega
    · have a := del_lt (set_low s h h0).1
      rw [mV_s h h0]
      have := mI_in (w := w) (A := mV w) (i := low s) (rest := del s (low s)) (fun t ht => ih t (by omega) (by omega)) (7 - low s)
      omega
theorem mV_b {w : Nat → Nat → Bool} {s : Nat} (h : s < 256) : 0 ≤ mV w s ∧ mV w s ≤ 255 := by
  have := mV_in w (s + 1) s (by omega) h
  omega
theorem mI_mono {w w' : Nat → Nat → Bool} {A B : Nat → Int} {i rest : Nat} (hw : ∀ a b, w a b = true → w' a b = true) (h : ∀ t, t ≤ rest → A t ≤ B t) : ∀ d, mI w A i rest d ≤ mI w' B i rest d := by
  intro d
  induction d with
  | zero => exact h rest (Nat.le_refl _)
  | succ d ih =>
    have a := h (del rest (i + 1 + d)) (del_le _ _)
    rw [mI, mI]
    split
    · rename_i z
      split
      · omega
      · rename_i y
        have : ¬ (mI w' B i rest d < B (del rest (i + 1 + d)) + 1) := fun q => y ⟨z.1, hw _ _ z.2.1, q⟩
        omega
    · split
      · rename_i y; omega
      · exact ih
theorem mV_mono {w w' : Nat → Nat → Bool} (hw : ∀ a b, w a b = true → w' a b = true) : ∀ m s, s < m → s < 256 → mV w s ≤ mV w' s := by
  intro m
  induction m with
  | zero => intro s h; omega
  | succ m ih =>
    intro s hs h
    by_cases h0 : s = 0
    · subst h0; rw [mV_0, mV_0]; omega
    · have a := del_lt (set_low s h h0).1
      rw [mV_s h h0, mV_s h h0]
      exact mI_mono hw (fun t ht => ih t (by omega) (by omega)) _
noncomputable def mB (M : Mem) (r : Int) (i k : Nat) : Bool := @decide (mMay M i k r) (Classical.propDecidable _)
theorem mB_iff {M : Mem} {r : Int} {i k : Nat} : mB M r i k = true ↔ mMay M i k r := @decide_eq_true_iff _ (Classical.propDecidable _)
theorem mMay_wide {M : Mem} {i k : Nat} {r r' : Int} (hr : r ≤ r') (h : mMay M i k r) : mMay M i k r' := by
  refine ⟨h.1, h.2.1, h.2.2.1, ?_⟩
  rcases h.2.2.2 with q | q | q
  · exact Or.inl q
  · exact Or.inr (Or.inl q)
  · exact Or.inr (Or.inr ⟨by omega, q.2⟩)
/-- bits below m -/
def wl (w : Nat → Bool) : Nat → Nat
  | 0 => 0
  | k + 1 => wl w k ||| (if w k = true then 2 ^ k else 0)
theorem wl_bit {w : Nat → Bool} : ∀ m k, (wl w m).testBit k = (decide (k < m) && w k) := by
  intro m
  induction m with
  | zero => intro k; simp [wl]
  | succ m ih =>
    intro k
    rw [wl, Nat.testBit_or, ih]
    by_cases hw : w m = true
    · rw [if_pos hw, Nat.testBit_two_pow]
      by_cases hk : m = k
      · subst hk; simp [hw]
      · have a : decide (k < m + 1) = decide (k < m) := by simp only [decide_eq_decide]; omega
        rw [a]; simp [hk]
    · rw [if_neg hw, Nat.zero_testBit]
      by_cases hk : m = k
      · subst hk
        have : w m = false := by simpa using hw
        simp [this]
      · have a : decide (k < m + 1) = decide (k < m) := by simp only [decide_eq_decide]; omega
        rw [a]; simp
