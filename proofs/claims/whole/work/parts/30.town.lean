/-! WHAT THE CLASS's SMALL METHODS ANSWER (sp_<method>): 'Q of the answer' gives 'the call ends with Q' -/
theorem np_div (s k : Nat) : ((s : Int) / 2 ^ k).toNat = s / 2 ^ k := by
  have e : ((s : Int) / 2 ^ k) = ((s / 2 ^ k : Nat) : Int) := by simp
  rw [e, Int.toNat_natCast]
theorem np_and1 (s k : Nat) : bi_and ((s : Int) / 2 ^ k) 1 = some (if s.testBit k then 1 else 0) := by
  unfold bi_and
  rw [if_pos (Int.ediv_nonneg (by omega) (by exact Int.pow_nonneg (by decide))), if_pos (by decide), np_div, show (1 : Int).toNat = 1 from rfl, Nat.and_one_is_mod, Nat.testBit_eq_decide_div_mod_eq]
  rcases Nat.mod_two_eq_zero_or_one (s / 2 ^ k) with h | h <;> simp [h]
theorem sp_holds {S : Shp} {M : Mem} {Q : Res → Prop} (hS : KC S) {s k : Nat} (hk : k < 32) (h : Q (S, M, some (.inl (if s.testBit k then 1 else 0)))) : Ca 135 [.inl (s : Int), .inl (k : Int)] S M Q := by
  apply r_X8_holds_0 hS
  refine ⟨by omega, _, by rw [Int.toNat_natCast]; exact np_and1 s k, ?_⟩
  by_cases hb : s.testBit k = true <;> simp_all
theorem sp_holdsI {S : Shp} {M : Mem} {Q : Res → Prop} (hS : KC S) {x : Int} {k : Nat} (hx : 0 ≤ x) (hk : k < 32) (h : Q (S, M, some (.inl (if x.toNat.testBit k then 1 else 0)))) : Ca 135 [.inl x, .inl (k : Int)] S M Q := by
  have e : x = (x.toNat : Int) := by omega
  rw [e]
  exact sp_holds hS hk h
/-- the first letter of a name in the town t, or -4 -/
def tf (M : Mem) (t i : Nat) : Int := if 0 < M (t + 1) i then M (t + 2) (6 * i) else -4
/-- the letter k of the name of i, or -4 -/
def tl (M : Mem) (t i k : Nat) : Int := if (k : Int) < M (t + 1) i ∧ k < 6 then M (t + 2) (6 * i + k) else -4
section Town
variable {S : Shp} {M : Mem} {Q : Res → Prop} {t : Nat}
theorem sp_isNameless (hS : KC S) (ht : t ∈ bx_tw) {i : Nat} (hi : i < 8) (h : Q (S, M, some (.inl (if M (t + 1) i = 0 then 1 else 0)))) : Ca 74 [.inr (.inr (t + 1)), .inl (i : Int)] S M Q := by
  apply r_X7_isNameless_0 hS ht
  simp only [Int.toNat_natCast]
  grind
theorem sp_letterOf (hS : KC S) (ht : t ∈ bx_tw) {i k : Nat} (hi : i < 8) (h : Q (S, M, some (.inl (tl M t i k)))) : Ca 75 [.inr (.inr (t + 1)), .inl (i : Int), .inl (k : Int)] S M Q := by
  apply r_X7_letterOf_0 hS ht
  simp only [Int.toNat_natCast]
  have e : (((i : Int) * 6) + k).toNat = 6 * i + k := by omega
  rw [e]
  unfold tl at h
  refine ⟨by omega, ?_⟩
  simp only [inR]
  grind
theorem sp_letterBig (hS : KC S) (ht : t ∈ bx_tw) {i : Nat} {k : Int} (hi : i < 8) (hk : 6 ≤ k) (h : Q (S, M, some (.inl (-4)))) : Ca 75 [.inr (.inr (t + 1)), .inl (i : Int), .inl k] S M Q := by
  apply r_X7_letterOf_0 hS ht
  simp only [Int.toNat_natCast]
  refine ⟨by omega, ?_⟩
  simp only [inR]
  grind
theorem sp_first (hS : KC S) (ht : t ∈ bx_tw) {i : Nat} (hi : i < 8) (h : Q (S, M, some (.inl (tf M t i)))) : Ca 76 [.inr (.inr (t + 1)), .inl (i : Int)] S M Q := by
  apply r_X7_first_0 hS ht
  refine sp_letterOf (k := 0) hS ht hi ⟨_, _, rfl, ?_⟩
  have e : tl M t i 0 = tf M t i := by
    unfold tl tf
    simp
  rw [e]
  exact h
theorem sp_place (hS : KC S) (ht : t ∈ bx_tw) {x : Nat} {r : Int} (hx : x < 26) (hr : 0 ≤ r ∧ r < 26) (h : Q (S, up2 (up2 M (t + 8) x r) (t + 9) r.toNat (x : Int), none)) : Ca 69 [.inr (.inr (t + 1)), .inl (x : Int), .inl r] S M Q := by
  apply r_X7_place_0 hS ht
  simp only [Int.toNat_natCast]
  exact ⟨by omega, hr, h⟩
theorem sp_exchange (hS : KC S) (ht : t ∈ bx_tw) {x y : Nat} (hx : x < 26) (hy : y < 26) (hr : ∀ z, z < 26 → 0 ≤ M (t + 8) z ∧ M (t + 8) z < 26) (h : Q (S, up2 (up2 (up2 (up2 M (t + 8) x (M (t + 8) y)) (t + 9) (M (t + 8) y).toNat (x : Int)) (t + 8) y (M (t + 8) x)) (t + 9) (M (t + 8) x).toNat (y : Int), none)) : Ca 70 [.inr (.inr (t + 1)), .inl (x : Int), .inl (y : Int)] S M Q := by
  apply r_X7_exchange_0 hS ht
  simp only [Int.toNat_natCast]
  refine ⟨by omega, by omega, sp_place hS ht hx (hr y hy) ⟨_, rfl, sp_place hS ht hy (hr x hx) ⟨_, rfl, h⟩⟩⟩
theorem sp_areEnemies (hS : KC S) (ht : t ∈ bx_tw) {x y : Nat} (hx : x < 26) (hy : y < 26) (h0 : 0 ≤ M (t + 10) x) (h : Q (S, M, some (.inl (if (M (t + 10) x).toNat.testBit y then 1 else 0)))) : Ca 72 [.inr (.inr (t + 1)), .inl (x : Int), .inl (y : Int)] S M Q := by
  apply r_X7_areEnemies_0 hS ht
  simp only [Int.toNat_natCast]
  exact ⟨by omega, sp_holdsI hS h0 (by omega) ⟨_, _, rfl, by split <;> simp, h⟩⟩
theorem sp_isVowel (hS : KC S) (ht : t ∈ bx_tw) {x : Nat} (hx : x < 26) (h0 : 0 ≤ M t 4) (h : Q (S, M, some (.inl (if (M t 4).toNat.testBit x then 1 else 0)))) : Ca 73 [.inr (.inr (t + 1)), .inl (x : Int)] S M Q := by
  apply r_X7_isVowel_0 hS ht
  exact sp_holdsI hS h0 (by omega) ⟨_, _, rfl, by split <;> simp, h⟩
theorem sp_setFirst (hS : KC S) (ht : t ∈ bx_tw) {i : Nat} {x : Int} (hi : i < 8) (h : Q (S, if M (t + 1) i = 0 then M else up2 M (t + 2) (6 * i) x, none)) : Ca 77 [.inr (.inr (t + 1)), .inl (i : Int), .inl x] S M Q := by
  apply r_X7_setFirst_0 hS ht
  refine sp_isNameless hS ht hi ⟨_, _, rfl, ?_⟩
  have e : ((i : Int) * 6).toNat = 6 * i := by omega
  rw [e]
  simp only [inR]
  by_cases h0 : M (t + 1) i = 0
  · rw [if_pos h0] at h ⊢
    exact ⟨fun _ => h, fun q => absurd q (by decide)⟩
  · rw [if_neg h0] at h ⊢
    exact ⟨fun q => absurd rfl q, fun _ => ⟨by omega, by omega, h⟩⟩
theorem sp_keyOfOne (hS : KC S) (ht : t ∈ bx_tw) {x : Nat} (hx : x < 26) (hr : 0 ≤ M (t + 8) x ∧ M (t + 8) x < 26) (h : Q (S, M, some (.inl ((M (t + 8) x + 1) * 14348907)))) : Ca 80 [.inr (.inr (t + 1)), .inl (x : Int)] S M Q := by
  apply r_X7_keyOfOne_0 hS ht
  simp only [Int.toNat_natCast, inR]
  exact ⟨by omega, by omega, by omega, h⟩
/-- one digit of a name's key -/
def tk (M : Mem) (t i k : Nat) : Int := if tl M t i k = -4 then 0 else M (t + 8) (tl M t i k).toNat + 1
/-- the first k digits -/
def tkey (M : Mem) (t i : Nat) : Nat → Int
  | 0 => 0
  | k + 1 => tkey M t i k * 27 + tk M t i k
/-- names and ranks as they must be -/
def tNames (M : Mem) (t n : Nat) : Prop := n ≤ 8 ∧ (∀ i k, i < n → tl M t i k = -4 ∨ (0 ≤ tl M t i k ∧ tl M t i k < 26)) ∧ ∀ x, x < 26 → 0 ≤ M (t + 8) x ∧ M (t + 8) x < 26
theorem tk_in {n : Nat} (hN : tNames M t n) {i : Nat} (hi : i < n) (k : Nat) : 0 ≤ tk M t i k ∧ tk M t i k ≤ 26 := by
  unfold tk
  rcases hN.2.1 i k hi with h | h
  · rw [if_pos h]; decide
  · rw [if_neg (by omega)]
    have := hN.2.2 (tl M t i k).toNat (by omega)
    omega
theorem tkey_in {n : Nat} (hN : tNames M t n) {i : Nat} (hi : i < n) : ∀ k, 0 ≤ tkey M t i k ∧ tkey M t i k < 27 ^ k := by
  intro k
  induction k with
  | zero => exact ⟨Int.le_refl 0, by show (0 : Int) < 1; decide⟩
  | succ k ih =>
    have h := tk_in hN hi k
    rw [tkey, Int.pow_succ]
    omega
theorem keyOf_loop (hS : KC S) (ht : t ∈ bx_tw) {n : Nat} (hN : tNames M t n) {i : Nat} (hi : i < n) (h : Q (S, M, some (.inl (tkey M t i 6)))) : ∀ d k, k + d = 6 → En 79 10 [some (.inr (.inr (t + 1))), some (.inl (i : Int)), some (.inl (tkey M t i k)), some (.inl (k : Int)), none] [] S M Q := by
  intro d
  induction d with
  | zero =>
    intro k hk
    apply r_X7_keyOf_10 hS ht
    have e : k = 6 := by omega
    subst e
    exact ⟨fun _ => h, fun q => by omega⟩
  | succ d ih =>
    intro k hk
    apply r_X7_keyOf_10 hS ht
    refine ⟨fun q => by omega, fun _ => sp_letterOf hS ht (by have := hN.1; omega) ⟨_, _, rfl, ?_⟩⟩
    have h1 := tkey_in hN hi k
    have h2 := tkey_in hN hi (k + 1)
    have h3 : (27 : Int) ^ k ≤ 27 ^ 5 := by
      have : (27 : Nat) ^ k ≤ 27 ^ 5 := Nat.pow_le_pow_right (by decide) (by omega)
      exact_mod_cast this
    have h5 : (27 : Int) ^ 5 = 14348907 := by decide
    have h4 := tk_in hN hi k
    have ek : ((k : Int) + 1) = ((k + 1 : Nat) : Int) := by omega
    have e2 : tkey M t i (k + 1) = tkey M t i k * 27 + tk M t i k := rfl
    simp only [inR]
    refine ⟨by omega, fun q => ?_, fun q => ?_⟩
    · have e1 : tk M t i k = M (t + 8) (tl M t i k).toNat + 1 := if_neg q
      rcases hN.2.1 i k hi with h6 | h6
      · exact absurd h6 q
      · refine ⟨h6, by omega, by omega, by omega, ?_⟩
        rw [← e1, ← e2, ek]
        exact ih (k + 1) (by omega)
    · have e1 : tk M t i k = 0 := if_pos q
      refine ⟨by omega, by omega, ?_⟩
      rw [← e1, ← e2, ek]
      exact ih (k + 1) (by omega)
/-- the key of a name -/
def tkeyOf (M : Mem) (t i : Nat) : Int := if M (t + 1) i = 0 then 387420489 else tkey M t i 6
theorem sp_keyOf (hS : KC S) (ht : t ∈ bx_tw) {n : Nat} (hN : tNames M t n) {i : Nat} (hi : i < n) (h : Q (S, M, some (.inl (tkeyOf M t i)))) : Ca 79 [.inr (.inr (t + 1)), .inl (i : Int)] S M Q := by
  apply r_X7_keyOf_0 hS ht
  refine sp_isNameless hS ht (by have := hN.1; omega) ⟨_, _, rfl, ?_⟩
  unfold tkeyOf at h
  by_cases h0 : M (t + 1) i = 0
  · rw [if_pos h0] at h ⊢
    exact ⟨fun q => absurd q (by decide), fun _ => h⟩
  · rw [if_neg h0] at h ⊢
    exact ⟨fun _ => keyOf_loop hS ht hN hi h 6 0 rfl, fun q => absurd rfl q⟩
end Town
