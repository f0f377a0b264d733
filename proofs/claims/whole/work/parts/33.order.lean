/-! THE ORDER OF NAMES by keys: one key a name, compared as numbers; the reference compares letter by letter -/
def gtl (sz : Int) (lt : Nat → Int) (k : Nat) : Int := if (k : Int) < sz ∧ k < 6 then lt k else -4
def gtk (sz : Int) (lt rk : Nat → Int) (k : Nat) : Int := if gtl sz lt k = -4 then 0 else rk (gtl sz lt k).toNat + 1
def gkey (sz : Int) (lt rk : Nat → Int) : Nat → Int
  | 0 => 0
  | k + 1 => gkey sz lt rk k * 27 + gtk sz lt rk k
def gkeyOf (sz : Int) (lt rk : Nat → Int) : Int := if sz = 0 then 387420489 else gkey sz lt rk 6
theorem tkeyOf_g (M : Mem) (t i : Nat) : tkeyOf M t i = gkeyOf (M (t + 1) i) (fun k => M (t + 2) (6 * i + k)) (M (t + 8)) := by
  have hk : ∀ k, tkey M t i k = gkey (M (t + 1) i) (fun k => M (t + 2) (6 * i + k)) (M (t + 8)) k := fun k => by
    induction k with
    | zero => rfl
    | succ k ih => rw [tkey, gkey, ih]; rfl
  unfold tkeyOf gkeyOf
  rw [hk]
/-- what is right of a name and an alphabet: size 0 to 6, letters 0 to 25, ranks 0 to 25, no two alike -/
def gok (sz : Int) (lt : Nat → Int) : Prop := (0 ≤ sz ∧ sz ≤ 6) ∧ ∀ k : Nat, (k : Int) < sz → 0 ≤ lt k ∧ lt k < 26
def gal (rk : Nat → Int) : Prop := (∀ x, x < 26 → 0 ≤ rk x ∧ rk x < 26) ∧ ∀ x y, x < 26 → y < 26 → rk x = rk y → x = y
theorem gtk_lt {sz : Int} {lt rk : Nat → Int} (h : gok sz lt) (ha : gal rk) {k : Nat} (hk : (k : Int) < sz) : gtk sz lt rk k = rk (lt k).toNat + 1 ∧ 1 ≤ gtk sz lt rk k ∧ gtk sz lt rk k ≤ 26 := by
  have h1 := h.2 k hk
  have h2 := h.1
  have e : gtl sz lt k = lt k := if_pos ⟨hk, by omega⟩
  have e2 : gtk sz lt rk k = rk (lt k).toNat + 1 := by
    unfold gtk
    rw [e, if_neg (by omega)]
  have h3 := ha.1 (lt k).toNat (by omega)
  exact ⟨e2, by omega, by omega⟩
theorem gtk_ge {sz : Int} {lt rk : Nat → Int} {k : Nat} (hk : sz ≤ k) : gtk sz lt rk k = 0 := by
  have e : gtl sz lt k = -4 := if_neg (by omega)
  unfold gtk
  rw [e]
  rfl
theorem gtk_in {sz : Int} {lt rk : Nat → Int} (h : gok sz lt) (ha : gal rk) (k : Nat) : 0 ≤ gtk sz lt rk k ∧ gtk sz lt rk k ≤ 26 := by
  by_cases hk : (k : Int) < sz
  · have := gtk_lt h ha hk; omega
  · rw [gtk_ge (by omega)]; decide
/-- the last d digits of six -/
def gsuf (sz : Int) (lt rk : Nat → Int) : Nat → Int
  | 0 => 0
  | d + 1 => gtk sz lt rk (5 - d) * 27 ^ d + gsuf sz lt rk d
theorem gsuf_in {sz : Int} {lt rk : Nat → Int} (h : gok sz lt) (ha : gal rk) : ∀ d, 0 ≤ gsuf sz lt rk d ∧ gsuf sz lt rk d < 27 ^ d := by
  intro d
  induction d with
  | zero => exact ⟨Int.le_refl 0, by show (0 : Int) < 1; decide⟩
  | succ d ih =>
    have h1 := gtk_in h ha (5 - d)
    have h2 : (0 : Int) ≤ 27 ^ d := Int.pow_nonneg (by decide)
    have h3 : 0 ≤ gtk sz lt rk (5 - d) * 27 ^ d := Int.mul_nonneg h1.1 h2
    have h4 : gtk sz lt rk (5 - d) * 27 ^ d ≤ 26 * 27 ^ d := Int.mul_le_mul_of_nonneg_right h1.2 h2
    rw [gsuf, Int.pow_succ]
    omega
theorem gkey_suf {sz : Int} {lt rk : Nat → Int} : ∀ d, d ≤ 6 → gkey sz lt rk 6 = gkey sz lt rk (6 - d) * 27 ^ d + gsuf sz lt rk d := by
  intro d
  induction d with
  | zero => intro _; simp [gsuf]
  | succ d ih =>
    intro hd
    rw [ih (by omega), gsuf, show 6 - d = (6 - (d + 1)) + 1 by omega, gkey, show 6 - (d + 1) = 5 - d by omega, Int.pow_succ, Int.add_mul]
    rw [Int.mul_assoc, Int.mul_comm 27 (27 ^ d), Int.add_assoc]
theorem gkey_6 (sz : Int) (lt rk : Nat → Int) : gkey sz lt rk 6 = gsuf sz lt rk 6 := by
  rw [gkey_suf 6 (by decide)]
  simp [gkey]
theorem gsuf_0 {sz : Int} {lt rk : Nat → Int} : ∀ d, d ≤ 6 → sz ≤ ((6 - d : Nat) : Int) → gsuf sz lt rk d = 0 := by
  intro d
  induction d with
  | zero => intro _ _; rfl
  | succ d ih => intro h1 h2; rw [gsuf, gtk_ge (by omega), ih (by omega) (by omega)]; simp
theorem gsuf_pos {sz : Int} {lt rk : Nat → Int} (h : gok sz lt) (ha : gal rk) {d : Nat} (hd : d < 6) (hs : ((5 - d : Nat) : Int) < sz) : 27 ^ d ≤ gsuf sz lt rk (d + 1) := by
  have h1 := gtk_lt h ha hs
  have h2 : (0 : Int) ≤ 27 ^ d := Int.pow_nonneg (by decide)
  have h3 := (gsuf_in h ha d).1
  have h4 : 1 * 27 ^ d ≤ gtk sz lt rk (5 - d) * 27 ^ d := Int.mul_le_mul_of_nonneg_right h1.2.1 h2
  rw [gsuf]
  omega
/-- the reference's comparison from place 6 - d on -/
def glex (a b : Int) (la lb rk : Nat → Int) (i j : Nat) : Nat → Prop
  | 0 => if a = b then i < j else a < b
  | d + 1 => if ((5 - d : Nat) : Int) < a ∧ ((5 - d : Nat) : Int) < b then (if la (5 - d) = lb (5 - d) then glex a b la lb rk i j d else rk (la (5 - d)).toNat < rk (lb (5 - d)).toNat) else (if a = b then i < j else a < b)
theorem glex_iff {a b : Int} {la lb rk : Nat → Int} {i j : Nat} (ha : gok a la) (hb : gok b lb) (hr : gal rk) : ∀ d, d ≤ 6 → ((6 - d : Nat) : Int) ≤ a → ((6 - d : Nat) : Int) ≤ b → (glex a b la lb rk i j d ↔ (gsuf a la rk d < gsuf b lb rk d ∨ (gsuf a la rk d = gsuf b lb rk d ∧ i < j))) := by
  intro d
  induction d with
  | zero =>
    intro _ h1 h2
    have e : a = b := by have := ha.1; have := hb.1; omega
    rw [glex, if_pos e, gsuf, gsuf]
    omega
  | succ d ih =>
    intro hd h1 h2
    rw [glex]
    have s1 := gsuf_in ha hr d
    have s2 := gsuf_in hb hr d
    by_cases hc : ((5 - d : Nat) : Int) < a ∧ ((5 - d : Nat) : Int) < b
    · rw [if_pos hc]
      have g1 := gtk_lt ha hr hc.1
      have g2 := gtk_lt hb hr hc.2
      have l1 := ha.2 _ hc.1
      have l2 := hb.2 _ hc.2
      have hP : (0 : Int) < 27 ^ d := Int.pow_pos (by decide)
      by_cases he : la (5 - d) = lb (5 - d)
      · rw [if_pos he, ih (by omega) (by omega) (by omega), gsuf, gsuf, g1.1, g2.1, he]
        omega
      · rw [if_neg he]
        have hne : rk (la (5 - d)).toNat ≠ rk (lb (5 - d)).toNat := fun q => he (by have := hr.2 _ _ (by omega) (by omega) q; omega)
        rw [gsuf, gsuf]
        rcases Int.lt_or_gt_of_ne hne with q | q
        · have : (gtk a la rk (5 - d) + 1) * 27 ^ d ≤ gtk b lb rk (5 - d) * 27 ^ d := Int.mul_le_mul_of_nonneg_right (by omega) (Int.le_of_lt hP)
          rw [Int.add_mul] at this
          exact ⟨fun _ => Or.inl (by omega), fun _ => q⟩
        · have : (gtk b lb rk (5 - d) + 1) * 27 ^ d ≤ gtk a la rk (5 - d) * 27 ^ d := Int.mul_le_mul_of_nonneg_right (by omega) (Int.le_of_lt hP)
          rw [Int.add_mul] at this
          exact ⟨fun z => absurd z (by omega), fun z => by omega⟩
    · rw [if_neg hc]
      have hP : (0 : Int) < 27 ^ d := Int.pow_pos (by decide)
      by_cases hab : a = b
      · rw [if_pos hab, gsuf_0 (d + 1) hd (by omega), gsuf_0 (d + 1) hd (by omega)]
        omega
      · rw [if_neg hab]
        rcases Int.lt_or_gt_of_ne hab with q | q
        · have g := gsuf_pos hb hr (d := d) (by omega) (by omega)
          rw [gsuf_0 (sz := a) (d + 1) hd (by omega)]
          exact ⟨fun _ => Or.inl (by omega), fun _ => q⟩
        · have g := gsuf_pos ha hr (d := d) (by omega) (by omega)
          rw [gsuf_0 (sz := b) (d + 1) hd (by omega)]
          exact ⟨fun z => absurd z (by omega), fun z => by omega⟩
/-- what the reference answers of two names -/
def gahead (a b : Int) (la lb rk : Nat → Int) (i j : Nat) : Prop := if a = 0 ∨ b = 0 then 0 < a ∨ (b = 0 ∧ i < j) else glex a b la lb rk i j 6
theorem gkeyOf_in {sz : Int} {lt rk : Nat → Int} (h : gok sz lt) (hr : gal rk) : 0 ≤ gkeyOf sz lt rk ∧ gkeyOf sz lt rk ≤ 387420489 ∧ (sz ≠ 0 → gkeyOf sz lt rk < 387420489) := by
  unfold gkeyOf
  by_cases h0 : sz = 0
  · rw [if_pos h0]; exact ⟨by decide, by decide, fun q => absurd h0 q⟩
  · rw [if_neg h0, gkey_6]
    have := gsuf_in h hr 6
    have e : (27 : Int) ^ 6 = 387420489 := by decide
    omega
theorem gahead_iff {a b : Int} {la lb rk : Nat → Int} {i j : Nat} (ha : gok a la) (hb : gok b lb) (hr : gal rk) : gahead a b la lb rk i j ↔ (gkeyOf a la rk < gkeyOf b lb rk ∨ (gkeyOf a la rk = gkeyOf b lb rk ∧ i < j)) := by
  have ia := gkeyOf_in ha hr
  have ib := gkeyOf_in hb hr
  have a0 := ha.1
  have b0 := hb.1
  unfold gahead
  by_cases h0 : a = 0 ∨ b = 0
  · rw [if_pos h0]
    by_cases hA : a = 0
    · have e : gkeyOf a la rk = 387420489 := if_pos hA
      by_cases hB : b = 0
      · have e2 : gkeyOf b lb rk = 387420489 := if_pos hB
        omega
      · have := ib.2.2 hB; omega
    · have hB : b = 0 := by omega
      have e2 : gkeyOf b lb rk = 387420489 := if_pos hB
      have := ia.2.2 hA; omega
  · rw [if_neg h0, glex_iff ha hb hr 6 (by decide) (by omega) (by omega)]
    have e1 : gkeyOf a la rk = gsuf a la rk 6 := by unfold gkeyOf; rw [if_neg (by omega), gkey_6]
    have e2 : gkeyOf b lb rk = gsuf b lb rk 6 := by unfold gkeyOf; rw [if_neg (by omega), gkey_6]
    rw [e1, e2]
