/-! NUMBERS: an int operation of the machine, by the whole numbers that its operands are -/
theorem nu_bm {v : Int} (h : inR v) : v.bmod (2 ^ 32) = v := Int.bmod_eq_of_le (by have := h.1; omega) (by have := h.2; omega)
theorem nu_bl {v : Int} (h : inL v) : v.bmod (2 ^ 64) = v := Int.bmod_eq_of_le (by have := h.1; omega) (by have := h.2; omega)
theorem nu_in (x : Int32) : inR x.toInt := ⟨by have := Int32.le_toInt x; omega, by have := Int32.toInt_lt x; omega⟩
theorem nu_inl (x : Int64) : inL x.toInt := ⟨by have := Int64.le_toInt x; omega, by have := Int64.toInt_lt x; omega⟩
theorem nu_add {x y : Int32} (h : inR (x.toInt + y.toInt)) : (x + y).toInt = x.toInt + y.toInt := by rw [Int32.toInt_add, nu_bm h]
theorem nu_sub {x y : Int32} (h : inR (x.toInt - y.toInt)) : (x - y).toInt = x.toInt - y.toInt := by rw [Int32.toInt_sub, nu_bm h]
theorem nu_mul {x y : Int32} (h : inR (x.toInt * y.toInt)) : (x * y).toInt = x.toInt * y.toInt := by rw [Int32.toInt_mul, nu_bm h]
theorem nu_neg {x : Int32} (h : inR (-x.toInt)) : (-x).toInt = -x.toInt := by rw [Int32.toInt_neg, nu_bm h]
theorem nu_ladd {x y : Int64} (h : inL (x.toInt + y.toInt)) : (x + y).toInt = x.toInt + y.toInt := by rw [Int64.toInt_add, nu_bl h]
theorem nu_lmul {x y : Int64} (h : inL (x.toInt * y.toInt)) : (x * y).toInt = x.toInt * y.toInt := by rw [Int64.toInt_mul, nu_bl h]
theorem nu_eq {x y : Int32} : x = y ↔ x.toInt = y.toInt := Int32.toInt_inj.symm
theorem nu_leq {x y : Int64} : x = y ↔ x.toInt = y.toInt := Int64.toInt_inj.symm
theorem nu_nat {x : Int32} (h : 0 ≤ x.toInt) : ∃ n : Nat, n < 2 ^ 31 ∧ x = nI n ∧ x.toInt = n := by
  obtain ⟨n, hn, e⟩ := nI_of (x := x) (fun q => by have := Int32.lt_iff_toInt_lt.mp q; simp at this; omega)
  exact ⟨n, hn, e, by rw [e, nI_toInt hn]⟩
theorem nu_lnat {x : Int64} (h : 0 ≤ x.toInt) : ∃ n : Nat, n < 2 ^ 63 ∧ x = lN n ∧ x.toInt = n := by
  obtain ⟨n, hn, e⟩ := pk_lOf (x := x) (fun q => by have := Int64.lt_iff_toInt_lt.mp q; simp at this; omega)
  exact ⟨n, hn, e, by rw [e, pk_lT hn]⟩
theorem nu_cl {x : Int32} : x.toNatClampNeg = x.toInt.toNat := (Int32.toNat_toInt x).symm
theorem nu_vin {x : Int32} {n : Nat} (h0 : 0 ≤ x.toInt) (h : x.toInt < n) : vp_in x n := vp_in_iff.mpr ⟨h0, h⟩
theorem nu_div {x y : Int32} (hx : 0 ≤ x.toInt) (hy : 0 < y.toInt) : (x / y).toInt = x.toInt / y.toInt := by
  obtain ⟨a, ha, e, ea⟩ := nu_nat hx
  obtain ⟨b, hb, f, eb⟩ := nu_nat (x := y) (by omega)
  rw [ea, eb, e, f, pk_div ha (by omega) hb, nI_toInt (Nat.lt_of_le_of_lt (Nat.div_le_self a b) ha)]
  simp
theorem nu_rem {x y : Int32} (hx : 0 ≤ x.toInt) (hy : 0 < y.toInt) : (x - x / y * y).toInt = x.toInt % y.toInt := by
  obtain ⟨a, ha, e, ea⟩ := nu_nat hx
  obtain ⟨b, hb, f, eb⟩ := nu_nat (x := y) (by omega)
  rw [ea, eb, e, f, pk_rem ha (by omega) hb, nI_toInt (Nat.lt_of_le_of_lt (Nat.mod_le a b) ha)]
  simp
theorem nu_lrem {x y : Int64} (hx : 0 ≤ x.toInt) (hy : 0 < y.toInt) : (x - x / y * y).toInt = x.toInt % y.toInt := by
  obtain ⟨a, ha, e, ea⟩ := nu_lnat hx
  obtain ⟨b, hb, f, eb⟩ := nu_lnat (x := y) (by omega)
  rw [ea, eb, e, f, pk_lRem ha (by omega) hb, pk_lT (Nat.lt_of_le_of_lt (Nat.mod_le a b) ha)]
  simp
theorem nu_sl : ∀ n, n < 32 → ((nI n &&& 31).toBitVec.smod 32).toNat = n := by decide +kernel
theorem nu_su : ∀ n, n < 32 → (((nI n).toUInt32 &&& Int32.toUInt32 31).toBitVec % 32).toNat = n := by decide +kernel
theorem nu_shl {x y : Int32} (hx : 0 ≤ x.toInt) (hy : 0 ≤ y.toInt) (hy2 : y.toInt < 32) (h : inR (x.toInt * 2 ^ y.toInt.toNat)) : (x <<< (y &&& 31)).toInt = x.toInt * 2 ^ y.toInt.toNat := by
  obtain ⟨a, ha, e, ea⟩ := nu_nat hx
  obtain ⟨b, hb, f, eb⟩ := nu_nat hy
  have hb2 : b < 32 := by omega
  rw [ea, eb] at h ⊢
  have e3 : ((a : Int) * 2 ^ (b : Int).toNat) = ((a * 2 ^ b : Nat) : Int) := by simp
  rw [e3] at h ⊢
  have h2 := h.2
  rw [e, f, pk_shlN _ b (nu_sl b hb2) (by omega), nI_toInt (by omega)]
theorem nu_shr {x y : Int32} (hx : 0 ≤ x.toInt) (hy : 0 ≤ y.toInt) (hy2 : y.toInt < 32) : (x >>> (y &&& 31)).toInt = x.toInt / 2 ^ y.toInt.toNat := by
  obtain ⟨a, ha, e, ea⟩ := nu_nat hx
  obtain ⟨b, hb, f, eb⟩ := nu_nat hy
  rw [ea, eb, e, f, pk_shrN ha _ b (nu_sl b (by omega)), nI_toInt (Nat.lt_of_le_of_lt (Nat.div_le_self a _) ha)]
  simp
theorem nu_ushr {x y : Int32} (hx : 0 ≤ x.toInt) (hy : 0 ≤ y.toInt) (hy2 : y.toInt < 32) : ((x.toUInt32 >>> (y.toUInt32 &&& Int32.toUInt32 31)).toInt32).toInt = x.toInt / 2 ^ y.toInt.toNat := by
  obtain ⟨a, ha, e, ea⟩ := nu_nat hx
  obtain ⟨b, hb, f, eb⟩ := nu_nat hy
  rw [ea, eb, e, f, pk_ushrN (by omega) _ b (nu_su b (by omega)), nI_toInt (Nat.lt_of_le_of_lt (Nat.div_le_self a _) ha)]
  simp
/-- a number of the machine by its bits -/
theorem nu_bits {x : Int32} {n : Nat} (hn : n < 2 ^ 31) (h : x.toBitVec.toNat = n) : x.toInt = n := by
  rw [← Int32.toInt_toBitVec, BitVec.toInt_eq_toNat_of_lt (by omega), h]
theorem nu_tn {x : Int32} {n : Nat} (hn : n < 2 ^ 31) (h : x.toInt = n) : x.toBitVec.toNat = n := by
  rw [← Int32.toInt_toBitVec, BitVec.toInt_eq_toNat_cond] at h
  have := x.toBitVec.isLt
  split at h <;> omega
theorem nu_ntn {x : Int32} {z : Nat} (h : x.toInt = -(z : Int) - 1) : x.toBitVec.toNat = 2 ^ 32 - 1 - z := by
  rw [← Int32.toInt_toBitVec, BitVec.toInt_eq_toNat_cond] at h
  have := x.toBitVec.isLt
  split at h <;> omega
theorem nu_and {x y : Int32} {a b : Nat} (ha : a < 2 ^ 31) (hb : b < 2 ^ 31) (hx : x.toInt = a) (hy : y.toInt = b) : (x &&& y).toInt = ((a &&& b : Nat) : Int) :=
  nu_bits (Nat.lt_of_le_of_lt Nat.and_le_left ha) (by rw [Int32.toBitVec_and, BitVec.toNat_and, nu_tn ha hx, nu_tn hb hy])
theorem nu_or {x y : Int32} {a b : Nat} (ha : a < 2 ^ 31) (hb : b < 2 ^ 31) (hx : x.toInt = a) (hy : y.toInt = b) : (x ||| y).toInt = ((a ||| b : Nat) : Int) :=
  nu_bits (Nat.or_lt_two_pow ha hb) (by rw [Int32.toBitVec_or, BitVec.toNat_or, nu_tn ha hx, nu_tn hb hy])
theorem nu_xor {x y : Int32} {a b : Nat} (ha : a < 2 ^ 31) (hb : b < 2 ^ 31) (hx : x.toInt = a) (hy : y.toInt = b) : (x ^^^ y).toInt = ((a ^^^ b : Nat) : Int) :=
  nu_bits (Nat.xor_lt_two_pow ha hb) (by rw [Int32.toBitVec_xor, BitVec.toNat_xor, nu_tn ha hx, nu_tn hb hy])
theorem nu_andn {x y : Int32} {a z : Nat} (ha : a < 2 ^ 31) (hx : x.toInt = a) (hy : y.toInt = -(z : Int) - 1) : (x &&& y).toInt = ((bi_andn a z : Nat) : Int) := by
  have hz : z < 2 ^ 31 := by have := (nu_in y).1; omega
  have e1 : y.toBitVec = ~~~(BitVec.ofNat 32 z) := by
    apply BitVec.eq_of_toNat_eq
    rw [nu_ntn hy, BitVec.toNat_not, BitVec.toNat_ofNat, Nat.mod_eq_of_lt (by omega)]
  have e2 : x.toBitVec = BitVec.ofNat 32 a := by
    apply BitVec.eq_of_toNat_eq
    rw [nu_tn ha hx, BitVec.toNat_ofNat, Nat.mod_eq_of_lt (by omega)]
  have e3 : BitVec.ofNat 32 a &&& ~~~(BitVec.ofNat 32 z) = BitVec.ofNat 32 a ^^^ (BitVec.ofNat 32 a &&& BitVec.ofNat 32 z) := by
    apply BitVec.eq_of_getLsbD_eq
    intro i hi
    simp only [BitVec.getLsbD_and, BitVec.getLsbD_xor, BitVec.getLsbD_not, hi, decide_true, Bool.true_and]
    cases (BitVec.ofNat 32 a).getLsbD i <;> cases (BitVec.ofNat 32 z).getLsbD i <;> rfl
  refine nu_bits ?_ ?_
  · unfold bi_andn
    exact Nat.xor_lt_two_pow ha (Nat.lt_of_le_of_lt Nat.and_le_left ha)
  · rw [Int32.toBitVec_and, e1, e2, e3, BitVec.toNat_xor, BitVec.toNat_and, BitVec.toNat_ofNat, BitVec.toNat_ofNat, Nat.mod_eq_of_lt (by omega), Nat.mod_eq_of_lt (by omega)]
    rfl
theorem nu_and_comm (x y : Int32) : x &&& y = y &&& x := by
  apply Int32.toBitVec_inj.mp
  rw [Int32.toBitVec_and, Int32.toBitVec_and, BitVec.and_comm]
theorem nu_not {x y : Int32} (hy : y.toInt = -1) : (x ^^^ y).toInt = -x.toInt - 1 := by
  have e : y = -1 := nu_eq.mpr (by rw [hy]; rfl)
  have e2 : x ^^^ (-1) = ~~~x := by
    apply Int32.toBitVec_inj.mp
    rw [Int32.toBitVec_xor, Int32.toBitVec_not]
    apply BitVec.eq_of_getLsbD_eq
    intro i hi
    have : (-1 : Int32).toBitVec = BitVec.allOnes 32 := by decide
    rw [this, BitVec.getLsbD_xor, BitVec.getLsbD_not, BitVec.getLsbD_allOnes, decide_eq_true hi]
    cases x.toBitVec.getLsbD i <;> rfl
  rw [e, e2, Int32.toInt_not, nu_bm]
  have := nu_in x
  exact ⟨by omega, by omega⟩
/-- the table of int operations is the machine's -/
theorem nu_bi_and {x y : Int32} {z : Int} (h : bi_and x.toInt y.toInt = some z) : (x &&& y).toInt = z := by
  unfold bi_and at h
  by_cases hx : 0 ≤ x.toInt
  · obtain ⟨a, ha, -, ea⟩ := nu_nat hx
    rw [if_pos hx] at h
    by_cases hy : 0 ≤ y.toInt
    · obtain ⟨b, hb, -, eb⟩ := nu_nat hy
      rw [if_pos hy, ea, eb] at h
      rw [nu_and ha hb ea eb]
      simpa using h
    · rw [if_neg hy, ea] at h
      rw [nu_andn (z := (-y.toInt - 1).toNat) ha ea (by omega)]
      simpa using h
  · rw [if_neg hx] at h
    by_cases hy : 0 ≤ y.toInt
    · obtain ⟨b, hb, -, eb⟩ := nu_nat hy
      rw [if_pos hy, eb] at h
      rw [nu_and_comm, nu_andn (z := (-x.toInt - 1).toNat) hb eb (by omega)]
      simpa using h
    · rw [if_neg hy] at h
      cases h
theorem nu_b8 {x : Int32} (h1 : -128 ≤ x.toInt) (h2 : x.toInt ≤ 127) : x.toInt8.toInt32 = x := by
  apply nu_eq.mpr
  rw [Int8.toInt_toInt32, Int32.toInt_toInt8]
  exact Int.bmod_eq_of_le (by omega) (by omega)
theorem nu_c16 {x : Int32} (h1 : 0 ≤ x.toInt) (h2 : x.toInt < 65536) : (x.toUInt32 % 65536).toInt32 = x := by
  obtain ⟨a, ha, e, ea⟩ := nu_nat h1
  rw [pk_char, e, pk_tn (by omega), Nat.mod_eq_of_lt (by omega)]
