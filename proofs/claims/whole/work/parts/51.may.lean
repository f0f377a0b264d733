/-! may -/
/-- two first letters suit each other, at a reach -/
def mSuit (M : Mem) (a b r : Int) : Prop := a < 0 ∨ b < 0 ∨ ((-r ≤ M 180 (144 + a.toNat) - M 180 (144 + b.toNat) ∧ M 180 (144 + a.toNat) - M 180 (144 + b.toNat) ≤ r) ∧ ¬ mQ (M 174) (M 179) a.toNat b.toNat)
/-- two may wed -/
def mMay (M : Mem) (i k : Nat) (r : Int) : Prop := i ≠ k ∧ M 180 (64 + i) = 0 ∧ M 180 (64 + k) = 0 ∧ mSuit M (mf M 0 i) (mf M 0 k) r
section May
variable {S : Shp} {M : Mem} {Q : Res → Prop}
theorem sp_suits (hS : KC S) {n : Nat} (hT : Tn M 8 0 n) {a b r : Int} (ha : a = -4 ∨ (0 ≤ a ∧ a < 26)) (hb : b = -4 ∨ (0 ≤ b ∧ b < 26)) (h1 : mSuit M a b r → Q (S, M, some (.inl 1))) (h0 : ¬ mSuit M a b r → Q (S, M, some (.inl 0))) : Ca 83 [.inr (.inr 9), .inl a, .inl b, .inl r] S M Q := by
  obtain ⟨t0, t1, t2, t3, t4, t5, t6, t7, t8, t9, t10⟩ := Tn_TT hT
  refine r_X7_suits_0 (t := 8) hS (by decide) ⟨fun z => h1 (Or.inl (by omega)), fun z => ⟨fun z2 => ?_, fun z2 => h1 (Or.inr (Or.inl (by omega)))⟩⟩
  have a1 : 0 ≤ a ∧ a < 26 := by omega
  have b1 : 0 ≤ b ∧ b < 26 := by omega
  have e1 : M (8 + 8) a.toNat = M 180 (144 + a.toNat) := t8 _ (by omega)
  have e2 : M (8 + 8) b.toNat = M 180 (144 + b.toNat) := t8 _ (by omega)
  have r1 : 0 ≤ M 180 (144 + a.toNat) ∧ M 180 (144 + a.toNat) < 26 := t9.1 _ (by omega)
  have r2 : 0 ≤ M 180 (144 + b.toNat) ∧ M 180 (144 + b.toNat) < 26 := t9.1 _ (by omega)
  rw [e1, e2]
  refine ⟨a1, b1, by unfold inR; omega, by unfold inR; omega, fun w => h0 ?_, fun w => ?_⟩
  · rintro (q | q | q)
    · omega
    · omega
    · split at w <;> omega
  · have w' : -r ≤ M 180 (144 + a.toNat) - M 180 (144 + b.toNat) ∧ M 180 (144 + a.toNat) - M 180 (144 + b.toNat) ≤ r := by split at w <;> omega
    have ca : ((a.toNat : Nat) : Int) = a := by omega
    have cb : ((b.toNat : Nat) : Int) = b := by omega
    have he := hT.2.2.2.2.2.2.2.2.2.2
    have he0 := hT.2.2.2.2.2.2.2.2.2.1
    have x0 : 0 ≤ M (8 + 10) a.toNat := (he0 a.toNat (by omega)).1
    have xx : (M (8 + 10) a.toNat).toNat.testBit b.toNat = true ↔ mQ (M 174) (M 179) a.toNat b.toNat := he a.toNat b.toNat (by omega) (by omega)
    have key : Ca 72 [.inr (.inr (8 + 1)), .inl ((a.toNat : Nat) : Int), .inl ((b.toNat : Nat) : Int)] S M (fun r => ∃ (M5 : Mem) (v6 : Int), r = (S, M5, some (.inl v6)) ∧ ((v6 ≠ 0 → Q (S, M5, some (.inl (0 : Int)))) ∧ (v6 = 0 → Q (S, M5, some (.inl (1 : Int)))))) := by
      refine sp_areEnemies (t := 8) hS (by decide) (by omega) (by omega) x0 ⟨_, _, rfl, ?_⟩
      by_cases hq : (M (8 + 10) a.toNat).toNat.testBit b.toNat = true
      · rw [if_pos hq]
        refine ⟨fun _ => h0 ?_, fun z => absurd z (by decide)⟩
        rintro (q | q | q)
        · omega
        · omega
        · exact q.2 (xx.mp hq)
      · rw [if_neg hq]
        exact ⟨fun z => absurd rfl z, fun _ => h1 (Or.inr (Or.inr ⟨w', fun z => hq (xx.mpr z)⟩))⟩
    rw [ca, cb] at key
    exact key
theorem sp_mayWed (hS : KC S) {n : Nat} (hT : Tn M 8 0 n) {i k : Nat} (hi : i < n) (hk : k < n) (hik : i ≠ k) {r : Int} (h1 : mMay M i k r → Q (S, M, some (.inl 1))) (h0 : ¬ mMay M i k r → Q (S, M, some (.inl 0))) : Ca 84 [.inr (.inr 9), .inl (i : Int), .inl (k : Int), .inl r] S M Q := by
  have hn8 := hT.1.1
  obtain ⟨t0, t1, t2, t3, t4, t5, t6, t7, t8, t9, t10⟩ := Tn_TT hT
  have w1 := t5 i hi
  have w2 := t5 k hk
  refine r_X7_mayWed_0 (t := 8) hS (by decide) ?_
  rw [Int.toNat_natCast, Int.toNat_natCast]
  refine ⟨by omega, fun z => h0 (fun q => ?_), fun z => ⟨by omega, fun z2 => h0 (fun q => ?_), fun z2 => ?_⟩⟩
  · have z' : M 13 i ≠ -4 := z
    have := q.2.1; omega
  · have z' : M 13 k ≠ -4 := z2
    have := q.2.2.1; omega
  · have z' : M 13 i = -4 := z
    have z2' : M 13 k = -4 := z2
    refine sp_first (t := 8) hS (by decide) (by omega) ⟨_, _, rfl, sp_first (t := 8) hS (by decide) (by omega) ⟨_, _, rfl, ?_⟩⟩
    rw [Tn_f hT hi, Tn_f hT hk]
    refine sp_suits hS hT (Tn_fin hT hi) (Tn_fin hT hk) (fun q => ⟨_, _, rfl, fun z => absurd z (by decide), fun _ => h1 ⟨hik, by omega, by omega, q⟩⟩) (fun q => ⟨_, _, rfl, fun _ => h0 (fun y => q y.2.2.2), fun z => absurd rfl z⟩)
theorem sq_isMay0 (hM : KM S) {i k : Nat} (hi : i < 8) (hk : k < 8) (w1 : 0 ≤ M 180 (64 + i)) (w2 : 0 ≤ M 180 (64 + k)) (f1 : mf M 0 i = -4 ∨ (0 ≤ mf M 0 i ∧ mf M 0 i < 26)) (f2 : mf M 0 k = -4 ∨ (0 ≤ mf M 0 k ∧ mf M 0 k < 26)) (t9 : gal (fun x => M 180 (144 + x))) (hc : 0 ≤ M 174 4 ∧ M 174 4 ≤ 6) {r : Int} (hr : 0 ≤ r ∧ r ≤ 25) (h1 : mMay M i k r → Q (S, M, some (.inl 1))) (h0 : ¬ mMay M i k r → Q (S, M, some (.inl 0))) : Ca 177 [.inr (.inr 173), .inl (i : Int), .inl (k : Int), .inl r] S M Q := by
  apply r_X9_isMay_0 hM
  have e1 : ((64 : Int) + i).toNat = 64 + i := by omega
  have e2 : ((64 : Int) + k).toNat = 64 + k := by omega
  rw [e1, e2]
  refine ⟨fun z => h0 (fun q => q.1 (by omega)), fun z => ⟨by unfold inR; omega, by omega, fun y => h0 (fun q => by have := q.2.1; omega), fun y => ⟨by unfold inR; omega, by omega, fun y2 => ?_, fun y2 => h0 (fun q => by have := q.2.2.1; omega)⟩⟩⟩
  refine sq_first (s := 0) hM (by decide) (by omega) ⟨_, _, rfl, sq_first (s := 0) hM (by decide) (by omega) ⟨_, _, rfl, fun g => h1 ⟨by omega, by omega, by omega, Or.inl g⟩, fun g => ⟨fun g2 => ?_, fun g2 => h1 ⟨by omega, by omega, by omega, Or.inr (Or.inl g2)⟩⟩⟩⟩
  obtain ⟨x, hx⟩ : ∃ x : Nat, mf M 0 i = (x : Int) := ⟨(mf M 0 i).toNat, by omega⟩
  obtain ⟨y', hy⟩ : ∃ x : Nat, mf M 0 k = (x : Int) := ⟨(mf M 0 k).toNat, by omega⟩
  have hx26 : x < 26 := by omega
  have hy26 : y' < 26 := by omega
  have r1 : 0 ≤ M 180 (144 + x) ∧ M 180 (144 + x) < 26 := t9.1 _ hx26
  have r2 : 0 ≤ M 180 (144 + y') ∧ M 180 (144 + y') < 26 := t9.1 _ hy26
  unfold mMay mSuit at h1 h0
  rw [hx, hy] at h1 h0 ⊢
  rw [Int.toNat_natCast, Int.toNat_natCast] at h1 h0
  have e3 : ((144 : Int) + x).toNat = 144 + x := by omega
  have e4 : ((144 : Int) + y').toNat = 144 + y' := by omega
  rw [e3, e4]
  refine ⟨by unfold inR; omega, by omega, by unfold inR; omega, by omega, by unfold inR; omega, by unfold inR; omega, sq_in hM ⟨_, _, rfl, ?_⟩⟩
  by_cases hd : -r ≤ M 180 (144 + x) - M 180 (144 + y') ∧ M 180 (144 + x) - M 180 (144 + y') ≤ r
  · rw [if_pos hd]
    refine ⟨fun z => absurd z (by decide), fun _ => sq_isQuarrel hM hc (fun q => ⟨_, _, rfl, fun _ => h0 (fun w => ?_), fun z => absurd z (by decide)⟩) (fun q => ⟨_, _, rfl, fun z => absurd rfl z, fun _ => h1 ⟨by omega, by omega, by omega, Or.inr (Or.inr ⟨hd, q⟩)⟩⟩)⟩
    rcases w.2.2.2 with w | w | w
    · omega
    · omega
    · exact w.2 q
  · rw [if_neg hd]
    refine ⟨fun _ => h0 (fun w => ?_), fun z => absurd rfl z⟩
    rcases w.2.2.2 with w | w | w
    · omega
    · omega
    · exact hd w.1
theorem sq_isMay (hM : KM S) {n : Nat} (hT : Tn M 8 0 n) {i k : Nat} (hi : i < n) (hk : k < n) {r : Int} (hr : 0 ≤ r ∧ r ≤ 25) (h1 : mMay M i k r → Q (S, M, some (.inl 1))) (h0 : ¬ mMay M i k r → Q (S, M, some (.inl 0))) : Ca 177 [.inr (.inr 173), .inl (i : Int), .inl (k : Int), .inl r] S M Q := by
  have hn8 := hT.1.1
  obtain ⟨t0, t1, t2, t3, t4, t5, t6, t7, t8, t9, t10⟩ := Tn_TT hT
  have w1 := t5 i hi
  have w2 := t5 k hk
  exact sq_isMay0 hM (by omega) (by omega) (by omega) (by omega) (Tn_fin hT hi) (Tn_fin hT hk) t9 hT.2.2.2.2.2.2.2.1 hr h1 h0
end May
