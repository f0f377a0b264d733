/-! may, wed -/
section Wed
variable {S : Shp} {M : Mem} {Q : Res → Prop}
def two (n : Nat) (p q : Int) : Prop := (0 ≤ p ∧ p ≤ (n : Int) - 1) ∧ (0 ≤ q ∧ q ≤ (n : Int) - 1) ∧ p ≠ q
theorem sp_areTwo (hS : KC S) {n : Nat} (hn : M 8 0 = n) {p q : Int} (h1 : two n p q → Q (S, M, some (.inl 1))) (h0 : ¬ two n p q → Q (S, M, some (.inl 0))) : Ca 133 [.inr (.inr 5), .inl p, .inl q] S M Q := by
  apply r_X8_areTwo_0 hS
  refine sp_isPerson hS hn ⟨_, _, rfl, ?_⟩
  by_cases hp : 0 ≤ p ∧ p ≤ (n : Int) - 1
  · rw [if_pos hp]
    refine ⟨fun z => absurd z (by decide), fun _ => sp_isPerson hS hn ⟨_, _, rfl, ?_⟩⟩
    by_cases hq : 0 ≤ q ∧ q ≤ (n : Int) - 1
    · rw [if_pos hq]
      exact ⟨fun z => absurd z (by decide), fun _ => ⟨fun z => h0 (fun w => w.2.2 z), fun z => h1 ⟨hp, hq, z⟩⟩⟩
    · rw [if_neg hq]
      exact ⟨fun _ => h0 (fun w => hq w.2.1), fun z => absurd rfl z⟩
  · rw [if_neg hp]
    exact ⟨fun _ => h0 (fun w => hp w.1), fun z => absurd rfl z⟩
theorem sq_isTwo (hM : KM S) {n : Nat} (hn : M 174 0 = n) (hn8 : n ≤ 8) {p q : Int} (h1 : two n p q → Q (S, M, some (.inl 1))) (h0 : ¬ two n p q → Q (S, M, some (.inl 0))) : Ca 178 [.inr (.inr 173), .inl p, .inl q] S M Q := by
  apply r_X9_isTwo_0 hM
  refine sq_isPerson hM hn hn8 ⟨_, _, rfl, ?_⟩
  by_cases hp : 0 ≤ p ∧ p ≤ (n : Int) - 1
  · rw [if_pos hp]
    refine ⟨fun z => absurd z (by decide), fun _ => sq_isPerson hM hn hn8 ⟨_, _, rfl, ?_⟩⟩
    by_cases hq : 0 ≤ q ∧ q ≤ (n : Int) - 1
    · rw [if_pos hq]
      exact ⟨fun z => absurd z (by decide), fun _ => ⟨fun z => h0 (fun w => w.2.2 z), fun z => h1 ⟨hp, hq, z⟩⟩⟩
    · rw [if_neg hq]
      exact ⟨fun _ => h0 (fun w => hq w.2.1), fun z => absurd rfl z⟩
  · rw [if_neg hp]
    exact ⟨fun _ => h0 (fun w => hp w.1), fun z => absurd rfl z⟩
theorem two_nat {n : Nat} {p q : Int} (h : two n p q) : ∃ i k : Nat, p = (i : Int) ∧ q = (k : Int) ∧ i < n ∧ k < n ∧ i ≠ k := ⟨p.toNat, q.toNat, by have := h.1; omega, by have := h.2.1; omega, by have := h.1; omega, by have := h.2.1; omega, by obtain ⟨a, b, c⟩ := h; omega⟩
theorem mMay_same {M M1 : Mem} (s : Same M M1) (hc : 0 ≤ M 174 4 ∧ M 174 4 ≤ 6) {n i k : Nat} (hT : Tn M 8 0 n) (hi : i < n) (hk : k < n) (r : Int) : mMay M1 i k r ↔ mMay M i k r := by
  have hn8 := hT.1.1
  have e : ∀ q k, ¬ scr q k → M1 q k = M q k := s
  have f1 := Tn_fin hT hi
  have f2 := Tn_fin hT hk
  have ef : ∀ j, j < 8 → mf M1 0 j = mf M 0 j := fun j hj => by unfold mf; rw [e _ _ (by unfold scr; omega), e _ _ (by unfold scr; omega)]
  unfold mMay mSuit
  rw [ef i (by omega), ef k (by omega), e 180 (64 + i) (by unfold scr; omega), e 180 (64 + k) (by unfold scr; omega), mQ_same s hc, e 180 (144 + (mf M 0 i).toNat) (by unfold scr; omega), e 180 (144 + (mf M 0 k).toNat) (by unfold scr; omega)]
theorem sim_may (hS : KC S) (hM : KM S) (hR : Rel M) (p q : Int) : Sim S M 106 179 [.inl p, .inl q] := by
  obtain ⟨n, hT, -⟩ := id hR
  have hn8 := hT.1.1
  have hn : M 8 0 = n := hT.2.1.1
  have hr : M 8 2 = M 174 2 := hT.2.2.2.1.1
  have hr2 : 0 ≤ M 174 2 ∧ M 174 2 ≤ 25 := hT.2.2.2.1.2
  have hc := hT.2.2.2.2.2.2.2.1
  by_cases h2 : two n p q
  · obtain ⟨i, k, rfl, rfl, hi, hk, hik⟩ := two_nat h2
    have D : Decidable (mMay M i k (M 174 2)) := Classical.propDecidable _
    refine Sim.query hR (if mMay M i k (M 174 2) then 1 else 0) (fun Q h => ?_) (fun M1 s1 hR1 Q h => ?_)
    · have h0 := h M (Same.refl M)
      apply r_X8_may_0 hS
      refine sp_areTwo hS hn (fun _ => ⟨_, _, rfl, fun _ => ?_, fun z => absurd z (by decide)⟩) (fun z => absurd h2 z)
      rw [hr]
      refine sp_mayWed hS hT hi hk hik (fun z => ⟨_, _, rfl, fun z => absurd z (by decide), fun _ => ?_⟩) (fun z => ⟨_, _, rfl, fun _ => ?_, fun z => absurd rfl z⟩)
      · rw [if_pos z] at h0; exact h0
      · rw [if_neg z] at h0; exact h0
    · obtain ⟨n', hT1, -⟩ := hR1
      have en := Tn_n hT hT1 (s1 174 0 (by unfold scr; omega))
      subst en
      have h0 := h M1 (Same.refl M1)
      have e2 : M1 174 (2 : Int).toNat = M 174 2 := s1 174 2 (by unfold scr; omega)
      apply r_X9_may_0 hM
      refine sq_isTwo hM hT1.2.1.2.1 hn8 (fun _ => ⟨_, _, rfl, fun _ => ⟨by decide, ?_⟩, fun z => absurd z (by decide)⟩) (fun z => absurd h2 z)
      rw [e2]
      refine sq_isMay hM hT1 hi hk hr2 (fun z => ⟨_, _, rfl, fun z => absurd z (by decide), fun _ => ?_⟩) (fun z => ⟨_, _, rfl, fun _ => ?_, fun z => absurd rfl z⟩)
      · rw [if_pos ((mMay_same s1 hc hT hi hk _).mp z)] at h0; exact h0
      · rw [if_neg (fun w => z ((mMay_same s1 hc hT hi hk _).mpr w))] at h0; exact h0
  · refine Sim.query hR (-1) (fun Q h => ?_) (fun M1 s1 hR1 Q h => ?_)
    · apply r_X8_may_0 hS
      exact sp_areTwo hS hn (fun z => absurd z h2) (fun _ => ⟨_, _, rfl, fun z => absurd rfl z, fun _ => h M (Same.refl M)⟩)
    · apply r_X9_may_0 hM
      exact sq_isTwo hM ((s1 174 0 (by unfold scr; omega)).trans hT.2.1.2.1) hn8 (fun z => absurd z h2) (fun _ => ⟨_, _, rfl, fun z => absurd rfl z, fun _ => h M1 (Same.refl M1)⟩)
/-- the same rows of the reference -/
theorem mMay_rows {M M1 : Mem} (e4 : M1 174 = M 174) (e9 : M1 179 = M 179) (e0 : M1 180 = M 180) (i k : Nat) (r : Int) : mMay M1 i k r ↔ mMay M i k r := by
  unfold mMay mSuit mf
  rw [e4, e9, e0]
theorem sim_wed (hS : KC S) (hM : KM S) (hR : Rel M) (p q : Int) : Sim S M 107 181 [.inl p, .inl q] := by
  obtain ⟨n, hT, hU, hrest⟩ := id hR
  have hu := Rel_UO hU
  have hn8 := hT.1.1
  have hn : M 8 0 = n := hT.2.1.1
  have hr : M 8 2 = M 174 2 := hT.2.2.2.1.1
  have hr2 : 0 ≤ M 174 2 ∧ M 174 2 ≤ 25 := hT.2.2.2.1.2
  have hc := hT.2.2.2.2.2.2.2.1
  by_cases h2 : two n p q
  · obtain ⟨i, k, rfl, rfl, hi, hk, hik⟩ := two_nat h2
    by_cases hm : mMay M i k (M 174 2)
    · obtain ⟨t0, t1, t2, t3, t4, t5, t6, t7, t8, t9, t10⟩ := Tn_TT hT
      show Ca 107 _ S M _
      apply r_X8_wed_0 hS
      refine sp_areTwo hS hn (fun _ => ⟨_, _, rfl, fun _ => ?_, fun z => absurd z (by decide)⟩) (fun z => absurd h2 z)
      rw [hr]
      refine sp_mayWed hS hT hi hk hik (fun _ => ⟨_, _, rfl, fun _ => ?_, fun z => absurd z (by decide)⟩) (fun z => absurd hm z)
      refine sp_push hS hu.1 hu.2.1 (fun M1 pu f1 => ⟨_, rfl, by omega, by omega, ?_⟩)
      rw [Int.toNat_natCast, Int.toNat_natCast]
      obtain ⟨M2, hM2⟩ : ∃ z, z = up2 (up2 M1 13 i (k : Int)) 13 k (i : Int) := ⟨_, rfl⟩
      rw [← hM2]
      have f2 : ∀ q, q ≠ 13 → M2 q = M1 q := fun q q1 => by rw [hM2, up2_row _ _ _ _ q1, up2_row _ _ _ _ q1]
      have a13 : ∀ z, M2 13 z = if z = k then (i : Int) else if z = i then (k : Int) else M 13 z := fun z => by
        rw [hM2, up2_any, up2_any, f1 13 (by decide)]
        simp
      have R : ∀ q, 120 ≤ q → M2 q = M q := fun q hq => by rw [f2 q (by omega), f1 q (by omega)]
      refine sp_countWed (t := 8) hS (by decide) (by rw [f2 8 (by decide), f1 8 (by decide)]; exact hn) hn8 ⟨_, _, rfl, _, _, rfl, ?_⟩
      apply r_X9_wed_0 hM
      have w1 := t5 i hi
      have w2 := t5 k hk
      have b180 : M2 180 = M 180 := R 180 (by decide)
      have b174 : M2 174 = M 174 := R 174 (by decide)
      have b172 : M2 172 = M 172 := R 172 (by decide)
      have efm : ∀ j, mf M2 0 j = mf M 0 j := fun j => by unfold mf; rw [b180]
      have hmay : mMay M2 i k (M 174 2) := (mMay_rows b174 (R 179 (by decide)) b180 i k _).mpr hm
      refine sq_isTwo hM (by rw [b174]; exact hT.2.1.2.1) hn8 (fun _ => ⟨_, _, rfl, fun _ => ⟨by decide, ?_⟩, fun z => absurd z (by decide)⟩) (fun z => absurd h2 z)
      have e2 : M2 174 (2 : Int).toNat = M 174 2 := by rw [b174]; rfl
      rw [e2]
      refine sq_isMay0 hM (by omega) (by omega) (by rw [b180]; omega) (by rw [b180]; omega) (by rw [efm]; exact Tn_fin hT hi) (by rw [efm]; exact Tn_fin hT hk) (by rw [b180]; exact t9) (by rw [b174]; exact hc) hr2 (fun _ => ⟨_, _, rfl, fun _ => ?_, fun z => absurd z (by decide)⟩) (fun z => absurd hmay z)
      refine sq_known hM (by rw [b172]; exact hu.2.2) (fun M3 kn f3 => ⟨_, rfl, by unfold inR; omega, by unfold inR; omega, by omega, by unfold inR; omega, by unfold inR; omega, by omega, ?_⟩)
      have e64 : ((64 : Int) + i).toNat = 64 + i := by omega
      have e65 : ((64 : Int) + k).toNat = 64 + k := by omega
      rw [e64, e65]
      obtain ⟨M4, hM4⟩ : ∃ z, z = up2 (up2 M3 180 (64 + i) ((k : Int) + 1)) 180 (64 + k) ((i : Int) + 1) := ⟨_, rfl⟩
      rw [← hM4]
      have g1 : ∀ q, q ≠ 180 → M4 q = M3 q := fun q q1 => by rw [hM4, up2_row _ _ _ _ q1, up2_row _ _ _ _ q1]
      have s0 : ∀ j, j < 510 → M4 180 j = if j = 64 + k then (i : Int) + 1 else if j = 64 + i then (k : Int) + 1 else M 180 j := fun j hj => by
        rw [hM4, up2_any, up2_any, f3.2.2 j hj, b180]
        simp
      have E : ∀ q, q ≠ 13 → ¬ (30 ≤ q ∧ q ≤ 119) → q ≠ 172 → q ≠ 180 → M4 q = M q := fun q q1 q3 q4 q5 => by rw [g1 q q5, f3.1 q q4 q5, f2 q q1, f1 q q3]
      have s1 : ∀ j, j < 510 → (j < 64 ∨ 72 ≤ j) → M4 180 j = M 180 j := fun j hj hj2 => by rw [s0 j hj, if_neg (by omega), if_neg (by omega)]
      have m13 : ∀ z, M4 13 z = if z = k then (i : Int) else if z = i then (k : Int) else M 13 z := fun z => by rw [g1 13 (by decide), f3.1 13 (by decide) (by decide)]; exact a13 z
      have T5 : ∀ z, z < n → (M4 13 z = -4 ∧ M4 180 (64 + z) = 0) ∨ (0 ≤ M4 13 z ∧ M4 13 z < n ∧ M4 180 (64 + z) = M4 13 z + 1) := fun z hz => by
        have := t5 z hz
        rw [m13 z, s0 (64 + z) (by omega)]
        by_cases c1 : z = k
        · rw [if_pos c1, if_pos (by omega : 64 + z = 64 + k)]; omega
        · rw [if_neg c1, if_neg (by omega : ¬ 64 + z = 64 + k)]
          by_cases c2 : z = i
          · rw [if_pos c2, if_pos (by omega : 64 + z = 64 + i)]; omega
          · rw [if_neg c2, if_neg (by omega : ¬ 64 + z = 64 + i)]; exact this
      have n4 : M4 174 0 = n := by rw [E 174 (by decide) (by decide) (by decide) (by decide)]; exact hT.2.1.2.1
      refine sq_weds hM n4 hn8 ⟨_, _, rfl, M4, ?_, ?_⟩
      · have : cntB (fun i => decide (0 < M4 180 (64 + i))) n = cntB (fun i => decide (M2 (8 + 5) i ≠ -4)) n := by
          refine cntB_eq n (fun z hz => ?_)
          have a := T5 z hz
          have b : M4 13 z = M2 (8 + 5) z := by rw [m13 z]; exact (a13 z).symm
          rw [← b]
          have : (0 < M4 180 (64 + z)) ↔ (M4 13 z ≠ -4) := by omega
          simp only [decide_eq_decide]
          exact this
        rw [this]
      · refine Rel_mut ⟨hT, hU, hrest⟩ pu f1 (fun q hq => f2 q (by omega)) kn f3 g1 (fun j hj => by rw [hM4, up2_any, if_neg (by omega), up2_any, if_neg (by omega)]) ⟨(TT_iff M4 n).mpr ⟨t0, fun i hi => ?_, fun i k hi hk => ?_, fun i hi => ?_, ?_, T5, fun i hi => ?_, fun i j hi hj => ?_, fun z hz => ?_, ?_, fun r hr' => ?_⟩, TC_mem (E 8 (by decide) (by decide) (by decide) (by decide)) (E 11 (by decide) (by decide) (by decide) (by decide)) (E 18 (by decide) (by decide) (by decide) (by decide)) (E 174 (by decide) (by decide) (by decide) (by decide)) (E 175 (by decide) (by decide) (by decide) (by decide)) (E 179 (by decide) (by decide) (by decide) (by decide)) hT⟩
        · rw [E 9 (by decide) (by decide) (by decide) (by decide), s1 i (by omega) (by omega)]; exact t1 i hi
        · rw [s1 i (by omega) (by omega)] at hk
          have := (t1 i hi).2
          rw [E 10 (by decide) (by decide) (by decide) (by decide), s1 _ (by omega) (by omega)]; exact t2 i k hi hk
        · rw [E 12 (by decide) (by decide) (by decide) (by decide), s1 _ (by omega) (by omega)]; exact t3 i hi
        · rw [sumB_eq (V := fun i => M 180 (56 + i)) n (fun k hk => s1 _ (by omega) (by omega))]; exact t4
        · rw [E 14 (by decide) (by decide) (by decide) (by decide), s1 _ (by omega) (by omega)]; exact t6 i hi
        · rw [E 15 (by decide) (by decide) (by decide) (by decide), s1 _ (by omega) (by omega)]; exact t7 i j hi hj
        · rw [E 16 (by decide) (by decide) (by decide) (by decide), s1 _ (by omega) (by omega)]; exact t8 z hz
        · refine ⟨fun z hz => ?_, fun z w hz hw e => ?_⟩
          · show 0 ≤ M4 180 (144 + z) ∧ M4 180 (144 + z) < 26
            rw [s1 _ (by omega) (by omega)]; exact t9.1 z hz
          · have e' : M4 180 (144 + z) = M4 180 (144 + w) := e
            rw [s1 _ (by omega) (by omega), s1 _ (by omega) (by omega)] at e'
            exact t9.2 z w hz hw e'
        · rw [E 17 (by decide) (by decide) (by decide) (by decide), E 16 (by decide) (by decide) (by decide) (by decide)]; exact t10 r hr'
    · refine Sim.query hR (-2) (fun Q h => ?_) (fun M1 s1 hR1 Q h => ?_)
      · apply r_X8_wed_0 hS
        refine sp_areTwo hS hn (fun _ => ⟨_, _, rfl, fun _ => ?_, fun z => absurd z (by decide)⟩) (fun z => absurd h2 z)
        rw [hr]
        exact sp_mayWed hS hT hi hk hik (fun z => absurd z hm) (fun z => ⟨_, _, rfl, fun z => absurd rfl z, fun _ => h M (Same.refl M)⟩)
      · obtain ⟨n', hT1, -⟩ := hR1
        have en := Tn_n hT hT1 (s1 174 0 (by unfold scr; omega))
        subst en
        have e2 : M1 174 (2 : Int).toNat = M 174 2 := s1 174 2 (by unfold scr; omega)
        apply r_X9_wed_0 hM
        refine sq_isTwo hM hT1.2.1.2.1 hn8 (fun _ => ⟨_, _, rfl, fun _ => ⟨by decide, ?_⟩, fun z => absurd z (by decide)⟩) (fun z => absurd h2 z)
        rw [e2]
        exact sq_isMay hM hT1 hi hk hr2 (fun z => absurd ((mMay_same s1 hc hT hi hk _).mp z) hm) (fun z => ⟨_, _, rfl, fun z => absurd rfl z, fun _ => h M1 (Same.refl M1)⟩)
  · refine Sim.query hR (-1) (fun Q h => ?_) (fun M1 s1 hR1 Q h => ?_)
    · apply r_X8_wed_0 hS
      exact sp_areTwo hS hn (fun z => absurd z h2) (fun _ => ⟨_, _, rfl, fun z => absurd rfl z, fun _ => h M (Same.refl M)⟩)
    · apply r_X9_wed_0 hM
      exact sq_isTwo hM ((s1 174 0 (by unfold scr; omega)).trans hT.2.1.2.1) hn8 (fun z => absurd z h2) (fun _ => ⟨_, _, rfl, fun z => absurd rfl z, fun _ => h M1 (Same.refl M1)⟩)
end Wed
