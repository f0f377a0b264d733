/-! may, wed -/
section Wed
variable {S : Shp} {M : Mem} {Q : Res → Prop}
def two (n : Nat) (p q : Int) : Prop := (0 ≤ p ∧ p ≤ (n : Int) - 1) ∧ (0 ≤ q ∧ q ≤ (n : Int) - 1) ∧ p ≠ q
theorem sp_areTwo (hS : KC S) {n : Nat} (hn : M 8 0 = n) {p q : Int} (h1 : two n p q → Q (S, M, some (.inl 1))) (h0 : ¬ two n p q → Q (S, M, some (.inl 0))) : Ca 133 [.inr (.inr 5), .inl p, .inl q] S M Q := by
  apply r_X8_areTwo_0 hS
  refine sp_isPerson hS hn ⟨_, _, rfl, ?_⟩
  by_cases hp : 0 ≤ p ∧ p ≤ (n : Int) - 1
  · rw [if_pos hp]
    refine ⟨fun z => absurd z (by decide), fun _ => sp_isPerson hS hn ⟨_, _, rfl, ?_⟩⟩
    by_cases hq : 0 ≤ q ∧ q ≤ (n : Int) - 1
    · rw [if_pos hq]
      exact ⟨fun z => absurd z (by decide), fun _ => ⟨fun z => h0 (fun w => w.2.2 z), fun z => h1 ⟨hp, hq, z⟩⟩⟩
    · rw [if_neg hq]
      exact ⟨fun _ => h0 (fun w => hq w.2.1), fun z => absurd rfl z⟩
  · rw [if_neg hp]
    exact ⟨fun _ => h0 (fun w => hp w.1), fun z => absurd rfl z⟩
theorem sq_isTwo (hM : KM S) {n : Nat} (hn : M 174 0 = n) (hn8 : n ≤ 8) {p q : Int} (h1 : two n p q → Q (S, M, some (.inl 1))) (h0 : ¬ two n p q → Q (S, M, some (.inl 0))) : Ca 178 [.inr (.inr 173), .inl p, .inl q] S M Q := by
  apply r_X9_isTwo_0 hM
  refine sq_isPerson hM hn hn8 ⟨_, _, rfl, ?_⟩
  by_cases hp : 0 ≤ p ∧ p ≤ (n : Int) - 1
  · rw [if_pos hp]
    refine ⟨fun z => absurd z (by decide), fun _ => sq_isPerson hM hn hn8 ⟨_, _, rfl, ?_⟩⟩
    by_cases hq : 0 ≤ q ∧ q ≤ (n : Int) - 1
    · rw [if_pos hq]
      exact ⟨fun z => absurd z (by decide), fun _ => ⟨fun z => h0 (fun w => w.2.2 z), fun z => h1 ⟨hp, hq, z⟩⟩⟩
    · rw [if_neg hq]
      exact ⟨fun _ => h0 (fun w => hq w.2.1), fun z => absurd rfl z⟩
  · rw [if_neg hp]
    exact ⟨fun _ => h0 (fun w => hp w.1), fun z => absurd rfl z⟩
theorem two_nat {n : Nat} {p q : Int} (h : two n p q) : ∃ i k : Nat, p = (i : Int) ∧ q = (k : Int) ∧ i < n ∧ k < n ∧ i ≠ k := ⟨p.toNat, q.toNat, by have := h.1; omega, by have := h.2.1; omega, by have := h.1; omega, by have := h.2.1; omega, by obtain ⟨a, b, c⟩ := h; omega⟩
theorem mMay_same {M M1 : Mem} (s : Same M M1) (hc : 0 ≤ M 174 4 ∧ M 174 4 ≤ 6) {n i k : Nat} (hT : Tn M 8 0 n) (hi : i < n) (hk : k < n) (r : Int) : mMay M1 i k r ↔ mMay M i k r := by
  have hn8 := hT.1.1
  have e : ∀ q k, ¬ scr q k → M1 q k = M q k := s
  have f1 := Tn_fin hT hi
  have f2 := Tn_fin hT hk
  have ef : ∀ j, j < 8 → mf M1 0 j = mf M 0 j := fun j hj => by unfold mf; rw [e _ _ (by unfold scr; omega), e _ _ (by unfold scr; omega)]
  unfold mMay mSuit
  rw [ef i (by omega), ef k (by omega), e 180 (64 + i) (by unfold scr; omega), e 180 (64 + k) (by unfold scr; omega), mQ_same s hc, e 180 (144 + (mf M 0 i).toNat) (by unfold scr; omega), e 180 (144 + (mf M 0 k).toNat) (by unfold scr; omega)]
theorem sim_may (hS : KC S) (hM : KM S) (hR : Rel M) (p q : Int) : Sim S M 106 179 [.inl p, .inl q] := by
  obtain ⟨n, hT, -⟩ := id hR
  have hn8 := hT.1.1
  have hn : M 8 0 = n := hT.2.1.1
  have hr : M 8 2 = M 174 2 := hT.2.2.2.1.1
  have hr2 : 0 ≤ M 174 2 ∧ M 174 2 ≤ 25 := hT.2.2.2.1.2
  have hc := hT.2.2.2.2.2.2.2.1
  by_cases h2 : two n p q
  · obtain ⟨i, k, rfl, rfl, hi, hk, hik⟩ := two_nat h2
    have D : Decidable (mMay M i k (M 174 2)) := Classical.propDecidable _
    refine Sim.query hR (if mMay M i k (M 174 2) then 1 else 0) (fun Q h => ?_) (fun M1 s1 hR1 Q h => ?_)
    · have h0 := h M (Same.refl M)
      apply r_X8_may_0 hS
      refine sp_areTwo hS hn (fun _ => ⟨_, _, rfl, fun _ => ?_, fun z => absurd z (by decide)⟩) (fun z => absurd h2 z)
      rw [hr]
      refine sp_mayWed hS hT hi hk hik (fun z => ⟨_, _, rfl, fun z => absurd z (by decide), fun _ => ?_⟩) (fun z => ⟨_, _, rfl, fun _ => ?_, fun z => absurd rfl z⟩)
      · rw [if_pos z] at h0; exact h0
      · rw [if_neg z] at h0; exact h0
    · obtain ⟨n', hT1, -⟩ := hR1
      have en := Tn_n hT hT1 (s1 174 0 (by unfold scr; omega))
      subst en
      have h0 := h M1 (Same.refl M1)
      have e2 : M1 174 (2 : Int).toNat = M 174 2 := s1 174 2 (by unfold scr; omega)
      apply r_X9_may_0 hM
      refine sq_isTwo hM hT1.2.1.2.1 hn8 (fun _ => ⟨_, _, rfl, fun _ => ⟨by decide, ?_⟩, fun z => absurd z (by decide)⟩) (fun z => absurd h2 z)
      rw [e2]
      refine sq_isMay hM hT1 hi hk hr2 (fun z => ⟨_, _, rfl, fun z => absurd z (by decide), fun _ => ?_⟩) (fun z => ⟨_, _, rfl, fun _ => ?_, fun z => absurd rfl z⟩)
      · rw [if_pos ((mMay_same s1 hc hT hi hk _).mp z)] at h0; exact h0
      · rw [if_neg (fun w => z ((mMay_same s1 hc hT hi hk _).mpr w))] at h0; exact h0
  · refine Sim.query hR (-1) (fun Q h => ?_) (fun M1 s1 hR1 Q h => ?_)
    · apply r_X8_may_0 hS
      exact sp_areTwo hS hn (fun z => absurd z h2) (fun _ => ⟨_, _, rfl, fun z => absurd rfl z, fun _ => h M (Same.refl M)⟩)
    · apply r_X9_may_0 hM
      exact sq_isTwo hM ((s1 174 0 (by unfold scr; omega)).trans hT.2.1.2.1) hn8 (fun z => absurd z h2) (fun _ => ⟨_, _, rfl, fun z => absurd rfl z, fun _ => h M1 (Same.refl M1)⟩)
end Wed
