/-! lend -/
def mLend (M : Mem) (i k : Nat) : Prop := mf M 0 i < 0 ∨ mf M 0 k < 0 ∨ M 180 (144 + (mf M 0 i).toNat) < M 180 (144 + (mf M 0 k).toNat)
section Lend
variable {S : Shp} {M : Mem} {Q : Res → Prop}
theorem sp_mayLend (hS : KC S) {n : Nat} (hT : Tn M 8 0 n) {i k : Nat} (hi : i < n) (hk : k < n) (h1 : mLend M i k → Q (S, M, some (.inl 1))) (h0 : ¬ mLend M i k → Q (S, M, some (.inl 0))) : Ca 86 [.inr (.inr 9), .inl (i : Int), .inl (k : Int)] S M Q := by
  have hn8 := hT.1.1
  obtain ⟨t0, t1, t2, t3, t4, t5, t6, t7, t8, t9, t10⟩ := Tn_TT hT
  refine r_X7_mayLend_0 (t := 8) hS (by decide) ?_
  refine sp_isNameless (t := 8) hS (by decide) (by omega) ⟨_, _, rfl, ?_⟩
  by_cases z1 : M (8 + 1) i = 0
  · rw [if_pos z1]
    have : mf M 0 i = -4 := by
      rw [← Tn_f hT hi]; unfold tf; rw [if_neg (by omega)]
    exact ⟨fun _ => h1 (Or.inl (by omega)), fun z => absurd z (by decide)⟩
  · rw [if_neg z1]
    refine ⟨fun z => absurd rfl z, fun _ => sp_isNameless (t := 8) hS (by decide) (by omega) ⟨_, _, rfl, ?_⟩⟩
    by_cases z2 : M (8 + 1) k = 0
    · rw [if_pos z2]
      have : mf M 0 k = -4 := by
        rw [← Tn_f hT hk]; unfold tf; rw [if_neg (by omega)]
      exact ⟨fun _ => h1 (Or.inr (Or.inl (by omega))), fun z => absurd z (by decide)⟩
    · rw [if_neg z2]
      have f1 := Tn_f0 hT hi z1
      have f2 := Tn_f0 hT hk z2
      refine ⟨fun z => absurd rfl z, fun _ => sp_first (t := 8) hS (by decide) (by omega) ⟨_, _, rfl, f1, sp_first (t := 8) hS (by decide) (by omega) ⟨_, _, rfl, f2, ?_⟩⟩⟩
      rw [Tn_f hT hi] at f1 ⊢
      rw [Tn_f hT hk] at f2 ⊢
      have e1 : M (8 + 8) (mf M 0 i).toNat = M 180 (144 + (mf M 0 i).toNat) := t8 _ (by omega)
      have e2 : M (8 + 8) (mf M 0 k).toNat = M 180 (144 + (mf M 0 k).toNat) := t8 _ (by omega)
      rw [e1, e2]
      refine ⟨fun w => h0 ?_, fun w => h1 (Or.inr (Or.inr w))⟩
      rintro (y | y | y) <;> omega
end Lend
