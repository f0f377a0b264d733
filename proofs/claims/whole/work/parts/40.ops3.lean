/-! quarrels, letters of names, the alphabet, debts -/
section Ops3
variable {S : Shp} {M : Mem} {Q : Res → Prop}
/-- a pair among the first k -/
def qk (p : Nat → Int) (x y : Nat) (k : Nat) : Prop := ∃ j, j < k ∧ ((p (2 * j) = x ∧ p (2 * j + 1) = y) ∨ (p (2 * j) = y ∧ p (2 * j + 1) = x))
theorem qk_s (p : Nat → Int) (x y k : Nat) : qk p x y (k + 1) ↔ qk p x y k ∨ ((p (2 * k) = x ∧ p (2 * k + 1) = y) ∨ (p (2 * k) = y ∧ p (2 * k + 1) = x)) := by
  unfold qk
  constructor
  · rintro ⟨j, hj, h⟩
    by_cases hjk : j = k
    · subst hjk; exact Or.inr h
    · exact Or.inl ⟨j, by omega, h⟩
  · rintro (⟨j, hj, h⟩ | h)
    · exact ⟨j, by omega, h⟩
    · exact ⟨k, by omega, h⟩
theorem isQuarrel_loop (hM : KM S) {x y c : Nat} (hc : M 174 4 = c) (hc6 : c ≤ 6) (h1 : qk (M 179) x y c → Q (S, M, some (.inl 1))) (h0 : ¬ qk (M 179) x y c → Q (S, M, some (.inl 0))) : ∀ d k (b : Int), k + d = c → (b = 1 ∧ qk (M 179) x y k ∨ b = 0 ∧ ¬ qk (M 179) x y k) → En 159 4 [some (.inr (.inr 173)), some (.inl (x : Int)), some (.inl (y : Int)), some (.inl b), some (.inl (k : Int)), none, none] [] S M Q := by
  have hc' : M 174 (4 : Int).toNat = c := hc
  intro d
  induction d with
  | zero =>
    intro k b hk hb
    have e : k = c := by omega
    subst e
    apply r_X9_isQuarrel_4 hM
    rw [hc']
    refine ⟨by decide, fun _ => ⟨by omega, ?_⟩, fun q => by omega⟩
    rcases hb with ⟨rfl, q⟩ | ⟨rfl, q⟩
    · exact h1 q
    · exact h0 q
  | succ d ih =>
    intro k b hk hb
    apply r_X9_isQuarrel_4 hM
    have e1 : ((2 : Int) * k).toNat = 2 * k := by omega
    have e2 : (((2 : Int) * k) + 1).toNat = 2 * k + 1 := by omega
    rw [hc', e1, e2]
    have ek : ((k : Int) + 1) = ((k + 1 : Nat) : Int) := by omega
    have yes : qk (M 179) x y (k + 1) → En 159 40 [some (.inr (.inr 173)), some (.inl (x : Int)), some (.inl (y : Int)), some (.inl b), some (.inl (k : Int)), some (.inl (M 179 (2 * k))), some (.inl (M 179 (2 * k + 1)))] [] S M Q := fun q => by
      apply r_X9_isQuarrel_40 hM
      apply r_X9_isQuarrel_43 hM
      rw [ek]
      exact ⟨⟨by omega, by omega⟩, ih (k + 1) 1 (by omega) (Or.inl ⟨rfl, q⟩)⟩
    have no : ¬ qk (M 179) x y (k + 1) → En 159 42 [some (.inr (.inr 173)), some (.inl (x : Int)), some (.inl (y : Int)), some (.inl b), some (.inl (k : Int)), some (.inl (M 179 (2 * k))), some (.inl (M 179 (2 * k + 1)))] [] S M Q := fun q => by
      apply r_X9_isQuarrel_42 hM
      apply r_X9_isQuarrel_43 hM
      rw [ek]
      exact ⟨⟨by omega, by omega⟩, ih (k + 1) 0 (by omega) (Or.inr ⟨rfl, q⟩)⟩
    have e34 : (b = 0 → ¬ qk (M 179) x y k) → b = 0 → ¬ (M 179 (2 * k) = x ∧ M 179 (2 * k + 1) = y) → En 159 34 [some (.inr (.inr 173)), some (.inl (x : Int)), some (.inl (y : Int)), some (.inl b), some (.inl (k : Int)), some (.inl (M 179 (2 * k))), some (.inl (M 179 (2 * k + 1)))] [] S M Q := fun hn hb0 hne => by
      apply r_X9_isQuarrel_34 hM
      refine ⟨fun q => no (fun z => ?_), fun q => ⟨fun q2 => no (fun z => ?_), fun q2 => yes ?_⟩⟩
      · rcases (qk_s _ _ _ _).mp z with w | w
        · exact hn hb0 w
        · rcases w with w | w
          · exact hne w
          · exact q w.1
      · rcases (qk_s _ _ _ _).mp z with w | w
        · exact hn hb0 w
        · rcases w with w | w
          · exact hne w
          · exact q2 w.2
      · exact (qk_s _ _ _ _).mpr (Or.inr (Or.inr ⟨q, q2⟩))
    have hn : b = 0 → ¬ qk (M 179) x y k := fun z => by
      rcases hb with ⟨w, -⟩ | ⟨-, w⟩
      · omega
      · exact w
    simp only [inR]
    refine ⟨by decide, fun q => by omega, fun _ => ⟨by omega, by omega, by omega, by omega, by omega, fun q => yes ?_, fun q => ⟨fun q2 => e34 hn q (fun z => q2 z.1), fun q2 => ⟨fun q3 => yes ((qk_s _ _ _ _).mpr (Or.inr (Or.inl ⟨q2, q3⟩))), fun q3 => e34 hn q (fun z => q3 z.2)⟩⟩⟩⟩
    rcases hb with ⟨-, w⟩ | ⟨w, -⟩
    · exact (qk_s _ _ _ _).mpr (Or.inl w)
    · exact absurd w q
theorem sq_isQuarrel (hM : KM S) {x y : Nat} (hc : 0 ≤ M 174 4 ∧ M 174 4 ≤ 6) (h1 : mQ (M 174) (M 179) x y → Q (S, M, some (.inl 1))) (h0 : ¬ mQ (M 174) (M 179) x y → Q (S, M, some (.inl 0))) : Ca 159 [.inr (.inr 173), .inl (x : Int), .inl (y : Int)] S M Q := by
  apply r_X9_isQuarrel_0 hM
  refine isQuarrel_loop hM (c := (M 174 4).toNat) (by omega) (by omega) h1 h0 (M 174 4).toNat 0 0 (by omega) (Or.inr ⟨rfl, ?_⟩)
  rintro ⟨j, hj, -⟩
  omega
theorem sq_owes (hM : KM S) {i j : Nat} (hi : i < 8) (hj : j < 8) (h : Q (S, M, some (.inl (M 180 (80 + 8 * j + i))))) : Ca 182 [.inr (.inr 173), .inl (j : Int), .inl (i : Int)] S M Q := by
  apply r_X9_owes_0 hM
  have e1 : (((80 : Int) + 8 * j) + i).toNat = 80 + 8 * j + i := by omega
  rw [e1]
  simp only [inR]
  exact ⟨by omega, by omega, by omega, by omega, h⟩
theorem sp_debt (hS : KC S) {t : Nat} (ht : t ∈ bx_tw) {i j : Nat} (hi : i < 8) (hj : j < 8) (h : Q (S, M, some (.inl (M (t + 7) (8 * i + j))))) : Ca 88 [.inr (.inr (t + 1)), .inl (i : Int), .inl (j : Int)] S M Q := by
  apply r_X7_debt_0 hS ht
  have e1 : (((i : Int) * 8) + j).toNat = 8 * i + j := by omega
  rw [e1]
  simp only [inR]
  exact ⟨by omega, by omega, by omega, h⟩
/-- an int as a number of 0 to n - 1 -/
theorem int_nat {p : Int} {n : Nat} (h : 0 ≤ p ∧ p ≤ (n : Int) - 1) : ∃ i : Nat, p = (i : Int) ∧ i < n := ⟨p.toNat, by omega, by omega⟩
theorem sim_owed (hS : KC S) (hM : KM S) (hR : Rel M) (p q : Int) : Sim S M 118 198 [.inl p, .inl q] := by
  obtain ⟨n, ⟨h1, hc⟩, -⟩ := id hR
  have hn8 := h1.1
  have hn : M 8 0 = n := hc.1.1
  have hn2 : M 174 0 = n := hc.1.2.1
  have nn : ∀ {M1 : Mem}, Same M M1 → M1 174 0 = n := fun s => (s 174 0 (by unfold scr; omega)).trans hn2
  by_cases hp : 0 ≤ p ∧ p ≤ (n : Int) - 1
  · obtain ⟨i, rfl, hi⟩ := int_nat hp
    by_cases hq : 0 ≤ q ∧ q ≤ (n : Int) - 1
    · obtain ⟨j, rfl, hj⟩ := int_nat hq
      refine Sim.query hR (M 180 (80 + 8 * j + i)) (fun Q h => ?_) (fun M1 s1 hR1 Q h => ?_)
      · apply r_X8_owed_0 hS
        refine sp_isPerson hS hn ⟨_, _, rfl, ?_⟩
        rw [if_pos hp]
        refine ⟨fun z => absurd z (by decide), fun _ => sp_isPerson hS hn ⟨_, _, rfl, ?_⟩⟩
        rw [if_pos hq]
        refine ⟨fun z => absurd z (by decide), fun _ => sp_debt (t := 8) hS (by decide) (by omega) (by omega) ⟨_, _, rfl, ?_⟩⟩
        have e := (h1.2.2.2.2.2.2.2.1 i j hi hj).1
        have e2 : M (8 + 7) (8 * i + j) = M 180 (80 + 8 * j + i) := by simpa using e
        rw [e2]
        exact h M (Same.refl M)
      · apply r_X9_owed_0 hM
        refine sq_isPerson hM (nn s1) hn8 ⟨_, _, rfl, ?_⟩
        rw [if_pos hp]
        refine ⟨fun z => absurd z (by decide), fun _ => sq_isPerson hM (nn s1) hn8 ⟨_, _, rfl, ?_⟩⟩
        rw [if_pos hq]
        refine ⟨fun z => absurd z (by decide), fun _ => sq_owes hM (by omega) (by omega) ⟨_, _, rfl, ?_⟩⟩
        rw [s1 180 (80 + 8 * j + i) (by unfold scr; omega)]
        exact h M1 (Same.refl M1)
    · refine Sim.query hR (-1) (fun Q h => ?_) (fun M1 s1 hR1 Q h => ?_)
      · apply r_X8_owed_0 hS
        refine sp_isPerson hS hn ⟨_, _, rfl, ?_⟩
        rw [if_pos hp]
        refine ⟨fun z => absurd z (by decide), fun _ => sp_isPerson hS hn ⟨_, _, rfl, ?_⟩⟩
        rw [if_neg hq]
        exact ⟨fun _ => h M (Same.refl M), fun z => absurd rfl z⟩
      · apply r_X9_owed_0 hM
        refine sq_isPerson hM (nn s1) hn8 ⟨_, _, rfl, ?_⟩
        rw [if_pos hp]
        refine ⟨fun z => absurd z (by decide), fun _ => sq_isPerson hM (nn s1) hn8 ⟨_, _, rfl, ?_⟩⟩
        rw [if_neg hq]
        exact ⟨fun _ => h M1 (Same.refl M1), fun z => absurd rfl z⟩
  · refine Sim.query hR (-1) (fun Q h => ?_) (fun M1 s1 hR1 Q h => ?_)
    · apply r_X8_owed_0 hS
      refine sp_isPerson hS hn ⟨_, _, rfl, ?_⟩
      rw [if_neg hp]
      exact ⟨fun _ => h M (Same.refl M), fun z => absurd rfl z⟩
    · apply r_X9_owed_0 hM
      refine sq_isPerson hM (nn s1) hn8 ⟨_, _, rfl, ?_⟩
      rw [if_neg hp]
      exact ⟨fun _ => h M1 (Same.refl M1), fun z => absurd rfl z⟩
end Ops3
