/-! letter, quarrel, alphabet -/
section Ops4
variable {S : Shp} {M : Mem} {Q : Res → Prop}
theorem one_ne : (1 : Int) ≠ 0 := by decide
theorem sim_letter (hS : KC S) (hM : KM S) (hR : Rel M) (p q : Int) : Sim S M 99 166 [.inl p, .inl q] := by
  obtain ⟨n, ⟨h1, hc⟩, -⟩ := id hR
  have hn8 := h1.1
  have hn : M 8 0 = n := hc.1.1
  have hn2 : M 174 0 = n := hc.1.2.1
  have nn : ∀ {M1 : Mem}, Same M M1 → M1 174 0 = n := fun s => (s 174 0 (by unfold scr; omega)).trans hn2
  by_cases hp : 0 ≤ p ∧ p ≤ (n : Int) - 1
  · obtain ⟨i, rfl, hi⟩ := int_nat hp
    by_cases hq : 0 ≤ q
    · have hsz := h1.2.1 i hi
      have hs1 : M (8 + 1) i = M 180 i := by simpa using hsz.1
      have hs2 : 0 ≤ M 180 i ∧ M 180 i ≤ 6 := by simpa using hsz.2
      refine Sim.query hR (if q < M 180 i then M 180 (8 + 6 * i + q.toNat) else -4) (fun Q h => ?_) (fun M1 s1 hR1 Q h => ?_)
      · apply r_X8_letter_0 hS
        refine sp_isPerson hS hn ⟨_, _, rfl, ?_⟩
        rw [if_pos hp]
        refine ⟨fun z => absurd z (by decide), fun _ => ⟨fun _ => ?_, fun z => by omega⟩⟩
        by_cases h6 : q < 6
        · obtain ⟨k, rfl⟩ : ∃ k : Nat, q = (k : Int) := ⟨q.toNat, by omega⟩
          refine sp_letterOf (t := 8) hS (by decide) (by omega) ⟨_, _, rfl, ?_⟩
          have e : tl M 8 i k = (if (k : Int) < M 180 i then M 180 (8 + 6 * i + (k : Int).toNat) else -4) := by
            unfold tl
            rw [hs1, Int.toNat_natCast]
            by_cases hk : (k : Int) < M 180 i
            · rw [if_pos ⟨hk, by omega⟩, if_pos hk]
              have := (h1.2.2.1 i k hi (by simpa using hk)).1
              simpa using this
            · rw [if_neg (by omega), if_neg hk]
          rw [e]
          exact h M (Same.refl M)
        · refine sp_letterBig (t := 8) hS (by decide) (by omega) (by omega) ⟨_, _, rfl, ?_⟩
          have := h M (Same.refl M)
          rw [if_neg (by omega)] at this
          exact this
      · apply r_X9_letter_0 hM
        refine sq_isPerson hM (nn s1) hn8 ⟨_, _, rfl, ?_⟩
        rw [if_pos hp]
        have e1 : M1 180 i = M 180 i := s1 180 i (by unfold scr; omega)
        rw [Int.toNat_natCast, e1]
        simp only [inR]
        refine ⟨fun z => absurd z (by decide), fun _ => ⟨fun _ => ⟨by omega, fun z => ?_, fun z => ⟨by omega, by omega, by omega, by omega, ?_⟩⟩, fun z => by omega⟩⟩
        · have := h M1 (Same.refl M1)
          rw [if_neg (by omega)] at this
          exact this
        · have := h M1 (Same.refl M1)
          rw [if_pos z] at this
          have e2 : (((8 : Int) + 6 * i) + q).toNat = 8 + 6 * i + q.toNat := by omega
          rw [e2, s1 180 _ (by unfold scr; omega)]
          exact this
    · refine Sim.query hR (-1) (fun Q h => ?_) (fun M1 s1 hR1 Q h => ?_)
      · apply r_X8_letter_0 hS
        refine sp_isPerson hS hn ⟨_, _, rfl, ?_⟩
        rw [if_pos hp]
        exact ⟨fun z => absurd z (by decide), fun _ => ⟨fun z => by omega, fun _ => h M (Same.refl M)⟩⟩
      · apply r_X9_letter_0 hM
        refine sq_isPerson hM (nn s1) hn8 ⟨_, _, rfl, ?_⟩
        rw [if_pos hp]
        exact ⟨fun z => absurd z (by decide), fun _ => ⟨fun z => by omega, fun _ => h M1 (Same.refl M1)⟩⟩
  · refine Sim.query hR (-1) (fun Q h => ?_) (fun M1 s1 hR1 Q h => ?_)
    · apply r_X8_letter_0 hS
      refine sp_isPerson hS hn ⟨_, _, rfl, ?_⟩
      rw [if_neg hp]
      exact ⟨fun _ => h M (Same.refl M), fun z => absurd rfl z⟩
    · apply r_X9_letter_0 hM
      refine sq_isPerson hM (nn s1) hn8 ⟨_, _, rfl, ?_⟩
      rw [if_neg hp]
      exact ⟨fun _ => h M1 (Same.refl M1), fun z => absurd rfl z⟩
theorem let_nat {p : Int} (h : 0 ≤ p ∧ p ≤ 25) : ∃ i : Nat, p = (i : Int) ∧ i < 26 := ⟨p.toNat, by omega, by omega⟩
/-- the reference's pairs are as they were -/
theorem mQ_same {M M1 : Mem} (s : Same M M1) (hc : 0 ≤ M 174 4 ∧ M 174 4 ≤ 6) (x y : Nat) : mQ (M1 174) (M1 179) x y ↔ mQ (M 174) (M 179) x y :=
  mQ_congr (s 174 4 (by unfold scr; omega)) hc (fun k hk => s 179 k (by unfold scr; omega)) x y
theorem sim_quarrel (hS : KC S) (hM : KM S) (hR : Rel M) (p q : Int) : Sim S M 101 169 [.inl p, .inl q] := by
  obtain ⟨n, ⟨h1, -, -, -, -, -, -, hc4, -, he0, he⟩, -⟩ := id hR
  by_cases hp : 0 ≤ p ∧ p ≤ 25
  · obtain ⟨x, rfl, hx⟩ := let_nat hp
    by_cases hq : 0 ≤ q ∧ q ≤ 25
    · obtain ⟨y, rfl, hy⟩ := let_nat hq
      have e0 : 0 ≤ M (8 + 10) x := (he0 x hx).1
      have ee : (M (8 + 10) x).toNat.testBit y = true ↔ mQ (M 174) (M 179) x y := he x y hx hy
      refine Sim.query hR (if (M (8 + 10) x).toNat.testBit y = true then 1 else 0) (fun Q h => ?_) (fun M1 s1 hR1 Q h => ?_)
      · apply r_X8_quarrel_0 hS
        refine sp_isLetter hS ⟨_, _, rfl, ?_⟩
        rw [if_pos hp]
        refine ⟨fun z => absurd z (by decide), fun _ => sp_isLetter hS ⟨_, _, rfl, ?_⟩⟩
        rw [if_pos hq]
        refine ⟨fun _ => sp_areEnemies (t := 8) hS (by decide) hx hy e0 ⟨_, _, rfl, ?_⟩, fun z => absurd z (by decide)⟩
        have := h M (Same.refl M)
        by_cases hb : (M (8 + 10) x).toNat.testBit y = true
        · rw [if_pos hb] at this ⊢
          exact ⟨fun z => absurd z (by decide), fun _ => this⟩
        · rw [if_neg hb] at this ⊢
          exact ⟨fun _ => this, fun z => absurd rfl z⟩
      · apply r_X9_quarrel_0 hM
        refine sq_isLetter hM ⟨_, _, rfl, ?_⟩
        rw [if_pos hp]
        refine ⟨fun z => absurd z (by decide), fun _ => sq_isLetter hM ⟨_, _, rfl, ?_⟩⟩
        rw [if_pos hq]
        have e4 : M1 174 4 = M 174 4 := s1 174 4 (by unfold scr; omega)
        have := h M1 (Same.refl M1)
        refine ⟨fun _ => sq_isQuarrel hM (by rw [e4]; exact hc4) (fun z => ⟨_, _, rfl, fun w => absurd w (by decide), fun _ => ?_⟩) (fun z => ⟨_, _, rfl, fun _ => ?_, fun w => absurd rfl w⟩), fun z => absurd z (by decide)⟩
        · rw [if_pos (ee.mpr ((mQ_same s1 hc4 x y).mp z))] at this
          exact this
        · rw [if_neg (fun w => z ((mQ_same s1 hc4 x y).mpr (ee.mp w)))] at this
          exact this
    · refine Sim.query hR (-1) (fun Q h => ?_) (fun M1 s1 hR1 Q h => ?_)
      · apply r_X8_quarrel_0 hS
        refine sp_isLetter hS ⟨_, _, rfl, ?_⟩
        rw [if_pos hp]
        refine ⟨fun z => absurd z (by decide), fun _ => sp_isLetter hS ⟨_, _, rfl, ?_⟩⟩
        rw [if_neg hq]
        exact ⟨fun z => absurd rfl z, fun _ => h M (Same.refl M)⟩
      · apply r_X9_quarrel_0 hM
        refine sq_isLetter hM ⟨_, _, rfl, ?_⟩
        rw [if_pos hp]
        refine ⟨fun z => absurd z (by decide), fun _ => sq_isLetter hM ⟨_, _, rfl, ?_⟩⟩
        rw [if_neg hq]
        exact ⟨fun z => absurd rfl z, fun _ => h M1 (Same.refl M1)⟩
  · refine Sim.query hR (-1) (fun Q h => ?_) (fun M1 s1 hR1 Q h => ?_)
    · apply r_X8_quarrel_0 hS
      refine sp_isLetter hS ⟨_, _, rfl, ?_⟩
      rw [if_neg hp]
      exact ⟨fun _ => h M (Same.refl M), fun z => absurd rfl z⟩
    · apply r_X9_quarrel_0 hM
      refine sq_isLetter hM ⟨_, _, rfl, ?_⟩
      rw [if_neg hp]
      exact ⟨fun _ => h M1 (Same.refl M1), fun z => absurd rfl z⟩
theorem sim_alphabet (hS : KC S) (hM : KM S) (hR : Rel M) (p q : Int) : Sim S M 100 168 [.inl p, .inl q] := by
  obtain ⟨n, ⟨⟨h8, -, -, -, -, -, -, -, hrk, hgal, hord⟩, -, -, -, -, hv, -, -, -, -, -⟩, -⟩ := id hR
  have hv4 : M 8 4 = M 174 5 := hv.1
  have hv0 : 0 ≤ M 174 5 := hv.2.1
  by_cases hp : 0 ≤ p ∧ p ≤ 25
  · obtain ⟨x, rfl, hx⟩ := let_nat hp
    by_cases hq : 0 ≤ q ∧ q ≤ 2
    · have hr : M 16 x = M 180 (144 + x) := by simpa using hrk x hx
      have ho : 0 ≤ M 17 x ∧ M 17 x < 26 ∧ M 16 (M 17 x).toNat = x := hord x hx
      have hr2 : M 16 (M 17 x).toNat = M 180 (144 + (M 17 x).toNat) := by simpa using hrk (M 17 x).toNat (by omega)
      refine Sim.query hR (if q = 0 then M 180 (144 + x) else if q = 1 then M 17 x else if (M 174 5).toNat.testBit x = true then 1 else 0) (fun Q h => ?_) (fun M1 s1 hR1 Q h => ?_)
      · apply r_X8_alphabet_0 hS
        refine sp_isLetter hS ⟨_, _, rfl, ?_⟩
        rw [if_pos hp]
        have := h M (Same.refl M)
        rw [Int.toNat_natCast]
        refine ⟨fun _ => ⟨fun z => by omega, fun z => ⟨by omega, ?_⟩, fun z => ⟨by omega, ?_⟩, fun z => sp_isVowel (t := 8) hS (by decide) hx (by rw [hv4]; exact hv0) ⟨_, _, rfl, ?_⟩⟩, fun z => absurd z (by decide)⟩
        · rw [if_pos z] at this; rw [hr]; exact this
        · rw [if_neg (by omega), if_pos z] at this; exact this
        · rw [if_neg (by omega), if_neg (by omega)] at this
          rw [hv4]
          by_cases hb : (M 174 5).toNat.testBit x = true
          · rw [if_pos hb] at this ⊢
            exact ⟨fun z => absurd z (by decide), fun _ => this⟩
          · rw [if_neg hb] at this ⊢
            exact ⟨fun _ => this, fun z => absurd rfl z⟩
      · apply r_X9_alphabet_0 hM
        refine sq_isLetter hM ⟨_, _, rfl, ?_⟩
        rw [if_pos hp]
        have := h M1 (Same.refl M1)
        have e5 : M1 174 5 = M 174 5 := s1 174 5 (by unfold scr; omega)
        have er : ∀ k, k < 26 → M1 180 (144 + k) = M 180 (144 + k) := fun k hk => s1 180 (144 + k) (by unfold scr; omega)
        refine ⟨fun z => absurd z (by decide), fun _ => sq_in hM ⟨_, _, rfl, ?_⟩⟩
        rw [if_pos hq]
        have e144 : ((144 : Int) + x).toNat = 144 + x := by omega
        rw [e144]
        simp only [inR]
        refine ⟨fun _ => ⟨fun q0 => ⟨fun q1 => sq_isVowel hM (by rw [e5]; exact hv0) hx ⟨_, _, rfl, ?_⟩, fun q1 => ?_⟩, fun q0 => ⟨by omega, by omega, ?_⟩⟩, fun z => absurd z (by decide)⟩
        · rw [if_neg q0, if_neg q1] at this
          rw [e5]
          by_cases hb : (M 174 5).toNat.testBit x = true
          · rw [if_pos hb] at this ⊢
            exact ⟨fun z => absurd z (by decide), fun _ => this⟩
          · rw [if_neg hb] at this ⊢
            exact ⟨fun _ => this, fun z => absurd rfl z⟩
        · rw [if_neg q0, if_pos q1] at this
          have eo : ((M 17 x).toNat : Int) = M 17 x := by omega
          refine sq_letterOf (s := 0) (x := (M 17 x).toNat) (r := (x : Int)) hM (by decide) (by omega) ?_ ?_ ⟨_, _, rfl, ?_⟩
          · have hg' : gal (fun x => M 180 (144 + x)) := by simpa using hgal
            refine ⟨fun y hy => ?_, fun y z hy hz hyz => hg'.2 y z hy hz ?_⟩
            · have := hg'.1 y hy
              simpa [er y hy] using this
            · have := hyz
              simp only [Nat.mul_zero, Nat.zero_add, er y hy, er z hz] at this
              exact this
          · rw [Nat.mul_zero, Nat.zero_add, er _ (by omega), ← hr2]
            exact ho.2.2
          · rw [eo]; exact this
        · rw [if_pos q0] at this
          rw [er x hx]; exact this
    · refine Sim.query hR (-1) (fun Q h => ?_) (fun M1 s1 hR1 Q h => ?_)
      · apply r_X8_alphabet_0 hS
        refine sp_isLetter hS ⟨_, _, rfl, ?_⟩
        rw [if_pos hp]
        exact ⟨fun _ => ⟨fun _ => h M (Same.refl M), fun z => by omega, fun z => by omega, fun z => by omega⟩, fun z => absurd z (by decide)⟩
      · apply r_X9_alphabet_0 hM
        refine sq_isLetter hM ⟨_, _, rfl, ?_⟩
        rw [if_pos hp]
        refine ⟨fun z => absurd z (by decide), fun _ => sq_in hM ⟨_, _, rfl, ?_⟩⟩
        rw [if_neg hq]
        exact ⟨fun z => absurd rfl z, fun _ => h M1 (Same.refl M1)⟩
  · refine Sim.query hR (-1) (fun Q h => ?_) (fun M1 s1 hR1 Q h => ?_)
    · apply r_X8_alphabet_0 hS
      refine sp_isLetter hS ⟨_, _, rfl, ?_⟩
      rw [if_neg hp]
      exact ⟨fun z => absurd rfl z, fun _ => h M (Same.refl M)⟩
    · apply r_X9_alphabet_0 hM
      refine sq_isLetter hM ⟨_, _, rfl, ?_⟩
      rw [if_neg hp]
      exact ⟨fun _ => h M1 (Same.refl M1), fun z => absurd rfl z⟩
end Ops4
