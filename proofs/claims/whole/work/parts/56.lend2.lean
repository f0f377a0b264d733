/-! lend, in whole -/
section Lend2
variable {S : Shp} {M : Mem} {Q : Res → Prop}
theorem sim_lend (hS : KC S) (hM : KM S) (hR : Rel M) (p q c : Int) : Sim S M 108 183 [.inl p, .inl q, .inl c] := by
  obtain ⟨n, hT, hU, hrest⟩ := id hR
  have hu := Rel_UO hU
  have hn8 := hT.1.1
  have hn : M 8 0 = n := hT.2.1.1
  have hn2 : M 174 0 = n := hT.2.1.2.1
  by_cases h2 : two n p q ∧ 1 ≤ c ∧ c ≤ 99
  · obtain ⟨h2, hc1, hc2⟩ := h2
    obtain ⟨i, k, rfl, rfl, hi, hk, hik⟩ := two_nat h2
    obtain ⟨t0, t1, t2, t3, t4, t5, t6, t7, t8, t9, t10⟩ := Tn_TT hT
    have d := t7 i k hi hk
    have ck := t3 k hk
    have ci := t3 i hi
    have bk : M 180 (56 + k) ≤ 800 := Int.le_trans (sumB_ge (W := fun i => M 180 (56 + i)) (m := n) (fun j hj => (t3 j hj).2) hk).1 t4
    have bi : M 180 (56 + i) ≤ 800 := Int.le_trans (sumB_ge (W := fun i => M 180 (56 + i)) (m := n) (fun j hj => (t3 j hj).2) hi).1 t4
    have e56 : ((56 : Int) + i).toNat = 56 + i := by omega
    have e57 : ((56 : Int) + k).toNat = 56 + k := by omega
    have e80 : (((80 : Int) + (8 : Int) * k) + i).toNat = 80 + 8 * k + i := by omega
    have f1' := Tn_fin hT hi
    have f2' := Tn_fin hT hk
    by_cases hg : c ≤ M 180 (56 + i) ∧ M 180 (80 + 8 * k + i) + c ≤ 999 ∧ mLend M i k
    · show Ca 108 _ S M _
      apply r_X8_lend_0 hS
      refine sp_areTwo hS hn (fun _ => ⟨_, _, rfl, fun z => absurd z (by decide), fun _ => ⟨fun z => by omega, fun _ => ⟨fun _ => ?_, fun z => by omega⟩⟩⟩) (fun z => absurd h2 z)
      refine sp_debt (t := 8) hS (by decide) (by omega) (by omega) ⟨_, _, rfl, ?_⟩
      have ed : M (8 + 7) (8 * i + k) = M 180 (80 + 8 * k + i) := d.1
      rw [ed, Int.toNat_natCast, ci.1]
      refine ⟨by unfold inR; omega, by omega, fun z => by omega, fun _ => ⟨fun z => by omega, fun _ => ?_⟩⟩
      refine sp_mayLend hS hT hi hk (fun _ => ⟨_, _, rfl, fun _ => ?_, fun z => absurd z (by decide)⟩) (fun z => absurd hg.2.2 z)
      refine sp_push hS hu.1 hu.2.1 (fun M1 pu f1 => ⟨_, rfl, ?_⟩)
      have m12 : M1 12 = M 12 := f1 12 (by decide)
      have m15 : M1 15 = M 15 := f1 15 (by decide)
      refine sp_pay hS (by omega) (by omega) hik (by rw [m12]; omega) (by rw [m12]; omega) (by omega) (fun M2 g1 g2 => ⟨_, rfl, ?_⟩)
      refine sp_setDebt hS (by omega) (by omega) (fun M3 g3 g4 => ⟨_, rfl, _, _, rfl, ?_⟩)
      have R : ∀ q, q ≠ 12 → q ≠ 15 → M3 q = M1 q := fun q q1 q2 => by rw [g3 q q2, g1 q q1]
      have b180 : M3 180 = M 180 := by rw [R 180 (by decide) (by decide), f1 180 (by decide)]
      have b172 : M3 172 = M 172 := by rw [R 172 (by decide) (by decide), f1 172 (by decide)]
      have b174 : M3 174 = M 174 := by rw [R 174 (by decide) (by decide), f1 174 (by decide)]
      have efm : ∀ j, mf M3 0 j = mf M 0 j := fun j => by unfold mf; rw [b180]
      apply r_X9_lend_0 hM
      have K : ∀ x4 x5 : Int, En 183 40 [some (.inr (.inr 173)), some (.inl (i : Int)), some (.inl (k : Int)), some (.inl c), some (.inl x4), some (.inl x5), none] [] S M3 (fun r' => ∃ M2 : Mem, r' = (S, M2, some (.inl (M 180 (80 + 8 * k + i) + c))) ∧ Rel M2 ∧ M2 0 = M 0) := fun x4 x5 => by
        apply r_X9_lend_40 hM
        apply r_X9_lend_43 hM
        rw [e56, e57, e80, b180]
        refine ⟨fun z => absurd z (by decide), fun _ => ⟨by unfold inR; omega, by omega, fun z => by omega, fun _ => sq_owes hM (by omega) (by omega) ⟨_, _, rfl, ?_⟩⟩⟩
        rw [b180]
        refine ⟨by unfold inR; omega, fun _ => ?_, fun z => by omega⟩
        refine sq_known hM (by rw [b172]; exact hu.2.2) (fun M4 kn f3 => ⟨_, rfl, ?_⟩)
        have s4 : ∀ j, j < 510 → M4 180 j = M 180 j := fun j hj => by rw [f3.2.2 j hj, b180]
        have x1 : up2 M4 180 (56 + i) (M4 180 (56 + i) - c) 180 (56 + k) = M 180 (56 + k) := by rw [up2_any, if_neg (by omega), s4 _ (by omega)]
        rw [x1]
        have x2 : up2 (up2 M4 180 (56 + i) (M4 180 (56 + i) - c)) 180 (56 + k) (M 180 (56 + k) + c) 180 (80 + 8 * k + i) = M 180 (80 + 8 * k + i) := by rw [up2_any, if_neg (by omega), up2_any, if_neg (by omega), s4 _ (by omega)]
        rw [x2, s4 (56 + i) (by omega)]
        obtain ⟨M5, hM5⟩ : ∃ z, z = up2 (up2 (up2 M4 180 (56 + i) (M 180 (56 + i) - c)) 180 (56 + k) (M 180 (56 + k) + c)) 180 (80 + 8 * k + i) (M 180 (80 + 8 * k + i) + c) := ⟨_, rfl⟩
        rw [← hM5]
        have s5 : ∀ j, j < 510 → M5 180 j = if j = 80 + 8 * k + i then M 180 (80 + 8 * k + i) + c else if j = 56 + k then M 180 (56 + k) + c else if j = 56 + i then M 180 (56 + i) - c else M 180 j := fun j hj => by
          rw [hM5, up2_any, up2_any, up2_any, s4 j hj]
          simp
        have r5 : ∀ q, q ≠ 180 → M5 q = M4 q := fun q hq => by rw [hM5, up2_row _ _ _ _ hq, up2_row _ _ _ _ hq, up2_row _ _ _ _ hq]
        refine ⟨by unfold inR; omega, by omega, by unfold inR; omega, by omega, by unfold inR; omega, by omega, by unfold inR; omega, by omega, by unfold inR; omega, by unfold inR; omega, by unfold inR; omega, by omega, by unfold inR; omega, by omega, ?_⟩
        refine sq_owes hM (by omega) (by omega) ⟨_, _, rfl, M5, ?_, ?_⟩
        · rw [s5 _ (by omega), if_pos rfl]
        · have E : ∀ q, q ≠ 12 → q ≠ 15 → ¬ (30 ≤ q ∧ q ≤ 119) → q ≠ 172 → q ≠ 180 → M5 q = M q := fun q q1 q2 q3 q4 q5 => by rw [r5 q q5, f3.1 q q4 q5, R q q1 q2, f1 q q3]
          refine Rel_mut ⟨hT, hU, hrest⟩ pu f1 (fun q hq => R q (by omega) (by omega)) kn f3 r5 (fun j hj => by rw [hM5, up2_any, if_neg (by omega), up2_any, if_neg (by omega), up2_any, if_neg (by omega)]) (TT_pay (a := i) (b := k) (x := i) (y := k) (c := c) (d := M 180 (80 + 8 * k + i) + c) hT hi hk hik hi hk (by omega) (by omega) (fun q q1 q2 q3 q4 => E q q3 q4 (by omega) (by omega) (by omega)) (E 174 (by decide) (by decide) (by decide) (by decide) (by decide)) (E 175 (by decide) (by decide) (by decide) (by decide) (by decide)) (E 179 (by decide) (by decide) (by decide) (by decide) (by decide)) (fun z => ?_) (fun z => ?_) (fun j hj => s5 j (by omega)))
          · rw [r5 12 (by decide), f3.1 12 (by decide) (by decide), g3 12 (by decide), g2 z, m12]
          · rw [r5 15 (by decide), f3.1 15 (by decide) (by decide), g4 z, g1 15 (by decide), m15]
      refine sq_isTwo hM (by rw [b174]; exact hn2) hn8 (fun _ => ⟨_, _, rfl, fun z => absurd z (by decide), fun _ => sq_in hM ⟨_, _, rfl, ?_⟩⟩) (fun z => absurd h2 z)
      rw [if_pos ⟨hc1, hc2⟩]
      refine ⟨fun _ => sq_first (s := 0) hM (by decide) (by omega) ⟨_, _, rfl, sq_first (s := 0) hM (by decide) (by omega) ⟨_, _, rfl, ?_⟩⟩, fun z => absurd z (by decide)⟩
      rw [efm i, efm k, b180]
      have ea : 0 ≤ mf M 0 i → ((144 : Int) + mf M 0 i).toNat = 144 + (mf M 0 i).toNat := fun g => by omega
      have eb : 0 ≤ mf M 0 k → ((144 : Int) + mf M 0 k).toNat = 144 + (mf M 0 k).toNat := fun g => by omega
      refine ⟨fun _ => K _ _, fun g => ⟨fun _ => K _ _, fun g2 => ⟨by unfold inR; omega, by omega, by unfold inR; omega, by omega, fun w => ?_, fun _ => K _ _⟩⟩⟩
      exfalso
      rw [ea g, eb g2] at w
      rcases hg.2.2 with y | y | y <;> omega
    · refine Sim.query hR (-2) (fun Q h => ?_) (fun M1 s1 hR1 Q h => ?_)
      · have h0 := h M (Same.refl M)
        apply r_X8_lend_0 hS
        refine sp_areTwo hS hn (fun _ => ⟨_, _, rfl, fun z => absurd z (by decide), fun _ => ⟨fun z => by omega, fun _ => ⟨fun _ => ?_, fun z => by omega⟩⟩⟩) (fun z => absurd h2 z)
        refine sp_debt (t := 8) hS (by decide) (by omega) (by omega) ⟨_, _, rfl, ?_⟩
        have ed : M (8 + 7) (8 * i + k) = M 180 (80 + 8 * k + i) := d.1
        rw [ed, Int.toNat_natCast, ci.1]
        refine ⟨by unfold inR; omega, by omega, fun _ => h0, fun z => ⟨fun _ => h0, fun z2 => ?_⟩⟩
        exact sp_mayLend hS hT hi hk (fun y => absurd ⟨z, z2, y⟩ hg) (fun _ => ⟨_, _, rfl, fun z => absurd rfl z, fun _ => h0⟩)
      · have h0 := h M1 (Same.refl M1)
        have e : ∀ q k, ¬ scr q k → M1 q k = M q k := s1
        have ef : ∀ j, j < 8 → mf M1 0 j = mf M 0 j := fun j hj => by unfold mf; rw [e _ _ (by unfold scr; omega), e _ _ (by unfold scr; omega)]
        apply r_X9_lend_0 hM
        refine sq_isTwo hM ((s1 174 0 (by unfold scr; omega)).trans hn2) hn8 (fun _ => ⟨_, _, rfl, fun z => absurd z (by decide), fun _ => sq_in hM ⟨_, _, rfl, ?_⟩⟩) (fun z => absurd h2 z)
        rw [if_pos ⟨hc1, hc2⟩]
        have K : mLend M i k → ∀ x4 x5 : Int, En 183 40 [some (.inr (.inr 173)), some (.inl (i : Int)), some (.inl (k : Int)), some (.inl c), some (.inl x4), some (.inl x5), none] [] S M1 Q := fun hl x4 x5 => by
          apply r_X9_lend_40 hM
          apply r_X9_lend_43 hM
          rw [e56, e 180 (56 + i) (by unfold scr; omega)]
          refine ⟨fun z => absurd z (by decide), fun _ => ⟨by unfold inR; omega, by omega, fun z => r_X9_lend_62 hM h0, fun y => sq_owes hM (by omega) (by omega) ⟨_, _, rfl, ?_⟩⟩⟩
          rw [e 180 (80 + 8 * k + i) (by unfold scr; omega)]
          exact ⟨by unfold inR; omega, fun z => absurd ⟨y, z, hl⟩ hg, fun _ => r_X9_lend_62 hM h0⟩
        refine ⟨fun _ => sq_first (s := 0) hM (by decide) (by omega) ⟨_, _, rfl, sq_first (s := 0) hM (by decide) (by omega) ⟨_, _, rfl, ?_⟩⟩, fun z => absurd z (by decide)⟩
        rw [ef i (by omega), ef k (by omega)]
        refine ⟨fun y => K (Or.inl y) _ _, fun g => ⟨fun y => K (Or.inr (Or.inl y)) _ _, fun g2 => ?_⟩⟩
        have ea : ((144 : Int) + mf M 0 i).toNat = 144 + (mf M 0 i).toNat := by omega
        have eb : ((144 : Int) + mf M 0 k).toNat = 144 + (mf M 0 k).toNat := by omega
        rw [ea, eb, e 180 (144 + (mf M 0 i).toNat) (by unfold scr; omega), e 180 (144 + (mf M 0 k).toNat) (by unfold scr; omega)]
        refine ⟨by unfold inR; omega, by omega, by unfold inR; omega, by omega, fun w => ?_, fun w => K (Or.inr (Or.inr w)) _ _⟩
        apply r_X9_lend_43 hM
        exact ⟨fun _ => r_X9_lend_62 hM h0, fun z => absurd rfl z⟩
  · refine Sim.query hR (-1) (fun Q h => ?_) (fun M1 s1 hR1 Q h => ?_)
    · have h0 := h M (Same.refl M)
      apply r_X8_lend_0 hS
      exact sp_areTwo hS hn (fun y => ⟨_, _, rfl, fun z => absurd z (by decide), fun _ => ⟨fun _ => h0, fun z => ⟨fun w => absurd ⟨y, z, w⟩ h2, fun _ => h0⟩⟩⟩) (fun _ => ⟨_, _, rfl, fun _ => h0, fun z => absurd rfl z⟩)
    · have h0 := h M1 (Same.refl M1)
      apply r_X9_lend_0 hM
      refine sq_isTwo hM ((s1 174 0 (by unfold scr; omega)).trans hn2) hn8 (fun y => ⟨_, _, rfl, fun z => absurd z (by decide), fun _ => sq_in hM ⟨_, _, rfl, ?_⟩⟩) (fun _ => ⟨_, _, rfl, fun _ => r_X9_lend_11 hM h0, fun z => absurd rfl z⟩)
      rw [if_neg (fun w => h2 ⟨y, w⟩)]
      exact ⟨fun z => absurd rfl z, fun _ => r_X9_lend_11 hM h0⟩
end Lend2
