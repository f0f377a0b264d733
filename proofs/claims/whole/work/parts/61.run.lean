/-! change, run: the calls -/
section Run
variable {S : Shp} {M : Mem} {Q : Res → Prop}
theorem Rel_n {M M1 : Mem} {n : Nat} (hT : Tn M 8 0 n) (s1 : Same M M1) (hR1 : Rel M1) : Tn M1 8 0 n := by
  obtain ⟨n', hT1, -⟩ := hR1
  have en := Tn_n hT hT1 (s1 174 0 (by unfold scr; omega))
  subst en
  exact hT1
theorem sim_change (hS : KC S) (hM : KM S) (hR : Rel M) (p q : Int) : Sim S M 113 190 [.inl p, .inl q] := by
  obtain ⟨n, hT, -⟩ := id hR
  have hn8 := hT.1.1
  have hn : M 8 0 = n := hT.2.1.1
  have hs := Tn_sok hT
  by_cases hp : 0 ≤ p ∧ p ≤ (n : Int) - 1
  · obtain ⟨i, rfl, hi⟩ := int_nat hp
    by_cases hq : 0 ≤ q ∧ q ≤ 1
    · have e9 : M (8 + 1) i = M 180 i := by simpa using Tn_sz hT hi
      by_cases hz : M 180 i = 0
      · refine Sim.query2 hR (-2) (fun Q h => ?_) (fun M1 s1 k1 hR1 Q h => ?_)
        · apply r_X8_change_0 hS
          refine sp_isPerson hS hn ⟨_, _, rfl, ?_⟩
          rw [if_pos hp]
          refine ⟨fun z => absurd z (by decide), fun _ => ⟨fun z => by omega, fun _ => ⟨fun _ => sp_isNameless (t := 8) hS (by decide) (by omega) ⟨_, _, rfl, ?_⟩, fun z => by omega⟩⟩⟩
          rw [e9, if_pos hz]
          exact ⟨fun z => absurd z (by decide), fun _ => h M (Same.refl M) (fun _ _ => rfl)⟩
        · have hT1 := Rel_n hT s1 hR1
          apply r_X9_change_0 hM
          refine sq_isPerson hM hT1.2.1.2.1 hn8 ⟨_, _, rfl, ?_⟩
          rw [if_pos hp]
          refine ⟨fun z => absurd z (by decide), fun _ => sq_in hM ⟨_, _, rfl, ?_⟩⟩
          rw [if_pos hq]
          refine ⟨fun _ => sq_first (s := 0) hM (by decide) (by omega) ⟨_, _, rfl, ?_⟩, fun z => absurd z (by decide)⟩
          have : mf M1 0 i = -4 := by unfold mf; rw [k1 180 (by decide), if_pos (by simpa using hz)]
          rw [this]
          exact ⟨fun z => absurd z (by decide), fun _ => h M1 (Same.refl M1)⟩
      · have fk := f0_ok hs
        have hx26 := pbest_in hT (f0 M) i
        refine Sim.query2 hR (if q = 0 then ((lbest (pg M (f0 M) n i) (pord M) 25).1 : Int) else (lbest (pg M (f0 M) n i) (pord M) 25).2 + 100) (fun Q h => ?_) (fun M1 s1 k1 hR1 Q h => ?_)
        · apply r_X8_change_0 hS
          refine sp_isPerson hS hn ⟨_, _, rfl, ?_⟩
          rw [if_pos hp]
          refine ⟨fun z => absurd z (by decide), fun _ => ⟨fun z => by omega, fun _ => ⟨fun _ => sp_isNameless (t := 8) hS (by decide) (by omega) ⟨_, _, rfl, ?_⟩, fun z => by omega⟩⟩⟩
          rw [e9, if_neg hz]
          refine ⟨fun _ => sp_lineNow hS hn (Tn_names hT) (fun M' hl => ⟨_, rfl, ?_⟩), fun z => absurd rfl z⟩
          have l := Lr_LN hT hl
          refine Lr_best_call hS hT fk l hi hz ⟨_, _, rfl, fun z => Lr_gain_call hS hT fk l hi hz hx26 ⟨_, _, rfl, ?_, ?_⟩, fun z => ?_⟩
          · have := pg_in hT (f := f0 M) hi (lbest (pg M (f0 M) n i) (pord M) 25).1
            unfold inR; omega
          · have := h M' (Lr_same l).1 (Lr_same l).2
            rw [if_neg z, lbest_at] at this
            exact this
          · have := h M' (Lr_same l).1 (Lr_same l).2
            rw [if_pos z] at this
            exact this
        · have hT1 := Rel_n hT s1 hR1
          apply r_X9_change_0 hM
          refine sq_isPerson hM hT1.2.1.2.1 hn8 ⟨_, _, rfl, ?_⟩
          rw [if_pos hp]
          refine ⟨fun z => absurd z (by decide), fun _ => sq_in hM ⟨_, _, rfl, ?_⟩⟩
          rw [if_pos hq]
          refine ⟨fun _ => sq_first (s := 0) hM (by decide) (by omega) ⟨_, _, rfl, ?_⟩, fun z => absurd z (by decide)⟩
          have e : mf M1 0 i = f0 M i := by unfold mf f0; rw [k1 180 (by decide), if_neg (by simpa using hz)]
          have hf := fk i hi hz
          rw [e]
          have e180 := k1 180 (by decide)
          refine ⟨fun _ => sq_copies hM (a := 0) (b := 11) (by decide) (by decide) (by decide) (fun M7 c7 => ⟨_, rfl, ?_⟩), fun z => by omega⟩
          have t7 := Tr_cp c7
          refine sq_bestFirst hM hT1 (f0_ok (Tn_sok hT1)) hi (by rw [e180]; exact hz) t7 (fun M8 t8 w8 => ⟨_, _, rfl, fun z => ?_, fun z => ?_⟩)
          · rw [pg_row k1, pord_row s1, f0_row k1] at w8
            rw [w8, lbest_at]
            have := pg_in hT (f := f0 M) hi (lbest (pg M (f0 M) n i) (pord M) 25).1
            refine ⟨by unfold inR; omega, ?_⟩
            have := h M8 (Tr_same t8)
            rw [if_neg z, lbest_at] at this
            exact this
          · rw [pg_row k1, pord_row s1, f0_row k1]
            have := h M8 (Tr_same t8)
            rw [if_pos z] at this
            exact this
    · refine Sim.query2 hR (-1) (fun Q h => ?_) (fun M1 s1 k1 hR1 Q h => ?_)
      · apply r_X8_change_0 hS
        refine sp_isPerson hS hn ⟨_, _, rfl, ?_⟩
        rw [if_pos hp]
        exact ⟨fun z => absurd z (by decide), fun _ => ⟨fun z => h M (Same.refl M) (fun _ _ => rfl), fun _ => ⟨fun z => by omega, fun z => h M (Same.refl M) (fun _ _ => rfl)⟩⟩⟩
      · apply r_X9_change_0 hM
        refine sq_isPerson hM (Rel_n hT s1 hR1).2.1.2.1 hn8 ⟨_, _, rfl, ?_⟩
        rw [if_pos hp]
        refine ⟨fun z => absurd z (by decide), fun _ => sq_in hM ⟨_, _, rfl, ?_⟩⟩
        rw [if_neg hq]
        exact ⟨fun z => absurd rfl z, fun _ => h M1 (Same.refl M1)⟩
  · refine Sim.query2 hR (-1) (fun Q h => ?_) (fun M1 s1 k1 hR1 Q h => ?_)
    · apply r_X8_change_0 hS
      refine sp_isPerson hS hn ⟨_, _, rfl, ?_⟩
      rw [if_neg hp]
      exact ⟨fun _ => h M (Same.refl M) (fun _ _ => rfl), fun z => absurd rfl z⟩
    · apply r_X9_change_0 hM
      refine sq_isPerson hM (Rel_n hT s1 hR1).2.1.2.1 hn8 ⟨_, _, rfl, ?_⟩
      rw [if_neg hp]
      exact ⟨fun _ => h M1 (Same.refl M1), fun z => absurd rfl z⟩
theorem sim_run (hS : KC S) (hM : KM S) (hR : Rel M) (p : Int) : Sim S M 114 192 [.inl p] := by
  obtain ⟨n, hT, -⟩ := id hR
  have hn8 := hT.1.1
  have hn1 : 1 ≤ n := hT.2.1.2.2.1
  have hn : M 8 0 = n := hT.2.1.1
  have hs := Tn_sok hT
  have fk := f0_ok hs
  have MN : ∀ {M1 : Mem}, Same M M1 → Rel M1 → M1 174 (0 : Int).toNat = n := fun s1 hR1 => (Rel_n hT s1 hR1).2.1.2.1
  by_cases h1 : p = -1
  · subst h1
    refine Sim.query2 hR (rvN M n 20 0 (f0 M)) (fun Q h => ?_) (fun M1 s1 k1 hR1 Q h => ?_)
    · apply r_X8_run_0 hS
      exact ⟨fun _ => ⟨fun _ => sp_lineNow hS hn (Tn_names hT) (fun M' hl => ⟨_, rfl, runN_C hS hT 20 0 (f0 M) M' rfl fk (Lr_LN hT hl) (fun M2 f' l' => h M2 (Lr_same l').1 (Lr_same l').2)⟩), fun z => absurd rfl z⟩, fun z => absurd rfl z⟩
    · have hT1 := Rel_n hT s1 hR1
      apply r_X9_run_0 hM
      rw [MN s1 hR1]
      refine ⟨by decide, by unfold inR; omega, sq_in hM ⟨_, _, rfl, ?_⟩⟩
      rw [if_pos (by omega)]
      refine ⟨fun _ => sq_copies hM (a := 0) (b := 11) (by decide) (by decide) (by decide) (fun M7 c7 => ⟨_, rfl, ?_⟩), fun z => absurd z (by decide)⟩
      refine runN_M hM hT1 20 0 (f0 M1) M7 rfl (f0_ok (Tn_sok hT1)) (Tr_cp c7) (fun M2 f' t' => ?_)
      rw [rvN_row s1 k1, f0_row k1]
      exact h M2 (Tr_same t')
  · by_cases hp : 0 ≤ p ∧ p ≤ (n : Int) - 1
    · obtain ⟨i, rfl, hi⟩ := int_nat hp
      have e9 : M (8 + 1) i = M 180 i := by simpa using Tn_sz hT hi
      by_cases hz : M 180 i = 0
      · refine Sim.query2 hR (-4) (fun Q h => ?_) (fun M1 s1 k1 hR1 Q h => ?_)
        · apply r_X8_run_0 hS
          refine ⟨fun z => absurd z h1, fun _ => sp_isPerson hS hn ⟨_, _, rfl, ?_⟩⟩
          rw [if_pos hp]
          refine ⟨fun _ => ⟨fun z => absurd z h1, fun _ => sp_isNameless (t := 8) hS (by decide) (by omega) ⟨_, _, rfl, ?_⟩⟩, fun z => absurd z (by decide)⟩
          rw [e9, if_pos hz]
          exact ⟨fun z => absurd z (by decide), fun _ => h M (Same.refl M) (fun _ _ => rfl)⟩
        · have hT1 := Rel_n hT s1 hR1
          apply r_X9_run_0 hM
          rw [MN s1 hR1]
          refine ⟨by decide, by unfold inR; omega, sq_in hM ⟨_, _, rfl, ?_⟩⟩
          rw [if_pos (by omega)]
          refine ⟨fun _ => sq_copies hM (a := 0) (b := 11) (by decide) (by decide) (by decide) (fun M7 c7 => ⟨_, rfl, ?_⟩), fun z => absurd z (by decide)⟩
          exact runZ_M hM hT1 hi (by rw [k1 180 (by decide)]; exact hz) 20 0 (f0 M1) M7 rfl (f0_ok (Tn_sok hT1)) (Tr_cp c7) (fun M2 f' t' => h M2 (Tr_same t'))
      · refine Sim.query2 hR (rvI M n i 20 (f0 M)) (fun Q h => ?_) (fun M1 s1 k1 hR1 Q h => ?_)
        · apply r_X8_run_0 hS
          refine ⟨fun z => absurd z h1, fun _ => sp_isPerson hS hn ⟨_, _, rfl, ?_⟩⟩
          rw [if_pos hp]
          refine ⟨fun _ => ⟨fun z => absurd z h1, fun _ => sp_isNameless (t := 8) hS (by decide) (by omega) ⟨_, _, rfl, ?_⟩⟩, fun z => absurd z (by decide)⟩
          rw [e9, if_neg hz]
          exact ⟨fun _ => sp_lineNow hS hn (Tn_names hT) (fun M' hl => ⟨_, rfl, runI_C hS hT hi hz 20 0 (f0 M) M' rfl fk (Lr_LN hT hl) (fun M2 f' l' => h M2 (Lr_same l').1 (Lr_same l').2)⟩), fun z => absurd rfl z⟩
        · have hT1 := Rel_n hT s1 hR1
          apply r_X9_run_0 hM
          rw [MN s1 hR1]
          refine ⟨by decide, by unfold inR; omega, sq_in hM ⟨_, _, rfl, ?_⟩⟩
          rw [if_pos (by omega)]
          refine ⟨fun _ => sq_copies hM (a := 0) (b := 11) (by decide) (by decide) (by decide) (fun M7 c7 => ⟨_, rfl, ?_⟩), fun z => absurd z (by decide)⟩
          refine runI_M hM hT1 hi (by rw [k1 180 (by decide)]; exact hz) 20 0 (f0 M1) M7 rfl (f0_ok (Tn_sok hT1)) (Tr_cp c7) (fun M2 f' t' => ?_)
          rw [rvI_row s1 k1, f0_row k1]
          exact h M2 (Tr_same t')
    · refine Sim.query2 hR (-1) (fun Q h => ?_) (fun M1 s1 k1 hR1 Q h => ?_)
      · apply r_X8_run_0 hS
        refine ⟨fun z => absurd z h1, fun _ => sp_isPerson hS hn ⟨_, _, rfl, ?_⟩⟩
        rw [if_neg hp]
        exact ⟨fun z => absurd rfl z, fun _ => h M (Same.refl M) (fun _ _ => rfl)⟩
      · apply r_X9_run_0 hM
        rw [MN s1 hR1]
        refine ⟨by decide, by unfold inR; omega, sq_in hM ⟨_, _, rfl, ?_⟩⟩
        rw [if_neg (by omega)]
        exact ⟨fun z => absurd rfl z, fun _ => h M1 (Same.refl M1)⟩
end Run
