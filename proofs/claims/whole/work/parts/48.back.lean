/-! undo, keep, back -/
section Back
variable {S : Shp} {M : Mem} {Q : Res → Prop}
/-- what stays of Rel when town, held, kept are dealt with -/
theorem Rel_rest {M M' : Mem} (e : ∀ q, q = 5 ∨ q = 6 ∨ q = 4 ∨ q = 171 ∨ q = 173 ∨ q = 181 ∨ q = 168 ∨ q = 169 ∨ q = 170 ∨ q = 182 → M' q = M q) (e1 : ∀ k, k ≠ 10 → k ≠ 11 → M' 172 k = M 172 k) (h : Text M ∧ Word M ∧ Ledg M) : Text M' ∧ Word M' ∧ Ledg M' :=
  ⟨Text_keep (by rw [e 5 (by omega)]) (e1 0 (by decide) (by decide)) (e 6 (by omega)) (e 173 (by omega)) h.1, Word_keep (by rw [e 4 (by omega)]) (e1 12 (by decide) (by decide)) (e 171 (by omega)) (e 181 (by omega)) h.2.1, Ledg_keep (by rw [e 168 (by omega)]) (e1 14 (by decide) (by decide)) (e 169 (by omega)) (e 170 (by omega)) (e 182 (by omega)) h.2.2⟩
theorem sim_undo (hS : KC S) (hM : KM S) (hR : Rel M) : Sim S M 112 188 [] := by
  obtain ⟨n, hT, hU, hK, hrest⟩ := id hR
  obtain ⟨u, u1, u2, u3, u4, u5, u6⟩ := id hU
  by_cases h0 : u = 0
  · refine Sim.query hR (-2) (fun Q h => ?_) (fun M1 s1 hR1 Q h => ?_)
    · apply r_X8_undo_0 hS
      refine r_X4_popInto_0 (u := 30) hS (Or.inl rfl) ?_
      exact ⟨fun z => by omega, fun _ => ⟨_, _, rfl, fun _ => h M (Same.refl M), fun z => absurd rfl z⟩⟩
    · apply r_X9_undo_0 hM
      have : M1 172 11 = 0 := by rw [s1 172 11 (by unfold scr; omega), u3]; omega
      exact ⟨fun z => absurd this z, fun _ => h M1 (Same.refl M1)⟩
  · obtain ⟨k, hk⟩ : ∃ k, u = k + 1 := ⟨u - 1, by omega⟩
    subst hk
    obtain ⟨t, ht, et⟩ := u4 k (by omega)
    have ti := undoT_in t ht
    show Ca 112 _ S M _
    apply r_X8_undo_0 hS
    refine r_X4_popInto_0 (u := 30) hS (Or.inl rfl) ?_
    have ek : M 30 1 - 1 = (k : Int) := by omega
    rw [ek, up2_get, Int.toNat_natCast]
    have e8 : mm_n 30 = 8 := rfl
    rw [e8]
    refine ⟨fun _ => ⟨by unfold inR; omega, by omega, t, ?_, ti.2.2, ?_⟩, fun z => by omega⟩
    · show (up2 M 30 1 k 31 k).toNat = t + 1
      rw [up2_row _ _ _ _ (by decide), et]; omega
    refine sp_copyFrom (t := 8) (o := t) hS (by decide) ti.2.2 (by omega) (fun M2 hc => ⟨_, rfl, _, _, rfl, fun z => absurd z (by decide), fun _ => ⟨_, _, rfl, ?_⟩⟩)
    have c30 : M2 30 1 = (k : Int) := by rw [hc.1 30 (by omega), up2_get]
    have f2 : ∀ q, ¬ (8 ≤ q ∧ q ≤ 18) → q ≠ 30 → M2 q = M q := fun q q1 q2 => by rw [hc.1 q (by omega), up2_row _ _ _ _ q2]
    rw [c30]
    apply r_X9_undo_0 hM
    have b : M2 172 11 = ((k + 1 : Nat) : Int) := by rw [f2 172 (by decide) (by decide)]; exact u3
    have ek2 : (((k + 1 : Nat) : Int) - 1) = (k : Int) := by omega
    have e3 : ((3 : Int) + (k : Int)) = ((3 + k : Nat) : Int) := by omega
    rw [b, ek2, up2_get, e3]
    refine ⟨fun _ => ⟨by unfold inR; omega, by unfold inR; omega, ?_⟩, fun z => by omega⟩
    refine sq_copies (b := 0) hM (by omega) (by decide) (by omega) (fun M4 hd => ⟨_, rfl, M4, ?_, ⟨n, ?_, ?_, ?_, ?_⟩, ?_⟩)
    · rw [hd.1 172 (by decide), up2_get]
    all_goals have E : ∀ q, ¬ (8 ≤ q ∧ q ≤ 18) → q ≠ 30 → q ≠ 172 → q ≠ 180 → M4 q = M q := fun q q1 q2 q3 q4 => by rw [hd.1 q q4, up2_row _ _ _ _ q3, f2 q q1 q2]
    all_goals have E172 : ∀ j, j ≠ 11 → M4 172 j = M 172 j := fun j hj => by rw [hd.1 172 (by decide), up2_any, if_neg (by omega), f2 172 (by decide) (by decide)]
    all_goals have c4 : M4 174 = M 174 := E 174 (by decide) (by decide) (by decide) (by decide)
    all_goals have c5 : M4 175 = M 175 := E 175 (by decide) (by decide) (by decide) (by decide)
    all_goals have c9 : M4 179 = M 179 := E 179 (by decide) (by decide) (by decide) (by decide)
    all_goals have s0 : ∀ i, 170 ≤ i → M4 180 i = M 180 i := fun i hi => by rw [hd.2.2 i (by omega), up2_row _ _ _ _ (by decide), f2 180 (by decide) (by decide)]
    · refine Tn_congr (t := t) (s := 3 + k) (fun j hj i hi => ?_) (fun i hi => ?_) (fun k _ => by rw [c4]) (fun k _ => by rw [c5]) (fun k _ => by rw [c9]) (u6 k t (by omega) et)
      · rw [hd.1 (8 + j) (by omega), up2_row _ _ _ _ (by omega), hc.2 j hj i hi, up2_row _ _ _ _ (by omega)]
      · rw [hd.2.1 i hi, up2_row _ _ _ _ (by decide), f2 180 (by decide) (by decide)]
    · refine ⟨k, by omega, ?_, ?_, fun j hj => by rw [E 31 (by decide) (by decide) (by decide) (by decide)]; exact u4 j hj, fun a b ha hb hab => by rw [E 31 (by decide) (by decide) (by decide) (by decide)] at hab; exact u5 a b ha hb hab, fun j t' hj ht' => ?_⟩
      · rw [hd.1 30 (by decide), up2_row _ _ _ _ (by decide), c30]
      · rw [hd.1 172 (by decide), up2_get]
      · rw [E 31 (by decide) (by decide) (by decide) (by decide)] at ht'
        obtain ⟨t2, ht2, e2⟩ := u4 j (by omega)
        have : t2 = t' := by rw [ht'] at e2; omega
        subst this
        have ti2 := undoT_in t2 ht2
        exact Tn_congr (t := t2) (s := 3 + j) (fun a ha i hi => by rw [E (t2 + a) (by omega) (by omega) (by omega) (by omega)]) (fun i hi => s0 _ (by omega)) (fun k _ => by rw [c4]) (fun k _ => by rw [c5]) (fun k _ => by rw [c9]) (u6 j t2 (by omega) ht')
    · obtain ⟨v, v1, v2, v3, v4, v5⟩ := hK
      refine ⟨v, v1, by rw [E 120 (by decide) (by decide) (by decide) (by decide)]; exact v2, by rw [E172 10 (by decide)]; exact v3, fun k hk => by rw [E 121 (by decide) (by decide) (by decide) (by decide)]; exact v4 k hk, fun j hj => ?_⟩
      exact Tn_congr (t := keptT j) (s := 1 + j) (fun a ha i hi => by rw [E (keptT j + a) (by unfold keptT; omega) (by unfold keptT; omega) (by unfold keptT; omega) (by unfold keptT; omega)]) (fun i hi => s0 _ (by omega)) (fun k _ => by rw [c4]) (fun k _ => by rw [c5]) (fun k _ => by rw [c9]) (v5 j hj)
    · exact Rel_rest (fun q hq => E q (by omega) (by omega) (by omega) (by omega)) (fun j _ h11 => E172 j h11) hrest
    · exact E 0 (by decide) (by decide) (by decide) (by decide)
theorem keptT_in : ∀ k, k < 2 → keptT k ∈ bx_tw := by decide
theorem sim_back (hS : KC S) (hM : KM S) (hR : Rel M) : Sim S M 130 217 [] := by
  obtain ⟨n, hT, hU, hK, hrest⟩ := id hR
  obtain ⟨u, u1, u2, u3, u4, u5, u6⟩ := id hU
  obtain ⟨v, v1, v2, v3, v4, v5⟩ := id hK
  by_cases h0 : v = 0
  · refine Sim.query hR (-2) (fun Q h => ?_) (fun M1 s1 hR1 Q h => ?_)
    · apply r_X8_back_0 hS
      refine r_X4_popInto_0 (u := 120) hS (Or.inr rfl) ?_
      exact ⟨fun z => by omega, fun _ => ⟨_, _, rfl, fun z => absurd rfl z, fun _ => h M (Same.refl M)⟩⟩
    · apply r_X9_back_0 hM
      have : M1 172 10 = 0 := by rw [s1 172 10 (by unfold scr; omega), v3]; omega
      exact ⟨fun z => absurd this z, fun _ => h M1 (Same.refl M1)⟩
  · obtain ⟨k, hk⟩ : ∃ k, v = k + 1 := ⟨v - 1, by omega⟩
    subst hk
    have et := v4 k (by omega)
    have ti := keptT_in k (by omega)
    have tb : 122 ≤ keptT k ∧ keptT k ≤ 133 := by unfold keptT; omega
    show Ca 130 _ S M _
    apply r_X8_back_0 hS
    refine r_X4_popInto_0 (u := 120) hS (Or.inr rfl) ?_
    have ek : M 120 1 - 1 = (k : Int) := by omega
    rw [ek, up2_get, Int.toNat_natCast]
    have e8 : mm_n 120 = 2 := rfl
    rw [e8]
    refine ⟨fun _ => ⟨by unfold inR; omega, by omega, keptT k, ?_, ti, ?_⟩, fun z => by omega⟩
    · show (up2 M 120 1 k 121 k).toNat = keptT k + 1
      rw [up2_row _ _ _ _ (by decide), et]; omega
    refine sp_copyFrom (t := 8) (o := keptT k) hS (by decide) ti (by omega) (fun M1 hc => ⟨_, rfl, _, _, rfl, fun _ => ⟨_, _, rfl, ?_⟩, fun z => absurd z (by decide)⟩)
    have c120 : (up2 M1 30 1 0) 120 1 = (k : Int) := by rw [up2_row _ _ _ _ (by decide), hc.1 120 (by omega), up2_get]
    obtain ⟨M2, hM2⟩ : ∃ z, z = up2 M1 30 1 0 := ⟨_, rfl⟩
    rw [c120, ← hM2]
    have f2 : ∀ q, ¬ (8 ≤ q ∧ q ≤ 18) → q ≠ 120 → q ≠ 30 → M2 q = M q := fun q q1 q2 q3 => by rw [hM2, up2_row _ _ _ _ q3, hc.1 q (by omega), up2_row _ _ _ _ q2]
    apply r_X9_back_0 hM
    have b : M2 172 10 = ((k + 1 : Nat) : Int) := by rw [f2 172 (by decide) (by decide) (by decide)]; exact v3
    rw [b]
    refine ⟨fun _ => ?_, fun z => by omega⟩
    refine sq_copies (b := 0) hM (by omega) (by decide) (by omega) (fun M3 hd => ⟨_, rfl, ?_, up2 (up2 M3 172 10 (M3 172 10 - 1)) 172 11 0, ?_, ⟨n, ?_, ?_, ?_, ?_⟩, ?_⟩)
    · rw [hd.1 172 (by decide), b]; unfold inR; omega
    · rw [up2_any, if_neg (by decide), up2_get, hd.1 172 (by decide), b]
      have : (((k + 1 : Nat) : Int) - 1) = (k : Int) := by omega
      rw [this]
    all_goals obtain ⟨M4, hM4⟩ : ∃ z, z = up2 (up2 M3 172 10 (M3 172 10 - 1)) 172 11 0 := ⟨_, rfl⟩
    all_goals rw [← hM4]
    all_goals have E : ∀ q, ¬ (8 ≤ q ∧ q ≤ 18) → q ≠ 30 → q ≠ 120 → q ≠ 172 → q ≠ 180 → M4 q = M q := fun q q1 q2 q3 q4 q5 => by rw [hM4, up2_row _ _ _ _ q4, up2_row _ _ _ _ q4, hd.1 q q5, f2 q q1 q3 q2]
    all_goals have E172 : ∀ j, j ≠ 10 → j ≠ 11 → M4 172 j = M 172 j := fun j hj hj2 => by rw [hM4, up2_any, if_neg (by omega), up2_any, if_neg (by omega), hd.1 172 (by decide), f2 172 (by decide) (by decide) (by decide)]
    all_goals have r180 : M4 180 = M3 180 := by rw [hM4, up2_row _ _ _ _ (by decide), up2_row _ _ _ _ (by decide)]
    all_goals have c4 : M4 174 = M 174 := E 174 (by decide) (by decide) (by decide) (by decide) (by decide)
    all_goals have c5 : M4 175 = M 175 := E 175 (by decide) (by decide) (by decide) (by decide) (by decide)
    all_goals have c9 : M4 179 = M 179 := E 179 (by decide) (by decide) (by decide) (by decide) (by decide)
    all_goals have s0 : ∀ i, 170 ≤ i → M4 180 i = M 180 i := fun i hi => by rw [r180, hd.2.2 i (by omega), f2 180 (by decide) (by decide) (by decide)]
    · refine Tn_congr (t := keptT k) (s := 1 + k) (fun j hj i hi => ?_) (fun i hi => ?_) (fun k _ => by rw [c4]) (fun k _ => by rw [c5]) (fun k _ => by rw [c9]) (v5 k (by omega))
      · rw [hM4, up2_row _ _ _ _ (by omega), up2_row _ _ _ _ (by omega), hd.1 (8 + j) (by omega), hM2, up2_row _ _ _ _ (by omega), hc.2 j hj i hi, up2_row _ _ _ _ (by omega)]
      · rw [r180, hd.2.1 i hi, f2 180 (by decide) (by decide) (by decide), Nat.add_comm k 1]
    · refine ⟨0, by omega, ?_, ?_, fun j hj => by rw [E 31 (by decide) (by decide) (by decide) (by decide) (by decide)]; exact u4 j hj, fun a b ha hb hab => by rw [E 31 (by decide) (by decide) (by decide) (by decide) (by decide)] at hab; exact u5 a b ha hb hab, fun j t' hj ht' => absurd hj (by omega)⟩
      · rw [hM4, up2_row _ _ _ _ (by decide), up2_row _ _ _ _ (by decide), hd.1 30 (by decide), hM2, up2_get]; rfl
      · rw [hM4, up2_get]; rfl
    · refine ⟨k, by omega, ?_, ?_, fun k hk => by rw [E 121 (by decide) (by decide) (by decide) (by decide) (by decide)]; exact v4 k hk, fun j hj => ?_⟩
      · rw [hM4, up2_row _ _ _ _ (by decide), up2_row _ _ _ _ (by decide), hd.1 120 (by decide), hM2]; exact c120
      · rw [hM4, up2_any, if_neg (by decide), up2_get, hd.1 172 (by decide), b]; omega
      · exact Tn_congr (t := keptT j) (s := 1 + j) (fun a ha i hi => by rw [E (keptT j + a) (by unfold keptT; omega) (by unfold keptT; omega) (by unfold keptT; omega) (by unfold keptT; omega) (by unfold keptT; omega)]) (fun i hi => s0 _ (by omega)) (fun k _ => by rw [c4]) (fun k _ => by rw [c5]) (fun k _ => by rw [c9]) (v5 j (by omega))
    · exact Rel_rest (fun q hq => E q (by omega) (by omega) (by omega) (by omega) (by omega)) E172 hrest
    · exact E 0 (by decide) (by decide) (by decide) (by decide) (by decide)
end Back
