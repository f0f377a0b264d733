/-! keep; the town in plain numbers of cells -/
section Keep
variable {S : Shp} {M : Mem} {Q : Res → Prop}
theorem sim_keep (hS : KC S) (hM : KM S) (hR : Rel M) : Sim S M 129 216 [] := by
  obtain ⟨n, hT, hU, hK, hrest⟩ := id hR
  obtain ⟨v, v1, v2, v3, v4, v5⟩ := id hK
  have e2 : mm_n 120 = 2 := rfl
  by_cases h2 : v = 2
  · refine Sim.query hR (-3) (fun Q h => ?_) (fun M1 s1 hR1 Q h => ?_)
    · apply r_X8_keep_0 hS
      refine r_X4_isFull_0 (u := 120) hS (Or.inr rfl) ?_
      rw [e2, v2]
      exact ⟨fun z => by omega, fun _ => ⟨_, _, rfl, fun z => absurd z (by decide), fun _ => h M (Same.refl M)⟩⟩
    · apply r_X9_keep_0 hM
      have : M1 172 10 = 2 := by rw [s1 172 10 (by unfold scr; omega), v3]; omega
      exact ⟨fun z => absurd this z, fun _ => h M1 (Same.refl M1)⟩
  · have et := v4 v (by omega)
    have ti := keptT_in v (by omega)
    have tb : 122 ≤ keptT v ∧ keptT v ≤ 133 := by unfold keptT; omega
    show Ca 129 _ S M _
    apply r_X8_keep_0 hS
    refine r_X4_isFull_0 (u := 120) hS (Or.inr rfl) ?_
    rw [e2, v2]
    refine ⟨fun _ => ⟨_, _, rfl, fun _ => ?_, fun z => absurd rfl z⟩, fun z => by omega⟩
    refine r_X4_push_0 (u := 120) hS (Or.inr rfl) ?_
    refine r_X4_isFull_0 (u := 120) hS (Or.inr rfl) ?_
    rw [e2, v2]
    refine ⟨fun _ => ⟨_, _, rfl, fun _ => ⟨by omega, keptT v, ?_, ti, ?_⟩, fun z => absurd rfl z⟩, fun z => by omega⟩
    · rw [v2, Int.toNat_natCast]
      show (M 121 v).toNat = keptT v + 1
      rw [et]; omega
    refine sp_copyFrom (t := keptT v) (o := 8) hS ti (by decide) (by omega) (fun M1 hc => ⟨_, rfl, ?_, _, rfl, _, _, rfl, ?_⟩)
    · rw [hc.1 120 (by omega), v2]; unfold inR; omega
    have c120 : M1 120 1 = (v : Int) := by rw [hc.1 120 (by omega), v2]
    rw [c120, up2_get]
    obtain ⟨M2, hM2⟩ : ∃ z, z = up2 M1 120 1 ((v : Int) + 1) := ⟨_, rfl⟩
    rw [← hM2]
    have f2 : ∀ q, ¬ (keptT v ≤ q ∧ q ≤ keptT v + 10) → q ≠ 120 → M2 q = M q := fun q q1 q2 => by rw [hM2, up2_row _ _ _ _ q2, hc.1 q q1]
    apply r_X9_keep_0 hM
    have b : M2 172 10 = (v : Int) := by rw [f2 172 (by omega) (by decide)]; exact v3
    have ev : ((v : Int) + 1) = ((v + 1 : Nat) : Int) := by omega
    rw [b, up2_get, ev]
    refine ⟨fun _ => ⟨by unfold inR; omega, ?_⟩, fun z => by omega⟩
    refine sq_copies (a := 0) hM (by decide) (by omega) (by omega) (fun M4 hd => ⟨_, rfl, M4, ?_, ⟨n, ?_, ?_, ?_, ?_⟩, ?_⟩)
    · rw [hd.1 172 (by decide), up2_get]
    all_goals have E : ∀ q, ¬ (keptT v ≤ q ∧ q ≤ keptT v + 10) → q ≠ 120 → q ≠ 172 → q ≠ 180 → M4 q = M q := fun q q1 q2 q3 q4 => by rw [hd.1 q q4, up2_row _ _ _ _ q3, f2 q q1 q2]
    all_goals have E172 : ∀ j, j ≠ 10 → M4 172 j = M 172 j := fun j hj => by rw [hd.1 172 (by decide), up2_any, if_neg (by omega), f2 172 (by omega) (by decide)]
    all_goals have c4 : M4 174 = M 174 := E 174 (by omega) (by decide) (by decide) (by decide)
    all_goals have c5 : M4 175 = M 175 := E 175 (by omega) (by decide) (by decide) (by decide)
    all_goals have c9 : M4 179 = M 179 := E 179 (by omega) (by decide) (by decide) (by decide)
    all_goals have s0 : ∀ i, (i < 170 * (v + 1) ∨ 170 * (v + 1) + 170 ≤ i) → M4 180 i = M 180 i := fun i hi => by rw [hd.2.2 i (by omega), up2_row _ _ _ _ (by decide), f2 180 (by omega) (by decide)]
    · exact Tn_congr (t := 8) (s := 0) (fun a ha i hi => by rw [E (8 + a) (by omega) (by omega) (by omega) (by omega)]) (fun i hi => s0 _ (by omega)) (fun k _ => by rw [c4]) (fun k _ => by rw [c5]) (fun k _ => by rw [c9]) hT
    · obtain ⟨u, u1, u2, u3, u4, u5, u6⟩ := hU
      refine ⟨u, u1, by rw [E 30 (by omega) (by decide) (by decide) (by decide)]; exact u2, by rw [E172 11 (by decide)]; exact u3, fun j hj => by rw [E 31 (by omega) (by decide) (by decide) (by decide)]; exact u4 j hj, fun a b ha hb hab => by rw [E 31 (by omega) (by decide) (by decide) (by decide)] at hab; exact u5 a b ha hb hab, fun j t' hj ht' => ?_⟩
      rw [E 31 (by omega) (by decide) (by decide) (by decide)] at ht'
      obtain ⟨t2, ht2, e2⟩ := u4 j (by omega)
      have : t2 = t' := by rw [ht'] at e2; omega
      subst this
      have ti2 := undoT_in t2 ht2
      exact Tn_congr (t := t2) (s := 3 + j) (fun a ha i hi => by rw [E (t2 + a) (by omega) (by omega) (by omega) (by omega)]) (fun i hi => s0 _ (by omega)) (fun k _ => by rw [c4]) (fun k _ => by rw [c5]) (fun k _ => by rw [c9]) (u6 j t2 hj ht')
    · refine ⟨v + 1, by omega, ?_, ?_, fun k hk => by rw [E 121 (by omega) (by decide) (by decide) (by decide)]; exact v4 k hk, fun j hj => ?_⟩
      · rw [hd.1 120 (by decide), up2_row _ _ _ _ (by decide), hM2, up2_get]; omega
      · rw [hd.1 172 (by decide), up2_get]
      · by_cases hjv : j = v
        · subst hjv
          refine Tn_congr (t := 8) (s := 0) (fun a ha i hi => ?_) (fun i hi => ?_) (fun k _ => by rw [c4]) (fun k _ => by rw [c5]) (fun k _ => by rw [c9]) hT
          · rw [hd.1 (keptT j + a) (by omega), up2_row _ _ _ _ (by omega), hM2, up2_row _ _ _ _ (by omega), hc.2 a ha i hi]
          · rw [Nat.add_comm 1 j, hd.2.1 i hi, up2_row _ _ _ _ (by decide), f2 180 (by omega) (by decide)]
        · have : keptT j + 11 ≤ keptT v := by unfold keptT; omega
          have : 122 ≤ keptT j := by unfold keptT; omega
          exact Tn_congr (t := keptT j) (s := 1 + j) (fun a ha i hi => by rw [E (keptT j + a) (by omega) (by omega) (by omega) (by omega)]) (fun i hi => s0 _ (by omega)) (fun k _ => by rw [c4]) (fun k _ => by rw [c5]) (fun k _ => by rw [c9]) (v5 j (by omega))
    · exact Rel_rest (fun q hq => E q (by omega) (by omega) (by omega) (by omega)) (fun j h10 _ => E172 j h10) hrest
    · exact E 0 (by omega) (by decide) (by decide) (by decide)
end Keep
def TT (M : Mem) (n : Nat) : Prop :=
  n ≤ 8 ∧
  (∀ i, i < n → M 9 i = M 180 i ∧ 0 ≤ M 180 i ∧ M 180 i ≤ 6) ∧
  (∀ i k : Nat, i < n → (k : Int) < M 180 i → M 10 (6 * i + k) = M 180 (8 + 6 * i + k) ∧ 0 ≤ M 180 (8 + 6 * i + k) ∧ M 180 (8 + 6 * i + k) < 26) ∧
  (∀ i, i < n → M 12 i = M 180 (56 + i) ∧ 0 ≤ M 180 (56 + i)) ∧
  (sumB (fun _ => true) (fun i => M 180 (56 + i)) n ≤ 800) ∧
  (∀ i, i < n → (M 13 i = -4 ∧ M 180 (64 + i) = 0) ∨ (0 ≤ M 13 i ∧ M 13 i < n ∧ M 180 (64 + i) = M 13 i + 1)) ∧
  (∀ i, i < 8 → (i < n → M 14 i = M 180 (72 + i)) ∧ (M 180 (72 + i) = 0 ∨ M 180 (72 + i) = 1) ∧ (n ≤ i → M 180 (72 + i) = 0)) ∧
  (∀ i j, i < n → j < n → M 15 (8 * i + j) = M 180 (80 + 8 * j + i) ∧ 0 ≤ M 180 (80 + 8 * j + i) ∧ M 180 (80 + 8 * j + i) ≤ 999) ∧
  (∀ x, x < 26 → M 16 x = M 180 (144 + x)) ∧ gal (fun x => M 180 (144 + x)) ∧
  (∀ r, r < 26 → 0 ≤ M 17 r ∧ M 17 r < 26 ∧ M 16 (M 17 r).toNat = r)
theorem TT_iff (M : Mem) (n : Nat) : TR (fun j k => M (8 + j) k) (fun k => M 180 (170 * 0 + k)) n ↔ TT M n := by
  unfold TR TT
  simp only [Nat.mul_zero, Nat.zero_add, Nat.reduceAdd]
