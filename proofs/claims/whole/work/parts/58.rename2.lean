/-! rename -/
theorem sumB_less {W V : Nat → Int} {a : Nat} {c : Int} (hc : 0 ≤ c) (ha : V a = W a - c) (ho : ∀ k, k ≠ a → V k = W k) : ∀ m, sumB (fun _ => true) V m ≤ sumB (fun _ => true) W m := by
  intro m
  induction m with
  | zero => exact Int.le_refl _
  | succ m ih =>
    rw [sumB, sumB, if_pos rfl, if_pos rfl]
    by_cases h : m = a
    · subst h; omega
    · rw [ho m h]; omega
section Ren2
variable {S : Shp} {M : Mem} {Q : Res → Prop}
theorem sim_rename (hS : KC S) (hM : KM S) (hR : Rel M) (p : Int) : Sim S M 105 176 [.inl p] := by
  obtain ⟨n, hT, hU, hrest⟩ := id hR
  have hu := Rel_UO hU
  have hn8 := hT.1.1
  have hn : M 8 0 = n := hT.2.1.1
  have hn2 : M 174 0 = n := hT.2.1.2.1
  have hc : M 8 3 = M 174 3 := hT.2.2.2.2.1.1
  have hc2 : 0 ≤ M 174 3 ∧ M 174 3 ≤ 9 := hT.2.2.2.2.1.2
  have hW : Word M := hrest.2.2.1
  by_cases hp : 0 ≤ p ∧ p ≤ (n : Int) - 1
  · obtain ⟨i, rfl, hi⟩ := int_nat hp
    obtain ⟨t0, t1, t2, t3, t4, t5, t6, t7, t8, t9, t10⟩ := Tn_TT hT
    obtain ⟨P, hP⟩ : ∃ z, z = pn (gtl (M 172 12) (M 181)) (mL M 0 i) 6 * M 174 3 := ⟨_, rfl⟩
    have Pb : 0 ≤ P ∧ P ≤ 54 := by rw [hP]; exact pn_mul hc2
    have cP : pn (gtl (M 4 11) (M 171)) (tl M 8 i) 6 * M 8 3 = P := by rw [pn_congr 6 (fun k _ => ⟨(Word_gok hW).2 k, Tn_tl hT hi k⟩), hc, hP]; rfl
    have ci := t3 i hi
    have ri := t6 i (by omega)
    have bi : M 180 (56 + i) ≤ 800 := Int.le_trans (sumB_ge (W := fun i => M 180 (56 + i)) (m := n) (fun j hj => (t3 j hj).2) hi).1 t4
    have e56 : ((56 : Int) + i).toNat = 56 + i := by omega
    have e72 : ((72 : Int) + i).toNat = 72 + i := by omega
    have m14i : M 14 i = M 180 (72 + i) := ri.1 hi
    by_cases hg : M 180 (72 + i) ≠ 1 ∧ P ≤ M 180 (56 + i)
    · obtain ⟨l, l1, l2, l3, l4⟩ := id hW
      show Ca 105 _ S M _
      apply r_X8_rename_0 hS
      refine sp_isPerson hS hn ⟨_, _, rfl, ?_⟩
      rw [if_pos hp]
      refine ⟨fun _ => sp_priceOfWord hS (by omega) (by rw [hc]; exact hc2) ⟨_, _, rfl, ?_⟩, fun z => absurd z (by decide)⟩
      rw [cP, Int.toNat_natCast, m14i, ci.1]
      refine ⟨by omega, fun z => absurd z hg.1, fun _ => ⟨by omega, fun _ => ?_, fun z => by omega⟩⟩
      refine sp_push hS hu.1 hu.2.1 (fun M1 pu f1 => ⟨_, rfl, ?_⟩)
      have l1' : M1 4 11 = (l : Int) := by rw [f1 4 (by decide)]; exact l2
      rw [l1']
      refine r_X7_giveName_0 (t := 8) (w := 171) hS (by decide) (sh_171 hS) (by decide) ⟨by omega, ?_⟩
      rw [Int.toNat_natCast]
      refine give_loop (M := up2 M1 (8 + 1) i (l : Int)) hS (by omega) l1 (fun M2 g1 g2 => ⟨_, rfl, by omega, by omega, ?_⟩) l 0 _ (by omega) (fun _ _ => rfl) (fun z => by rw [if_neg (by omega)])
      have y12 : up2 M2 14 i 1 12 i = M 180 (56 + i) := by rw [up2_row _ _ _ _ (by decide), g1 12 (by decide), up2_row _ _ _ _ (by decide), f1 12 (by decide), ci.1]
      rw [y12, up2_get]
      obtain ⟨M3, hM3⟩ : ∃ z, z = up2 (up2 M2 14 i 1) 12 i (M 180 (56 + i) - P) := ⟨_, rfl⟩
      rw [← hM3]
      have R : ∀ q, q ≠ 9 → q ≠ 10 → q ≠ 12 → q ≠ 14 → M3 q = M1 q := fun q q1 q2 q3 q4 => by rw [hM3, up2_row _ _ _ _ q3, up2_row _ _ _ _ q4, g1 q q2, up2_row _ _ _ _ q1]
      have RR : ∀ q, q ≠ 9 → q ≠ 10 → q ≠ 12 → q ≠ 14 → ¬ (30 ≤ q ∧ q ≤ 119) → M3 q = M q := fun q q1 q2 q3 q4 q5 => by rw [R q q1 q2 q3 q4, f1 q q5]
      have b180 : M3 180 = M 180 := RR 180 (by decide) (by decide) (by decide) (by decide) (by decide)
      have b172 : M3 172 = M 172 := RR 172 (by decide) (by decide) (by decide) (by decide) (by decide)
      have b174 : M3 174 = M 174 := RR 174 (by decide) (by decide) (by decide) (by decide) (by decide)
      have b181 : M3 181 = M 181 := RR 181 (by decide) (by decide) (by decide) (by decide) (by decide)
      have r9 : ∀ z, M3 9 z = if z = i then (l : Int) else M 9 z := fun z => by
        rw [hM3, up2_row _ _ _ _ (by decide), up2_row _ _ _ _ (by decide), g1 9 (by decide)]
        show up2 M1 9 i l 9 z = _
        rw [up2_any, f1 9 (by decide)]; simp
      have r10 : ∀ z, M3 10 z = if 6 * i ≤ z ∧ z < 6 * i + l then M 171 (z - 6 * i) else M 10 z := fun z => by
        rw [hM3, up2_row _ _ _ _ (by decide), up2_row _ _ _ _ (by decide), g2 z]
        show (if _ then up2 M1 9 i l 171 (z - 6 * i) else up2 M1 9 i l 10 z) = _
        rw [up2_row _ _ _ _ (by decide), up2_row _ _ _ _ (by decide), f1 171 (by decide), f1 10 (by decide)]
      have r12 : ∀ z, M3 12 z = if z = i then M 180 (56 + i) - P else M 12 z := fun z => by
        rw [hM3, up2_any, up2_row _ _ _ _ (by decide), g1 12 (by decide), up2_row _ _ _ _ (by decide), f1 12 (by decide)]; simp
      have r14 : ∀ z, M3 14 z = if z = i then 1 else M 14 z := fun z => by
        rw [hM3, up2_row _ _ _ _ (by decide), up2_any, g1 14 (by decide), up2_row _ _ _ _ (by decide), f1 14 (by decide)]; simp
      refine ⟨by unfold inR; omega, by omega, by omega, _, _, rfl, ?_⟩
      apply r_X9_rename_0 hM
      refine sq_isPerson hM (by rw [b174]; exact hn2) hn8 ⟨_, _, rfl, ?_⟩
      rw [if_pos hp]
      refine ⟨fun _ => sq_priceOf hM (by omega) (by rw [b174]; exact hc2) (by rw [b180]; exact Tn_gok hT hi) (by rw [b172, b181]; exact (Word_gok hW).1) ⟨_, _, rfl, ?_⟩, fun z => absurd z (by decide)⟩
      have eP : pn (gtl (M3 172 12) (M3 181)) (mL M3 0 i) 6 * M3 174 3 = P := by
        have : mL M3 0 i = mL M 0 i := by unfold mL; rw [b180]
        rw [b172, b181, b174, this, hP]
      rw [eP, e72, e56, b180]
      refine ⟨by unfold inR; omega, by omega, fun z => absurd z hg.1, fun _ => ⟨by unfold inR; omega, by omega, fun _ => ?_, fun z => by omega⟩⟩
      refine sq_known hM (by rw [b172]; exact hu.2.2) (fun M4 kn f3 => ⟨_, rfl, ?_⟩)
      have s4 : ∀ j, j < 510 → M4 180 j = M 180 j := fun j hj => by rw [f3.2.2 j hj, b180]
      have x1 : up2 M4 180 (72 + i) 1 180 (56 + i) = M 180 (56 + i) := by rw [up2_any, if_neg (by omega), s4 _ (by omega)]
      rw [x1, Int.toNat_natCast]
      have x2 : up2 (up2 M4 180 (72 + i) 1) 180 (56 + i) (M 180 (56 + i) - P) 172 12 = (l : Int) := by rw [up2_row _ _ _ _ (by decide), up2_row _ _ _ _ (by decide), f3.2.1 12 (by decide), b172]; exact l3
      rw [x2]
      obtain ⟨M5, hM5⟩ : ∃ z, z = up2 (up2 (up2 M4 180 (72 + i) 1) 180 (56 + i) (M 180 (56 + i) - P)) 180 i (l : Int) := ⟨_, rfl⟩
      rw [← hM5]
      have r5 : ∀ q, q ≠ 180 → M5 q = M4 q := fun q hq => by rw [hM5, up2_row _ _ _ _ hq, up2_row _ _ _ _ hq, up2_row _ _ _ _ hq]
      have s5 : ∀ j, j < 510 → M5 180 j = if j = i then (l : Int) else if j = 56 + i then M 180 (56 + i) - P else if j = 72 + i then 1 else M 180 j := fun j hj => by
        rw [hM5, up2_any, up2_any, up2_any, s4 j hj]; simp
      have m181 : M5 181 = M 181 := by rw [r5 181 (by decide), f3.1 181 (by decide) (by decide), b181]
      have m172 : M5 172 12 = (l : Int) := by rw [r5 172 (by decide), f3.2.1 12 (by decide), b172]; exact l3
      have v56 : M5 180 (56 + i) = M 180 (56 + i) - P := by rw [s5 _ (by omega), if_neg (by omega), if_pos rfl]
      refine ⟨by unfold inR; omega, by omega, by unfold inR; omega, by omega, by unfold inR; omega, by omega, by omega, ?_⟩
      refine renM_loop (M := M5) hM (by omega) l1 m172 (fun M6 k1 k2 => ⟨M6, by rw [v56], ?_⟩) l 0 M5 (by omega) (fun _ _ => rfl) (fun z => by rw [if_neg (by omega)])
      have s6 : ∀ j, j < 510 → M6 180 j = if 8 + 6 * i ≤ j ∧ j < 8 + 6 * i + l then M 181 (j - (8 + 6 * i)) else if j = i then (l : Int) else if j = 56 + i then M 180 (56 + i) - P else if j = 72 + i then 1 else M 180 j := fun j hj => by rw [k2 j, m181, s5 j hj]
      have q6 : ∀ q, q ≠ 180 → M6 q = M4 q := fun q hq => by rw [k1 q hq, r5 q hq]
      have C : ∀ q, q ≠ 172 → q ≠ 180 → M6 q = M3 q := fun q h1 h2 => by rw [q6 q h2, f3.1 q h1 h2]
      have E : ∀ q, q ≠ 9 → q ≠ 10 → q ≠ 12 → q ≠ 14 → ¬ (30 ≤ q ∧ q ≤ 119) → q ≠ 172 → q ≠ 180 → M6 q = M q := fun q a1 a2 a3 a4 a5 a6 a7 => by rw [C q a6 a7, RR q a1 a2 a3 a4 a5]
      have sF : ∀ j, j < 510 → (j < 8 → j ≠ i) → ¬ (8 + 6 * i ≤ j ∧ j < 8 + 6 * i + l) → j ≠ 56 + i → j ≠ 72 + i → M6 180 j = M 180 j := fun j hj h1 h2 h3 h4 => by
        rw [s6 j hj, if_neg h2, if_neg (by omega), if_neg h3, if_neg h4]
      have sz : ∀ z, z < 8 → M6 180 z = if z = i then (l : Int) else M 180 z := fun z hz => by
        rw [s6 z (by omega), if_neg (by omega : ¬ (8 + 6 * i ≤ z ∧ z < 8 + 6 * i + l))]
        by_cases h1 : z = i
        · rw [if_pos h1, if_pos h1]
        · rw [if_neg h1, if_neg h1, if_neg (by omega : ¬ z = 56 + i), if_neg (by omega : ¬ z = 72 + i)]
      have sc : ∀ z, z < 8 → M6 180 (56 + z) = if z = i then M 180 (56 + i) - P else M 180 (56 + z) := fun z hz => by
        by_cases h1 : z = i
        · rw [if_pos h1, s6 _ (by omega), if_neg (by omega : ¬ (8 + 6 * i ≤ 56 + z ∧ 56 + z < 8 + 6 * i + l)), if_neg (by omega : ¬ 56 + z = i), if_pos (by omega : 56 + z = 56 + i)]
        · rw [if_neg h1, sF _ (by omega) (by omega) (by omega) (by omega) (by omega)]
      refine Rel_mut ⟨hT, hU, hrest⟩ pu f1 (fun q hq => R q (by omega) (by omega) (by omega) (by omega)) kn f3 q6 (fun j hj => ?_) ⟨(TT_iff M6 n).mpr ⟨t0, fun z hz => ?_, fun z k hz hk => ?_, fun z hz => ?_, ?_, fun z hz => ?_, fun z hz => ?_, fun z j hz hj => ?_, fun z hz => ?_, ?_, fun r hr' => ?_⟩, TC_mem (E 8 (by decide) (by decide) (by decide) (by decide) (by decide) (by decide) (by decide)) (E 11 (by decide) (by decide) (by decide) (by decide) (by decide) (by decide) (by decide)) (E 18 (by decide) (by decide) (by decide) (by decide) (by decide) (by decide) (by decide)) (E 174 (by decide) (by decide) (by decide) (by decide) (by decide) (by decide) (by decide)) (E 175 (by decide) (by decide) (by decide) (by decide) (by decide) (by decide) (by decide)) (E 179 (by decide) (by decide) (by decide) (by decide) (by decide) (by decide) (by decide)) hT⟩
      · rw [k2 j, if_neg (by omega), hM5, up2_any, if_neg (by omega), up2_any, if_neg (by omega), up2_any, if_neg (by omega)]
      · have := t1 z hz
        rw [C 9 (by decide) (by decide), r9 z, sz z (by omega)]
        by_cases h1 : z = i
        · rw [if_pos h1, if_pos h1]; omega
        · rw [if_neg h1, if_neg h1]; exact this
      · have tz := t1 z hz
        rw [sz z (by omega)] at hk
        rw [C 10 (by decide) (by decide), r10]
        by_cases h1 : z = i
        · rw [if_pos h1] at hk
          subst h1
          have := l4 k (by omega)
          rw [if_pos (by omega : 6 * z ≤ 6 * z + k ∧ 6 * z + k < 6 * z + l), s6 _ (by omega), if_pos (by omega : 8 + 6 * z ≤ 8 + 6 * z + k ∧ 8 + 6 * z + k < 8 + 6 * z + l), Nat.add_sub_cancel_left, Nat.add_sub_cancel_left]
          exact this
        · rw [if_neg h1] at hk
          rw [if_neg (by omega : ¬ (6 * i ≤ 6 * z + k ∧ 6 * z + k < 6 * i + l)), sF _ (by omega) (by omega) (by omega) (by omega) (by omega)]
          exact t2 z k hz hk
      · have := t3 z hz
        rw [C 12 (by decide) (by decide), r12 z, sc z (by omega)]
        by_cases h1 : z = i
        · rw [if_pos h1, if_pos h1]; omega
        · rw [if_neg h1, if_neg h1]; exact this
      · have : sumB (fun _ => true) (fun z => M6 180 (56 + z)) n = sumB (fun _ => true) (fun z => if z = i then M 180 (56 + i) - P else M 180 (56 + z)) n := sumB_eq n (fun k hk => sc k (by omega))
        rw [this]
        exact Int.le_trans (sumB_less (W := fun z => M 180 (56 + z)) (a := i) (c := P) Pb.1 (by rw [if_pos rfl]) (fun k hk => by rw [if_neg hk]) n) t4
      · rw [E 13 (by decide) (by decide) (by decide) (by decide) (by decide) (by decide) (by decide), sF _ (by omega) (by omega) (by omega) (by omega) (by omega)]; exact t5 z hz
      · have tz := t6 z hz
        rw [C 14 (by decide) (by decide), r14 z]
        by_cases h1 : z = i
        · rw [if_pos h1, s6 _ (by omega), if_neg (by omega : ¬ (8 + 6 * i ≤ 72 + z ∧ 72 + z < 8 + 6 * i + l)), if_neg (by omega : ¬ 72 + z = i), if_neg (by omega : ¬ 72 + z = 56 + i), if_pos (by omega : 72 + z = 72 + i)]
          exact ⟨fun _ => rfl, Or.inr rfl, fun _ => by omega⟩
        · rw [if_neg h1, sF _ (by omega) (by omega) (by omega) (by omega) (by omega)]; exact tz
      · rw [E 15 (by decide) (by decide) (by decide) (by decide) (by decide) (by decide) (by decide), sF _ (by omega) (by omega) (by omega) (by omega) (by omega)]; exact t7 z j hz hj
      · rw [E 16 (by decide) (by decide) (by decide) (by decide) (by decide) (by decide) (by decide), sF _ (by omega) (by omega) (by omega) (by omega) (by omega)]; exact t8 z hz
      · refine ⟨fun z hz => ?_, fun z w hz hw e => ?_⟩
        · show 0 ≤ M6 180 (144 + z) ∧ M6 180 (144 + z) < 26
          rw [sF _ (by omega) (by omega) (by omega) (by omega) (by omega)]; exact t9.1 z hz
        · have e' : M6 180 (144 + z) = M6 180 (144 + w) := e
          rw [sF _ (by omega) (by omega) (by omega) (by omega) (by omega), sF _ (by omega) (by omega) (by omega) (by omega) (by omega)] at e'
          exact t9.2 z w hz hw e'
      · rw [E 17 (by decide) (by decide) (by decide) (by decide) (by decide) (by decide) (by decide), E 16 (by decide) (by decide) (by decide) (by decide) (by decide) (by decide) (by decide)]; exact t10 r hr'
    · refine Sim.query hR (-2) (fun Q h => ?_) (fun M1 s1 hR1 Q h => ?_)
      · have h0 := h M (Same.refl M)
        apply r_X8_rename_0 hS
        refine sp_isPerson hS hn ⟨_, _, rfl, ?_⟩
        rw [if_pos hp]
        refine ⟨fun _ => sp_priceOfWord hS (by omega) (by rw [hc]; exact hc2) ⟨_, _, rfl, ?_⟩, fun z => absurd z (by decide)⟩
        rw [cP, Int.toNat_natCast, m14i, ci.1]
        exact ⟨by omega, fun _ => h0, fun z => ⟨by omega, fun w => absurd ⟨z, w⟩ hg, fun _ => h0⟩⟩
      · have h0 := h M1 (Same.refl M1)
        obtain ⟨n', hT1, -, -, -, hW1, -⟩ := hR1
        have en := Tn_n hT hT1 (s1 174 0 (by unfold scr; omega))
        subst en
        apply r_X9_rename_0 hM
        refine sq_isPerson hM hT1.2.1.2.1 hn8 ⟨_, _, rfl, ?_⟩
        rw [if_pos hp]
        refine ⟨fun _ => sq_priceOf hM (by omega) hT1.2.2.2.2.1.2 (Tn_gok hT1 hi) (Word_gok hW1).1 ⟨_, _, rfl, ?_⟩, fun z => absurd z (by decide)⟩
        have e3 : M1 174 3 = M 174 3 := s1 174 3 (by unfold scr; omega)
        have e12 : M1 172 12 = M 172 12 := s1 172 12 (by unfold scr; omega)
        have e181 : ∀ k, M1 181 k = M 181 k := fun k => s1 181 k (by unfold scr; omega)
        have eL : ∀ k, mL M1 0 i k = mL M 0 i k := fun k => gtl_congr (s1 180 _ (by unfold scr; omega)) (fun k _ _ => s1 180 _ (by unfold scr; omega)) k
        rw [pn_congr 6 (fun k _ => ⟨gtl_congr e12 (fun k _ _ => e181 k) k, eL k⟩), e3, ← hP, e72, e56, s1 180 (72 + i) (by unfold scr; omega), s1 180 (56 + i) (by unfold scr; omega)]
        exact ⟨by unfold inR; omega, by omega, fun _ => h0, fun z => ⟨by unfold inR; omega, by omega, fun w => absurd ⟨z, w⟩ hg, fun _ => h0⟩⟩
  · refine Sim.query hR (-1) (fun Q h => ?_) (fun M1 s1 hR1 Q h => ?_)
    · apply r_X8_rename_0 hS
      refine sp_isPerson hS hn ⟨_, _, rfl, ?_⟩
      rw [if_neg hp]
      exact ⟨fun z => absurd rfl z, fun _ => h M (Same.refl M)⟩
    · apply r_X9_rename_0 hM
      refine sq_isPerson hM ((s1 174 0 (by unfold scr; omega)).trans hn2) hn8 ⟨_, _, rfl, ?_⟩
      rw [if_neg hp]
      exact ⟨fun z => absurd rfl z, fun _ => h M1 (Same.refl M1)⟩
end Ren2
