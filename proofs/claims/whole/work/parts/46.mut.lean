/-! a call that changes the town: the class pushes it and changes it, the reference does so too -/
theorem Rel_UO {M : Mem} {n : Nat} (h : Undo M n) : UO M ∧ (0 ≤ M 30 1 ∧ M 30 1 ≤ 8) ∧ (0 ≤ M 172 11 ∧ M 172 11 ≤ 8) := by
  obtain ⟨u, u1, u2, u3, u4, u5, -⟩ := h
  exact ⟨⟨u4, u5⟩, by omega, by omega⟩
theorem Undo_mut {M M' : Mem} {n : Nat} (hT : Tn M 8 0 n) (hU : Undo M n) (p : PU M M') (k : KN M M') (hc : ∀ k, k < 6 → M' 174 k = M 174 k) (hw : ∀ k, k < 8 → M' 175 k = M 175 k) (hp : ∀ k, k < 12 → M' 179 k = M 179 k) : Undo M' n := by
  obtain ⟨u, u1, u2, u3, u4, u5, u6⟩ := hU
  obtain ⟨a, a1, a2, a3, a4⟩ := p
  obtain ⟨b, b1, b2, b3, b4⟩ := k
  have ea : a = u := by omega
  have eb : b = u := by omega
  subst ea
  subst eb
  by_cases h8 : b < 8
  · obtain ⟨c1, c2, c3⟩ := a3 h8
    obtain ⟨d1, d2⟩ := b3 h8
    refine ⟨b + 1, by omega, by rw [c1]; omega, by rw [d1]; omega, fun k hk => by rw [c2 k hk]; exact u4 k hk, fun x y hx hy hxy => by rw [c2 x hx, c2 y hy] at hxy; exact u5 x y hx hy hxy, fun k t hk ht => ?_⟩
    rw [c2 k (by omega)] at ht
    have c := c3 k t (by omega) ht
    have d := d2 k (by omega)
    by_cases hkb : k = b
    · refine Tn_congr (t := 8) (s := 0) (fun j hj i hi => ?_) (fun i hi => ?_) hc hw hp hT
      · rw [c j hj i hi, if_pos hkb]
      · rw [d i hi, if_pos hkb, Nat.mul_zero, Nat.zero_add]
    · refine Tn_congr (t := t) (s := 3 + k) (fun j hj i hi => ?_) (fun i hi => ?_) hc hw hp (u6 k t (by omega) ht)
      · rw [c j hj i hi, if_neg hkb]
      · rw [d i hi, if_neg hkb]
  · have e8 : b = 8 := by omega
    obtain ⟨c1, c2, c3, c4⟩ := a4 e8
    obtain ⟨d1, d2⟩ := b4 e8
    have sh : ∀ k, k < 8 → M' 31 k = M 31 (if k = 7 then 0 else k + 1) := fun k hk => by
      by_cases h7 : k = 7
      · rw [if_pos h7, h7]; exact c3
      · rw [if_neg h7]; exact c2 k (by omega)
    have shl : ∀ k, k < 8 → (if k = 7 then 0 else k + 1) < 8 := fun k hk => by split <;> omega
    refine ⟨8, by omega, c1, d1, fun k hk => by rw [sh k hk]; exact u4 _ (shl k hk), fun x y hx hy hxy => ?_, fun k t hk ht => ?_⟩
    · rw [sh x hx, sh y hy] at hxy
      have := u5 _ _ (shl x hx) (shl y hy) hxy
      split at this <;> split at this <;> omega
    · have d := d2 k (by omega)
      by_cases h7 : k = 7
      · rw [h7, c3] at ht
        have c := c4 0 t (by omega) ht
        refine Tn_congr (t := 8) (s := 0) (fun j hj i hi => ?_) (fun i hi => ?_) hc hw hp hT
        · rw [c j hj i hi, if_pos rfl]
        · rw [d i hi, if_pos h7, Nat.mul_zero, Nat.zero_add]
      · rw [c2 k (by omega)] at ht
        have c := c4 (k + 1) t (by omega) ht
        refine Tn_congr (t := t) (s := 3 + (k + 1)) (fun j hj i hi => ?_) (fun i hi => ?_) hc hw hp (u6 (k + 1) t (by omega) ht)
        · rw [c j hj i hi, if_neg (by omega)]
        · rw [d i hi, if_neg h7]
/-- M1 after the push, M2 after the class's change, M3 after known, M4 after the reference's change -/
theorem Rel_mut {M M1 M2 M3 M4 : Mem} {n : Nat} (hR : Tn M 8 0 n ∧ Undo M n ∧ Kept M n ∧ Text M ∧ Word M ∧ Ledg M) (p : PU M M1) (f1 : ∀ q, ¬ (30 ≤ q ∧ q ≤ 119) → M1 q = M q) (f2 : ∀ q, ¬ (8 ≤ q ∧ q ≤ 18) → M2 q = M1 q) (k : KN M2 M3) (f3 : KNf M2 M3) (f4 : ∀ q, q ≠ 180 → M4 q = M3 q) (f5 : ∀ k, 170 ≤ k → M4 180 k = M3 180 k) (hT : Tn M4 8 0 n) : Rel M4 ∧ M4 0 = M 0 := by
  obtain ⟨h1, h2, h3, h4, h5, h6⟩ := hR
  obtain ⟨g1, g2, g3⟩ := f3
  have hu := Rel_UO h2
  have e : ∀ q, ¬ (8 ≤ q ∧ q ≤ 18) → ¬ (30 ≤ q ∧ q ≤ 119) → q ≠ 172 → q ≠ 180 → M4 q = M q := fun q q1 q2 q3 q4 => by rw [f4 q q4, g1 q q3 q4, f2 q q1, f1 q q2]
  have e172 : ∀ j, j ≠ 11 → M4 172 j = M 172 j := fun j hj => by rw [f4 172 (by decide), g2 j hj, f2 172 (by decide), f1 172 (by decide)]
  have e180 : M2 180 = M 180 := by rw [f2 180 (by decide), f1 180 (by decide)]
  have p4 : PU M M4 := PU_keep p hu.1 (fun q hq => by rw [f4 q (by omega), g1 q (by omega) (by omega), f2 q (by omega)])
  have k4 : KN M M4 := by
    obtain ⟨b, b1, b2, b3, b4⟩ := k
    refine ⟨b, by rw [← b1, f2 172 (by decide), f1 172 (by decide)], b2, fun w => ⟨by rw [f4 172 (by decide)]; exact (b3 w).1, fun j hj i hi => ?_⟩, fun w => ⟨by rw [f4 172 (by decide)]; exact (b4 w).1, fun j hj i hi => ?_⟩⟩
    · rw [f5 _ (by omega), (b3 w).2 j hj i hi, e180]
    · rw [f5 _ (by omega), (b4 w).2 j hj i hi, e180]
  have c4 : M4 174 = M 174 := e 174 (by decide) (by decide) (by decide) (by decide)
  have c5 : M4 175 = M 175 := e 175 (by decide) (by decide) (by decide) (by decide)
  have c9 : M4 179 = M 179 := e 179 (by decide) (by decide) (by decide) (by decide)
  refine ⟨⟨n, hT, Undo_mut h1 h2 p4 k4 (fun k _ => by rw [c4]) (fun k _ => by rw [c5]) (fun k _ => by rw [c9]), ?_, Text_keep (by rw [e 5 (by decide) (by decide) (by decide) (by decide)]) (e172 0 (by decide)) (e 6 (by decide) (by decide) (by decide) (by decide)) (e 173 (by decide) (by decide) (by decide) (by decide)) h4, Word_keep (by rw [e 4 (by decide) (by decide) (by decide) (by decide)]) (e172 12 (by decide)) (e 171 (by decide) (by decide) (by decide) (by decide)) (e 181 (by decide) (by decide) (by decide) (by decide)) h5, Ledg_keep (by rw [e 168 (by decide) (by decide) (by decide) (by decide)]) (e172 14 (by decide)) (e 169 (by decide) (by decide) (by decide) (by decide)) (e 170 (by decide) (by decide) (by decide) (by decide)) (e 182 (by decide) (by decide) (by decide) (by decide)) h6⟩, e 0 (by decide) (by decide) (by decide) (by decide)⟩
  obtain ⟨v, v1, v2, v3, v4, v5⟩ := h3
  refine ⟨v, v1, by rw [e 120 (by decide) (by decide) (by decide) (by decide)]; exact v2, by rw [e172 10 (by decide)]; exact v3, fun k hk => by rw [e 121 (by decide) (by decide) (by decide) (by decide)]; exact v4 k hk, fun k hk => ?_⟩
  refine Tn_congr (t := keptT k) (s := 1 + k) (fun j hj i _ => ?_) (fun i hi => ?_) (fun k _ => by rw [c4]) (fun k _ => by rw [c5]) (fun k _ => by rw [c9]) (v5 k hk)
  · rw [e (keptT k + j) (by unfold keptT; omega) (by unfold keptT; omega) (by unfold keptT; omega) (by unfold keptT; omega)]
  · rw [f5 _ (by omega), g3 _ (by omega), e180]
