/-! swap, newYear -/
theorem TC_rows {T T' : Nat → Nat → Int} {c w p : Nat → Int} {n : Nat} (h0 : T' 0 = T 0) (h3 : T' 3 = T 3) (h10 : T' 10 = T 10) (h : TC T c w p n) : TC T' c w p n := by
  unfold TC at h ⊢
  rw [h0, h3, h10]
  exact h
/-- the part of a town that no call but lay changes -/
theorem TC_mem {M M' : Mem} {n : Nat} (e8 : M' 8 = M 8) (e11 : M' 11 = M 11) (e18 : M' 18 = M 18) (c4 : M' 174 = M 174) (c5 : M' 175 = M 175) (c9 : M' 179 = M 179) (h : Tn M 8 0 n) : TC (fun j k => M' (8 + j) k) (M' 174) (M' 175) (M' 179) n := by
  rw [c4, c5, c9]
  exact TC_rows (T := fun j k => M (8 + j) k) e8 e11 e18 h.2
def swp (r : Nat → Int) (x y z : Nat) : Int := if z = y then r x else if z = x then r y else r z
theorem swp_gal {r : Nat → Int} (h : gal r) {x y : Nat} (hx : x < 26) (hy : y < 26) : gal (swp r x y) := by
  obtain ⟨a, b⟩ := h
  have c1 := a x hx
  have c2 := a y hy
  refine ⟨fun z hz => ?_, fun z w hz hw e => ?_⟩
  · have := a z hz
    unfold swp
    split
    · exact c1
    · split
      · exact c2
      · exact this
  · have d1 := b z x hz hx
    have d2 := b z y hz hy
    have d3 := b w x hw hx
    have d4 := b w y hw hy
    have d5 := b z w hz hw
    have d6 := b x y hx hy
    unfold swp at e
    split at e <;> split at e <;> (try split at e) <;> (try split at e) <;> grind
section Swap
variable {S : Shp} {M : Mem} {Q : Res → Prop}
theorem sq_swaps (hM : KM S) {s x y : Nat} (hs : s < 12) (hx : x < 26) (hy : y < 26) (h : ∀ M', (∀ q, q ≠ 180 → M' q = M q) → (∀ z, z < 26 → M' 180 (170 * s + 144 + z) = swp (fun z => M 180 (170 * s + 144 + z)) x y z) → (∀ k, (k < 170 * s + 144 ∨ 170 * s + 170 ≤ k) → M' 180 k = M 180 k) → Q (S, M', none)) : Ca 185 [.inr (.inr 173), .inl (s : Int), .inl (x : Int), .inl (y : Int)] S M Q := by
  apply r_X9_swaps_0 hM
  have e1 : ((((170 : Int) * s) + 144) + x).toNat = 170 * s + 144 + x := by omega
  have e2 : ((((170 : Int) * s) + 144) + y).toNat = 170 * s + 144 + y := by omega
  rw [e1, e2]
  simp only [inR]
  refine ⟨by omega, by omega, by omega, by omega, by omega, by omega, by omega, by omega, by omega, by omega, by omega, by omega, by omega, by omega, by omega, by omega, h _ (fun q hq => ?_) (fun z hz => ?_) (fun k hk => ?_)⟩
  · rw [up2_row _ _ _ _ hq, up2_row _ _ _ _ hq]
  · rw [up2_any, up2_any]
    unfold swp
    by_cases h1 : z = y
    · rw [if_pos ⟨rfl, by omega⟩, if_pos h1]
    · rw [if_neg (by omega), if_neg h1]
      by_cases h2 : z = x
      · rw [if_pos ⟨rfl, by omega⟩, if_pos h2]
      · rw [if_neg (by omega), if_neg h2]
  · rw [up2_any, if_neg (by omega), up2_any, if_neg (by omega)]
theorem sim_swap (hS : KC S) (hM : KM S) (hR : Rel M) (p q : Int) : Sim S M 110 186 [.inl p, .inl q] := by
  obtain ⟨n, hT, hU, hrest⟩ := id hR
  have bad : ¬ ((0 ≤ p ∧ p ≤ 25) ∧ (0 ≤ q ∧ q ≤ 25) ∧ p ≠ q) → Sim S M 110 186 [.inl p, .inl q] := fun hb => by
    refine Sim.query hR (-1) (fun Q h => ?_) (fun M1 s1 hR1 Q h => ?_)
    · have h0 := h M (Same.refl M)
      apply r_X8_swap_0 hS
      refine sp_isLetter hS ⟨_, _, rfl, fun _ => h0, fun z => sp_isLetter hS ⟨_, _, rfl, fun _ => h0, fun z2 => ⟨fun z3 => absurd ?_ hb, fun _ => h0⟩⟩⟩
      split at z
      · split at z2
        · rename_i a b; exact ⟨a, b, z3⟩
        · exact absurd rfl z2
      · exact absurd rfl z
    · have h0 := h M1 (Same.refl M1)
      apply r_X9_swap_0 hM
      refine sq_isLetter hM ⟨_, _, rfl, fun _ => h0, fun z => sq_isLetter hM ⟨_, _, rfl, fun _ => h0, fun z2 => ⟨fun z3 => absurd ?_ hb, fun _ => h0⟩⟩⟩
      split at z
      · split at z2
        · rename_i a b; exact ⟨a, b, z3⟩
        · exact absurd rfl z2
      · exact absurd rfl z
  by_cases hg : (0 ≤ p ∧ p ≤ 25) ∧ (0 ≤ q ∧ q ≤ 25) ∧ p ≠ q
  · obtain ⟨hp, hq, hne⟩ := hg
    obtain ⟨x, rfl, hx⟩ := let_nat hp
    obtain ⟨y, rfl, hy⟩ := let_nat hq
    have hxy : x ≠ y := fun e => hne (by rw [e])
    have rk : ∀ z, z < 26 → M 16 z = M 180 (144 + z) := fun z hz => by simpa using Tn_rk hT hz
    have hgal : gal (fun z => M 180 (144 + z)) := by simpa using Tn_gal hT
    have hr : ∀ z, z < 26 → 0 ≤ M 16 z ∧ M 16 z < 26 := fun z hz => by rw [rk z hz]; exact hgal.1 z hz
    have hord : ∀ r, r < 26 → 0 ≤ M 17 r ∧ M 17 r < 26 ∧ M 16 (M 17 r).toNat = r := hT.1.2.2.2.2.2.2.2.2.2.2
    have inj : ∀ a b, a < 26 → b < 26 → M 16 a = M 16 b → a = b := fun a b ha hb e => hgal.2 a b ha hb (by show M 180 (144 + a) = M 180 (144 + b); rw [← rk a ha, ← rk b hb, e])
    have hu := Rel_UO hU
    show Ca 110 _ S M _
    apply r_X8_swap_0 hS
    refine sp_isLetter hS ⟨_, _, rfl, ?_⟩
    rw [if_pos hp]
    refine ⟨fun z => absurd z (by decide), fun _ => sp_isLetter hS ⟨_, _, rfl, ?_⟩⟩
    rw [if_pos hq]
    refine ⟨fun z => absurd z (by decide), fun _ => ⟨fun _ => ?_, fun z => absurd z hne⟩⟩
    refine sp_push hS hu.1 hu.2.1 (fun M1 pu f1 => ⟨_, rfl, ?_⟩)
    have m16 : M1 16 = M 16 := f1 16 (by decide)
    have m17 : M1 17 = M 17 := f1 17 (by decide)
    refine sp_exchange (t := 8) hS (by decide) hx hy (by rw [m16]; exact hr) ⟨_, rfl, by omega, _, _, rfl, ?_⟩
    obtain ⟨M2, hM2⟩ : ∃ z, z = up2 (up2 (up2 (up2 M1 (8 + 8) x (M1 (8 + 8) y)) (8 + 9) (M1 (8 + 8) y).toNat (x : Int)) (8 + 8) y (M1 (8 + 8) x)) (8 + 9) (M1 (8 + 8) x).toNat (y : Int) := ⟨_, rfl⟩
    rw [← hM2]
    have f2 : ∀ q, q ≠ 16 → q ≠ 17 → M2 q = M1 q := fun q q1 q2 => by rw [hM2, up2_row _ _ _ _ (by omega), up2_row _ _ _ _ (by omega), up2_row _ _ _ _ (by omega), up2_row _ _ _ _ (by omega)]
    have a16 : ∀ z, M2 16 z = swp (M 16) x y z := fun z => by
      rw [hM2, up2_row _ _ _ _ (by decide), up2_any, up2_row _ _ _ _ (by decide), up2_any]
      show (if 16 = 8 + 8 ∧ z = y then M1 16 x else if 16 = 8 + 8 ∧ z = x then M1 16 y else M1 16 z) = _
      rw [m16]
      unfold swp
      simp
    have a17 : ∀ k, M2 17 k = if k = (M 16 x).toNat then (y : Int) else if k = (M 16 y).toNat then (x : Int) else M 17 k := fun k => by
      rw [hM2, up2_any, up2_row _ _ _ _ (by decide), up2_any, up2_row _ _ _ _ (by decide)]
      show (if 17 = 8 + 9 ∧ k = (M1 16 x).toNat then (y : Int) else if 17 = 8 + 9 ∧ k = (M1 16 y).toNat then (x : Int) else M1 17 k) = _
      rw [m16, m17]
      simp
    have b172 : M2 172 = M 172 := by rw [f2 172 (by decide) (by decide), f1 172 (by decide)]
    have b180 : M2 180 = M 180 := by rw [f2 180 (by decide) (by decide), f1 180 (by decide)]
    apply r_X9_swap_0 hM
    refine sq_isLetter hM ⟨_, _, rfl, ?_⟩
    rw [if_pos hp]
    refine ⟨fun z => absurd z (by decide), fun _ => sq_isLetter hM ⟨_, _, rfl, ?_⟩⟩
    rw [if_pos hq]
    refine ⟨fun z => absurd z (by decide), fun _ => ⟨fun _ => ?_, fun z => absurd z hne⟩⟩
    refine sq_known hM (by rw [b172]; exact hu.2.2) (fun M3 kn f3 => ⟨_, rfl, ?_⟩)
    refine sq_swaps (s := 0) hM (by decide) hx hy (fun M4 g1 g2 g3 => ⟨_, rfl, by unfold inR; omega, by omega, M4, ?_, ?_⟩)
    · have e144 : ((144 : Int) + x).toNat = 144 + x := by omega
      rw [e144, Int.toNat_natCast, a16 x]
      have := g2 x hx
      rw [Nat.mul_zero, Nat.zero_add] at this
      rw [this]
      have e : swp (fun z => M3 180 (144 + z)) x y x = M 16 y := by
        unfold swp
        rw [if_neg hxy, if_pos rfl]
        show M3 180 (144 + y) = _
        rw [f3.2.2 (144 + y) (by omega), b180, rk y hy]
      rw [e]
      unfold swp
      rw [if_neg hxy, if_pos rfl]
    · have E : ∀ q, q ≠ 16 → q ≠ 17 → ¬ (30 ≤ q ∧ q ≤ 119) → q ≠ 172 → q ≠ 180 → M4 q = M q := fun q q1 q2 q3 q4 q5 => by rw [g1 q q5, f3.1 q q4 q5, f2 q q1 q2, f1 q q3]
      have s1 : ∀ k, k < 144 → M4 180 k = M 180 k := fun k hk => by rw [g3 k (by omega), f3.2.2 k (by omega), b180]
      have s2 : ∀ z, z < 26 → M4 180 (144 + z) = swp (M 16) x y z := fun z hz => by
        have := g2 z hz
        rw [Nat.mul_zero, Nat.zero_add] at this
        rw [this]
        unfold swp
        show (if z = y then M3 180 (144 + x) else if z = x then M3 180 (144 + y) else M3 180 (144 + z)) = _
        rw [f3.2.2 (144 + y) (by omega), f3.2.2 (144 + x) (by omega), f3.2.2 (144 + z) (by omega), b180, ← rk x hx, ← rk y hy, ← rk z hz]
      have r16 : M4 16 = M2 16 := by rw [g1 16 (by decide), f3.1 16 (by decide) (by decide)]
      have r17 : M4 17 = M2 17 := by rw [g1 17 (by decide), f3.1 17 (by decide) (by decide)]
      have gal' : gal (M 16) := ⟨hr, inj⟩
      obtain ⟨t0, t1, t2, t3, t4, t5, t6, t7, -, -, -⟩ := id hT.1
      refine Rel_mut ⟨hT, hU, hrest⟩ pu f1 (fun q hq => f2 q (by omega) (by omega)) kn f3 g1 (fun k hk => g3 k (by omega)) ⟨⟨t0, fun i hi => ?_, fun i k hi hk => ?_, fun i hi => ?_, ?_, fun i hi => ?_, fun i hi => ?_, fun i j hi hj => ?_, fun z hz => ?_, ?_, fun r hr' => ?_⟩, TC_mem (E 8 (by decide) (by decide) (by decide) (by decide) (by decide)) (E 11 (by decide) (by decide) (by decide) (by decide) (by decide)) (E 18 (by decide) (by decide) (by decide) (by decide) (by decide)) (E 174 (by decide) (by decide) (by decide) (by decide) (by decide)) (E 175 (by decide) (by decide) (by decide) (by decide) (by decide)) (E 179 (by decide) (by decide) (by decide) (by decide) (by decide)) hT⟩
      · show M4 9 i = M4 180 (170 * 0 + i) ∧ 0 ≤ M4 180 (170 * 0 + i) ∧ M4 180 (170 * 0 + i) ≤ 6
        rw [E 9 (by decide) (by decide) (by decide) (by decide) (by decide), s1 _ (by omega)]
        exact t1 i hi
      · have b := (t1 i hi).2
        have hk' : (k : Int) < M 180 (170 * 0 + i) := by
          have : (k : Int) < M4 180 (170 * 0 + i) := hk
          rw [s1 _ (by omega)] at this; exact this
        have b' : M 180 (170 * 0 + i) ≤ 6 := b.2
        show M4 10 (6 * i + k) = M4 180 (170 * 0 + (8 + 6 * i + k)) ∧ 0 ≤ M4 180 (170 * 0 + (8 + 6 * i + k)) ∧ M4 180 (170 * 0 + (8 + 6 * i + k)) < 26
        rw [E 10 (by decide) (by decide) (by decide) (by decide) (by decide), s1 _ (by omega)]
        exact t2 i k hi hk'
      · show M4 12 i = M4 180 (170 * 0 + (56 + i)) ∧ 0 ≤ M4 180 (170 * 0 + (56 + i))
        rw [E 12 (by decide) (by decide) (by decide) (by decide) (by decide), s1 _ (by omega)]
        exact t3 i hi
      · rw [sumB_eq (V := fun i => M 180 (170 * 0 + (56 + i))) n (fun k hk => s1 _ (by omega))]; exact t4
      · show (M4 13 i = -4 ∧ M4 180 (170 * 0 + (64 + i)) = 0) ∨ (0 ≤ M4 13 i ∧ M4 13 i < n ∧ M4 180 (170 * 0 + (64 + i)) = M4 13 i + 1)
        rw [E 13 (by decide) (by decide) (by decide) (by decide) (by decide), s1 _ (by omega)]
        exact t5 i hi
      · show (i < n → M4 14 i = M4 180 (170 * 0 + (72 + i))) ∧ (M4 180 (170 * 0 + (72 + i)) = 0 ∨ M4 180 (170 * 0 + (72 + i)) = 1) ∧ (n ≤ i → M4 180 (170 * 0 + (72 + i)) = 0)
        rw [E 14 (by decide) (by decide) (by decide) (by decide) (by decide), s1 _ (by omega)]
        exact t6 i hi
      · show M4 15 (8 * i + j) = M4 180 (170 * 0 + (80 + 8 * j + i)) ∧ 0 ≤ M4 180 (170 * 0 + (80 + 8 * j + i)) ∧ M4 180 (170 * 0 + (80 + 8 * j + i)) ≤ 999
        rw [E 15 (by decide) (by decide) (by decide) (by decide) (by decide), s1 _ (by omega)]
        exact t7 i j hi hj
      · show M4 16 z = M4 180 (170 * 0 + (144 + z))
        rw [Nat.mul_zero, Nat.zero_add, s2 z hz, r16, a16 z]
      · have := swp_gal gal' hx hy
        refine ⟨fun z hz => ?_, fun z w hz hw e => ?_⟩
        · show 0 ≤ M4 180 (170 * 0 + (144 + z)) ∧ M4 180 (170 * 0 + (144 + z)) < 26
          rw [Nat.mul_zero, Nat.zero_add, s2 z hz]; exact this.1 z hz
        · have e' : M4 180 (170 * 0 + (144 + z)) = M4 180 (170 * 0 + (144 + w)) := e
          rw [Nat.mul_zero, Nat.zero_add, Nat.zero_add, s2 z hz, s2 w hw] at e'
          exact this.2 z w hz hw e'
      · show 0 ≤ M4 17 r ∧ M4 17 r < 26 ∧ M4 16 (M4 17 r).toNat = r
        rw [r17, r16, a17 r, a16]
        have b1 := hr x hx
        have b2 := hr y hy
        by_cases c1 : r = (M 16 x).toNat
        · rw [if_pos c1, Int.toNat_natCast]
          unfold swp
          rw [if_pos rfl]
          omega
        · rw [if_neg c1]
          by_cases c2 : r = (M 16 y).toNat
          · rw [if_pos c2, Int.toNat_natCast]
            unfold swp
            rw [if_neg hxy, if_pos rfl]
            omega
          · rw [if_neg c2]
            have o := hord r hr'
            unfold swp
            have n1 : (M 17 r).toNat ≠ y := fun e => by rw [e] at o; omega
            have n2 : (M 17 r).toNat ≠ x := fun e => by rw [e] at o; omega
            rw [if_neg n1, if_neg n2]
            exact o
  · exact bad hg
end Swap
