/-! match, wide -/
theorem mB_row {M M1 : Mem} (k1 : ∀ q, 172 ≤ q → M1 q = M q) (r : Int) : mB M1 r = mB M r := by
  funext i k
  rw [Bool.eq_iff_iff, mB_iff, mB_iff]
  exact mMay_rows (k1 174 (by decide)) (k1 179 (by decide)) (k1 180 (by decide)) i k r
theorem mV_wide {M : Mem} {r r' : Int} (h : r ≤ r') {s : Nat} (hs : s < 256) : mV (mB M r) s ≤ mV (mB M r') s := mV_mono (fun _ _ q => mB_iff.mpr (mMay_wide h (mB_iff.mp q))) (s + 1) s (by omega) hs
section Match
variable {S : Shp} {M : Mem} {Q : Res → Prop}
theorem sim_match (hS : KC S) (hM : KM S) (hR : Rel M) (p : Int) : Sim S M 116 196 [.inl p] := by
  obtain ⟨n, hT, -⟩ := id hR
  have hn8 := hT.1.1
  have hn1 : 1 ≤ n := hT.2.1.2.2.1
  have hn : M 8 0 = n := hT.2.1.1
  have hr2 : M 8 2 = M 174 2 := hT.2.2.2.1.1
  have hW : 0 ≤ M 174 2 ∧ M 174 2 ≤ 25 := hT.2.2.2.1.2
  have l0 : Lm M M := fun _ _ _ => rfl
  have p0 : 0 < 2 ^ n := Nat.pow_pos (by decide)
  obtain ⟨a1, a2, a3, a4⟩ := p2m hn8
  have ref : ∀ {M1 : Mem}, Same M M1 → (∀ q, 172 ≤ q → M1 q = M q) → Rel M1 → ∀ {x1 : Int}, (-1 ≤ x1 ∧ x1 ≤ (n : Int) - 1) → ∀ Q : Res → Prop, (∀ M', Same M1 M' → (∀ q, q < n → M' 184 q = pA (mB M (M 174 2)) (mV (mB M (M 174 2))) n q n (2 ^ n - 1)) → (0 ≤ x1 → Q (S, M', some (.inl (M' 184 x1.toNat)))) ∧ (x1 < 0 → Q (S, M', some (.inl (mV (mB M (M 174 2)) (2 ^ n - 1)))))) → Ca 196 [.inr (.inr 173), .inl x1] S M1 Q := fun {M1} s1 k1 hR1 {x1} hx Q h => by
    have hT1 := Rel_n hT s1 hR1
    have e174 := k1 174 (by decide)
    have e2 : M1 174 2 = M 174 2 := by rw [e174]
    have e2' : M1 174 (2 : Int).toNat = M1 174 2 := rfl
    have e0 : M1 174 (0 : Int).toNat = n := hT1.2.1.2.1
    apply r_X9_match_0 hM
    rw [e0]
    refine ⟨by decide, by unfold inR; omega, sq_in hM ⟨_, _, rfl, ?_⟩⟩
    rw [if_pos hx, e2']
    refine ⟨fun _ => ⟨by decide, sq_weddings hM hT1 (M1 := M1) (fun _ _ _ => rfl) (by rw [e2]; exact hW) (fun M2 l2 t2 => ⟨_, _, rfl, ?_⟩)⟩, fun z => absurd z (by decide)⟩
    have e0' : M2 174 (0 : Int).toNat = n := by rw [l2 174 (by decide) (by decide)]; exact e0
    rw [e0', a3]
    rw [a3] at a2
    refine ⟨by decide, a1, a2, mt_32 hM (fun M3 l3 t3 h3 => ?_) 8 0 M2 rfl (fun _ _ _ => rfl) (fun _ => rfl) (fun j hj => by omega)⟩
    have l3' : Mr M1 M3 := fun q q1 q2 => (l3 q q1 q2).trans (l2 q q1 q2)
    refine mt_a hM hT1 (F := fun q => pA (mB M (M 174 2)) (mV (mB M (M 174 2))) n q n (2 ^ n - 1)) (fun M4 l4 h4 => ?_) n 0 (2 ^ n - 1) M3 (by omega) (fun j hj => by omega) (by omega) l3' (fun t ht => by rw [t3 t]; exact t2 t ht) (fun j hj => ?_) (fun q hq => ?_)
    · apply r_X9_match_44 hM
      have e04 : M4 174 (0 : Int).toNat = n := by rw [l4 174 (by decide) (by decide)]; exact e0
      have hh := h M4 (Mr_same l4) h4
      rw [e04]
      refine ⟨by decide, fun _ => ⟨fun z => ⟨by omega, ?_⟩, fun z => ?_⟩, fun z => by omega⟩
      · apply r_X9_match_150 hM
        exact hh.1 z
      · apply r_X9_match_150 hM
        rw [e2, mB_row k1]
        exact hh.2 z
    · rw [all_bit] at hj
      exact h3 j (by have := of_decide_eq_true hj; omega)
    · rw [all_bit, if_pos (decide_eq_true hq), e2, mB_row k1]
  by_cases h1 : p = -1
  · subst h1
    refine Sim.query2 hR (mV (mB M (M 174 2)) (2 ^ n - 1)) (fun Q h => ?_) (fun M1 s1 k1 hR1 Q h => ?_)
    · apply r_X8_match_0 hS
      rw [hr2]
      refine ⟨fun _ => sp_most hS hT l0 (fun M1 l1 w1 t1 => ⟨_, _, rfl, fun z => absurd rfl z, fun _ => h M1 (Lm_same l1).1 (Lm_same l1).2⟩), fun z => absurd rfl z⟩
    · exact ref s1 k1 hR1 (by omega) Q (fun M' s' _ => ⟨fun z => by omega, fun _ => h M' s'⟩)
  · by_cases hp : 0 ≤ p ∧ p ≤ (n : Int) - 1
    · obtain ⟨i, rfl, hi⟩ := int_nat hp
      refine Sim.query2 hR (pA (mB M (M 174 2)) (mV (mB M (M 174 2))) n i n (2 ^ n - 1)) (fun Q h => ?_) (fun M1 s1 k1 hR1 Q h => ?_)
      · apply r_X8_match_0 hS
        refine ⟨fun z => absurd z h1, fun _ => sp_isPerson hS hn ⟨_, _, rfl, ?_⟩⟩
        rw [if_pos hp, hr2]
        refine ⟨fun _ => sp_most hS hT l0 (fun M1 l1 w1 t1 => ⟨_, _, rfl, fun _ => ?_, fun z => absurd z h1⟩), fun z => absurd z (by decide)⟩
        have e : M1 8 0 = n := by rw [l1 8 (by decide) (by decide)]; exact hn
        rw [e]
        exact sp_partnerOf hS hn8 w1 t1 ⟨_, _, rfl, h M1 (Lm_same l1).1 (Lm_same l1).2⟩
      · refine ref s1 k1 hR1 (by omega) Q (fun M' s' h' => ⟨fun _ => ?_, fun z => by omega⟩)
        rw [Int.toNat_natCast, h' i hi]
        exact h M' s'
    · refine Sim.query2 hR (-1) (fun Q h => ?_) (fun M1 s1 k1 hR1 Q h => ?_)
      · apply r_X8_match_0 hS
        refine ⟨fun z => absurd z h1, fun _ => sp_isPerson hS hn ⟨_, _, rfl, ?_⟩⟩
        rw [if_neg hp]
        exact ⟨fun z => absurd rfl z, fun _ => h M (Same.refl M) (fun _ _ => rfl)⟩
      · have e0 : M1 174 (0 : Int).toNat = n := (Rel_n hT s1 hR1).2.1.2.1
        apply r_X9_match_0 hM
        rw [e0]
        refine ⟨by decide, by unfold inR; omega, sq_in hM ⟨_, _, rfl, ?_⟩⟩
        rw [if_neg (by omega)]
        exact ⟨fun z => absurd rfl z, fun _ => h M1 (Same.refl M1)⟩
theorem wide_C (hS : KC S) {n : Nat} (hT : Tn M 8 0 n) {p : Int} {lim : Nat} (hl1 : ∀ r : Nat, r < lim → ¬ p ≤ mV (mB M (r : Int)) (2 ^ n - 1)) (hl2 : p ≤ mV (mB M (lim : Int)) (2 ^ n - 1)) (h : ∀ M', Lm M M' → Q (S, M', some (.inl (lim : Int)))) : ∀ (d step a b : Nat) (M1 : Mem), step + d = 26 → a ≤ lim → lim ≤ b → b ≤ 25 → b - a + step ≤ 25 → Lm M M1 → En 117 24 [some (.inr (.inr 5)), some (.inl p), some (.inl (a : Int)), some (.inl (b : Int)), some (.inl (step : Int)), none] [] S M1 Q := by
  have hn8 := hT.1.1
  have p8' := p8 hn8
  have p0 : 0 < 2 ^ n := Nat.pow_pos (by decide)
  intro d
  induction d with
  | zero => intro step a b M1 hd h1 h2 h3 h4 hl; omega
  | succ d ih =>
    intro step a b M1 hd h1 h2 h3 h4 hl
    apply r_X8_wide_24 hS
    have e2 : (2 : Int) ^ (1 : Int).toNat = 2 := by decide
    have em : (((a : Int) + (b : Int)) / 2) = (((a + b) / 2 : Nat) : Int) := by omega
    rw [e2, em]
    refine ⟨fun z => by omega, fun _ => ⟨fun z => ?_, fun z => ⟨by unfold inR; omega, by omega, sp_most hS hT hl (fun M2 l2 _ _ => ⟨_, _, rfl, fun w => ⟨by unfold inR; omega, by unfold inR; omega, ?_⟩, fun w => ⟨by unfold inR; omega, ?_⟩⟩)⟩⟩⟩
    · have e : b = lim := by omega
      rw [e]; exact h M1 hl
    · have q : ¬ lim ≤ (a + b) / 2 := fun q => by
        have := mV_wide (M := M) (r := (lim : Int)) (r' := (((a + b) / 2 : Nat) : Int)) (by omega) (s := 2 ^ n - 1) (by omega)
        omega
      rw [show ((((a + b) / 2 : Nat) : Int) + 1) = (((a + b) / 2 + 1 : Nat) : Int) by omega, show ((step : Int) + 1) = ((step + 1 : Nat) : Int) by omega]
      exact ih (step + 1) ((a + b) / 2 + 1) b M2 (by omega) (by omega) h2 h3 (by omega) l2
    · have q : lim ≤ (a + b) / 2 := by
        by_cases q : (a + b) / 2 < lim
        · exact absurd w (hl1 _ q)
        · omega
      rw [show ((step : Int) + 1) = ((step + 1 : Nat) : Int) by omega]
      exact ih (step + 1) a ((a + b) / 2) M2 (by omega) h1 q (by omega) (by omega) l2
theorem wide_M (hM : KM S) {n : Nat} (hT : Tn M 8 0 n) {p : Int} {lim : Nat} (hlim : lim ≤ 26) (hl1 : ∀ r : Nat, r < lim → ¬ p ≤ mV (mB M (r : Int)) (2 ^ n - 1)) (hl2 : lim < 26 → p ≤ mV (mB M (lim : Int)) (2 ^ n - 1)) (h : ∀ M', Mr M M' → (lim < 26 → Q (S, M', some (.inl (lim : Int)))) ∧ (lim = 26 → Q (S, M', some (.inl (-4))))) : ∀ (d w : Nat) (M1 : Mem), w + d = lim → Mr M M1 → En 197 10 [some (.inr (.inr 173)), some (.inl p), some (.inl (w : Int))] [] S M1 Q := by
  intro d
  induction d with
  | zero =>
    intro w M1 hd hl
    have e : w = lim := by omega
    subst e
    apply r_X9_wide_10 hM
    refine ⟨fun z => (h M1 hl).2 (by omega), fun z => sq_weddings hM hT hl (by omega) (fun M2 l2 _ => ⟨_, _, rfl, fun q => ?_, fun _ => (h M2 l2).1 (by omega)⟩)⟩
    have := hl2 (by omega)
    omega
  | succ d ih =>
    intro w M1 hd hl
    apply r_X9_wide_10 hM
    refine ⟨fun z => by omega, fun _ => sq_weddings hM hT hl (by omega) (fun M2 l2 _ => ⟨_, _, rfl, fun _ => ⟨by unfold inR; omega, ?_⟩, fun q => absurd q (hl1 w (by omega))⟩)⟩
    rw [show ((w : Int) + 1) = ((w + 1 : Nat) : Int) by omega]
    exact ih (w + 1) M2 (by omega) l2
theorem sim_wide (hS : KC S) (hM : KM S) (hR : Rel M) (p : Int) : Sim S M 117 197 [.inl p] := by
  obtain ⟨n, hT, -⟩ := id hR
  have hn8 := hT.1.1
  have p8' := p8 hn8
  have p0 : 0 < 2 ^ n := Nat.pow_pos (by decide)
  by_cases hp : 1 ≤ p ∧ p ≤ 4
  · obtain ⟨lim, l1, l2, l3⟩ := least_lim (fun r => p ≤ mV (mB M (r : Int)) (2 ^ n - 1)) 26
    refine Sim.query2 hR (if lim = 26 then -4 else (lim : Int)) (fun Q h => ?_) (fun M1 s1 k1 hR1 Q h => ?_)
    · apply r_X8_wide_0 hS
      refine ⟨fun z => by omega, fun _ => ⟨fun _ => sp_most hS hT (M1 := M) (fun _ _ _ => rfl) (fun M1 lm _ _ => ⟨_, _, rfl, fun z => ?_, fun z => ?_⟩), fun z => by omega⟩⟩
      · have hl : lim < 26 := by
          by_cases q : lim = 26
          · exact absurd z (l2 25 (by omega))
          · omega
        refine wide_C hS hT l2 (l3 hl) (fun M' l' => ?_) 26 0 0 25 M1 rfl (Nat.zero_le _) (by omega) (Nat.le_refl _) (by omega) lm
        have := h M' (Lm_same l').1 (Lm_same l').2
        rw [if_neg (by omega)] at this
        exact this
      · have hl : lim = 26 := by
          by_cases q : lim < 26
          · have a := mV_wide (M := M) (r := (lim : Int)) (r' := 25) (by omega) (s := 2 ^ n - 1) (by omega)
            have b : p ≤ mV (mB M (lim : Int)) (2 ^ n - 1) := l3 q
            omega
          · omega
        have := h M1 (Lm_same lm).1 (Lm_same lm).2
        rw [if_pos hl] at this
        exact this
    · have hT1 := Rel_n hT s1 hR1
      apply r_X9_wide_0 hM
      refine sq_in hM ⟨_, _, rfl, ?_⟩
      rw [if_pos hp]
      refine ⟨fun _ => wide_M hM hT1 l1 (fun r hr => by rw [mB_row k1]; exact l2 r hr) (fun hr => by rw [mB_row k1]; exact l3 hr) (fun M' l' => ⟨fun q => ?_, fun q => ?_⟩) lim 0 M1 (by omega) (fun _ _ _ => rfl), fun z => absurd z (by decide)⟩
      · have := h M' (Mr_same l')
        rw [if_neg (by omega)] at this
        exact this
      · have := h M' (Mr_same l')
        rw [if_pos q] at this
        exact this
  · refine Sim.query2 hR (-1) (fun Q h => ?_) (fun M1 s1 k1 hR1 Q h => ?_)
    · apply r_X8_wide_0 hS
      exact ⟨fun z => h M (Same.refl M) (fun _ _ => rfl), fun _ => ⟨fun z => by omega, fun z => h M (Same.refl M) (fun _ _ => rfl)⟩⟩
    · apply r_X9_wide_0 hM
      refine sq_in hM ⟨_, _, rfl, ?_⟩
      rw [if_neg hp]
      exact ⟨fun z => absurd rfl z, fun _ => h M1 (Same.refl M1)⟩
end Match
