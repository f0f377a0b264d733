/-! net, enter, count, person -/
/-- what others owe i less what i owes others -/
def nb (D : Nat → Nat → Int) (i : Nat) : Nat → Int
  | 0 => 0
  | k + 1 => nb D i k + (D i k - D k i)
theorem nb_in {D : Nat → Nat → Int} {i n : Nat} (h : ∀ a b, a < n → b < n → 0 ≤ D a b ∧ D a b ≤ 999) (hi : i < n) : ∀ k : Nat, k ≤ n → -(999 * k) ≤ nb D i k ∧ nb D i k ≤ 999 * k := by
  intro k
  induction k with
  | zero => intro _; exact ⟨Int.le_refl 0, Int.le_refl 0⟩
  | succ k ih =>
    intro hk
    have := ih (by omega)
    have a := h i k hi (by omega)
    have b := h k i (by omega) hi
    rw [nb]
    omega
theorem nb_congr {D D' : Nat → Nat → Int} {i n : Nat} (h : ∀ a b, a < n → b < n → D' a b = D a b) (hi : i < n) : ∀ k : Nat, k ≤ n → nb D' i k = nb D i k := by
  intro k
  induction k with
  | zero => intro _; rfl
  | succ k ih => intro hk; rw [nb, nb, ih (by omega), h i k hi (by omega), h k i (by omega) hi]
/-- debts of the class; of the reference -/
def tD (M : Mem) (t : Nat) : Nat → Nat → Int := fun a b => M (t + 7) (8 * a + b)
def mD (M : Mem) (s : Nat) : Nat → Nat → Int := fun a b => M 180 (170 * s + 80 + 8 * b + a)
theorem Tn_D {M : Mem} {t s n : Nat} (h : Tn M t s n) {a b : Nat} (ha : a < n) (hb : b < n) : tD M t a b = mD M s a b ∧ 0 ≤ mD M s a b ∧ mD M s a b ≤ 999 := by
  have := h.1.2.2.2.2.2.2.2.1 a b ha hb
  have e : mD M s a b = M 180 (170 * s + (80 + 8 * b + a)) := by unfold mD; congr 1; omega
  rw [e]
  exact this
section Ops6
variable {S : Shp} {M : Mem} {Q : Res → Prop}
theorem balance_loop (hS : KC S) {t : Nat} (ht : t ∈ bx_tw) {n i : Nat} (hn : M t 0 = n) (hn8 : n ≤ 8) (hi : i < n) (hd : ∀ a b, a < n → b < n → 0 ≤ tD M t a b ∧ tD M t a b ≤ 999) (h : Q (S, M, some (.inl (nb (tD M t) i n)))) : ∀ d k, k + d = n → En 90 4 [some (.inr (.inr (t + 1))), some (.inl (i : Int)), some (.inl (nb (tD M t) i k)), some (.inl (k : Int))] [] S M Q := by
  intro d
  induction d with
  | zero =>
    intro k hk
    have e : k = n := by omega
    subst e
    apply r_X7_balance_4 hS ht
    rw [hn]
    exact ⟨fun _ => h, fun z => by omega⟩
  | succ d ih =>
    intro k hk
    apply r_X7_balance_4 hS ht
    rw [hn]
    refine ⟨fun z => by omega, fun _ => sp_debt hS ht (by omega) (by omega) ⟨_, _, rfl, sp_debt hS ht (by omega) (by omega) ⟨_, _, rfl, ?_⟩⟩⟩
    have b := nb_in hd hi k (by omega)
    have a1 : 0 ≤ M (t + 7) (8 * i + k) ∧ M (t + 7) (8 * i + k) ≤ 999 := hd i k hi (by omega)
    have a2 : 0 ≤ M (t + 7) (8 * k + i) ∧ M (t + 7) (8 * k + i) ≤ 999 := hd k i (by omega) hi
    have ek : ((k : Int) + 1) = ((k + 1 : Nat) : Int) := by omega
    refine ⟨by unfold inR; omega, by unfold inR; omega, by unfold inR; omega, ?_⟩
    rw [ek]
    exact ih (k + 1) (by omega)
theorem sp_balance (hS : KC S) {t : Nat} (ht : t ∈ bx_tw) {n i : Nat} (hn : M t 0 = n) (hn8 : n ≤ 8) (hi : i < n) (hd : ∀ a b, a < n → b < n → 0 ≤ tD M t a b ∧ tD M t a b ≤ 999) (h : Q (S, M, some (.inl (nb (tD M t) i n)))) : Ca 90 [.inr (.inr (t + 1)), .inl (i : Int)] S M Q := by
  apply r_X7_balance_0 hS ht
  exact balance_loop hS ht hn hn8 hi hd h n 0 (by omega)
theorem netOf_loop (hM : KM S) {n i : Nat} (hn : M 174 0 = n) (hn8 : n ≤ 8) (hi : i < n) (hd : ∀ a b, a < n → b < n → 0 ≤ mD M 0 a b ∧ mD M 0 a b ≤ 999) (h : Q (S, M, some (.inl (nb (mD M 0) i n)))) : ∀ d k, k + d = n → En 199 4 [some (.inr (.inr 173)), some (.inl (i : Int)), some (.inl (nb (mD M 0) i k)), some (.inl (k : Int))] [] S M Q := by
  have hn' : M 174 (0 : Int).toNat = n := hn
  intro d
  induction d with
  | zero =>
    intro k hk
    have e : k = n := by omega
    subst e
    apply r_X9_netOf_4 hM
    rw [hn']
    exact ⟨by decide, fun _ => h, fun z => by omega⟩
  | succ d ih =>
    intro k hk
    apply r_X9_netOf_4 hM
    rw [hn']
    refine ⟨by decide, fun z => by omega, fun _ => sq_owes hM (by omega) (by omega) ⟨_, _, rfl, sq_owes hM (by omega) (by omega) ⟨_, _, rfl, ?_⟩⟩⟩
    have b := nb_in hd hi k (by omega)
    have e1 : mD M 0 i k = M 180 (80 + 8 * k + i) := by unfold mD; rw [Nat.mul_zero, Nat.zero_add]
    have e2 : mD M 0 k i = M 180 (80 + 8 * i + k) := by unfold mD; rw [Nat.mul_zero, Nat.zero_add]
    have a1 := hd i k hi (by omega)
    have a2 := hd k i (by omega) hi
    rw [e1] at a1
    rw [e2] at a2
    have ek : ((k : Int) + 1) = ((k + 1 : Nat) : Int) := by omega
    refine ⟨by unfold inR; omega, by unfold inR; omega, by unfold inR; omega, ?_⟩
    have nx := ih (k + 1) (by omega)
    rw [nb, e1, e2] at nx
    rw [ek]
    exact nx
theorem sq_netOf (hM : KM S) {n i : Nat} (hn : M 174 0 = n) (hn8 : n ≤ 8) (hi : i < n) (hd : ∀ a b, a < n → b < n → 0 ≤ mD M 0 a b ∧ mD M 0 a b ≤ 999) (h : Q (S, M, some (.inl (nb (mD M 0) i n)))) : Ca 199 [.inr (.inr 173), .inl (i : Int)] S M Q := by
  apply r_X9_netOf_0 hM
  exact netOf_loop hM hn hn8 hi hd h n 0 (by omega)
/-- the same people -/
theorem Tn_n {M M1 : Mem} {t s n n1 t1 s1 : Nat} (h : Tn M t s n) (h1 : Tn M1 t1 s1 n1) (e : M1 174 0 = M 174 0) : n1 = n := by
  have a := h.2.1.2.1
  have b := h1.2.1.2.1
  omega
theorem sim_net (hS : KC S) (hM : KM S) (hR : Rel M) (p : Int) : Sim S M 119 200 [.inl p] := by
  obtain ⟨n, hT, -⟩ := id hR
  have hn8 := hT.1.1
  have hn : M 8 0 = n := hT.2.1.1
  by_cases hp : 0 ≤ p ∧ p ≤ (n : Int) - 1
  · obtain ⟨i, rfl, hi⟩ := int_nat hp
    have bd := nb_in (D := mD M 0) (i := i) (n := n) (fun a b ha hb => (Tn_D hT ha hb).2) hi n (Nat.le_refl n)
    refine Sim.query hR (nb (mD M 0) i n + 10000) (fun Q h => ?_) (fun M1 s1 hR1 Q h => ?_)
    · apply r_X8_net_0 hS
      refine sp_isPerson hS hn ⟨_, _, rfl, ?_⟩
      rw [if_pos hp]
      refine ⟨fun z => absurd z (by decide), fun _ => sp_balance (t := 8) hS (by decide) hn hn8 hi (fun a b ha hb => by rw [(Tn_D hT ha hb).1]; exact (Tn_D hT ha hb).2) ⟨_, _, rfl, ?_⟩⟩
      rw [nb_congr (fun a b ha hb => (Tn_D hT ha hb).1) hi n (Nat.le_refl n)]
      exact ⟨by unfold inR; omega, h M (Same.refl M)⟩
    · obtain ⟨n', hT1, -⟩ := hR1
      have en := Tn_n hT hT1 (s1 174 0 (by unfold scr; omega))
      subst en
      apply r_X9_net_0 hM
      refine sq_isPerson hM hT1.2.1.2.1 hn8 ⟨_, _, rfl, ?_⟩
      rw [if_pos hp]
      refine ⟨fun z => absurd z (by decide), fun _ => sq_netOf hM hT1.2.1.2.1 hn8 hi (fun a b ha hb => (Tn_D hT1 ha hb).2) ⟨_, _, rfl, ?_⟩⟩
      rw [nb_congr (D := mD M 0) (D' := mD M1 0) (fun a b ha hb => s1 180 _ (by unfold scr; omega)) hi n' (Nat.le_refl n')]
      exact ⟨by unfold inR; omega, h M1 (Same.refl M1)⟩
  · refine Sim.query hR (-1) (fun Q h => ?_) (fun M1 s1 hR1 Q h => ?_)
    · apply r_X8_net_0 hS
      refine sp_isPerson hS hn ⟨_, _, rfl, ?_⟩
      rw [if_neg hp]
      exact ⟨fun _ => h M (Same.refl M), fun z => absurd rfl z⟩
    · apply r_X9_net_0 hM
      refine sq_isPerson hM ((s1 174 0 (by unfold scr; omega)).trans hT.2.1.2.1) hn8 ⟨_, _, rfl, ?_⟩
      rw [if_neg hp]
      exact ⟨fun _ => h M1 (Same.refl M1), fun z => absurd rfl z⟩
theorem sim_enter (hS : KC S) (hM : KM S) (hR : Rel M) (p q : Int) : Sim S M 124 209 [.inl p, .inl q] := by
  obtain ⟨n, h1, h2, h3, h4, h5, ⟨l, l1, l2, l3, l4⟩⟩ := id hR
  have bad : ¬ ((0 ≤ p ∧ p ≤ 25) ∧ (0 ≤ q ∧ q ≤ 9)) → ∃ (M1 : Mem) (v : Int), ((S, M, some (.inl (-1 : Int))) : Res) = (S, M1, some (.inl v)) ∧ Ca 209 [.inr (.inr 173), .inl p, .inl q] S M1 (fun r' => ∃ M2 : Mem, r' = (S, M2, some (.inl v)) ∧ Rel M2 ∧ M2 0 = M 0) := fun hb => by
    refine ⟨_, _, rfl, ?_⟩
    apply r_X9_enter_0 hM
    refine sq_isLetter hM ⟨_, _, rfl, ?_⟩
    by_cases hp : 0 ≤ p ∧ p ≤ 25
    · rw [if_pos hp]
      refine ⟨fun z => absurd z (by decide), fun _ => sq_in hM ⟨_, _, rfl, ?_⟩⟩
      rw [if_neg (by omega)]
      exact ⟨fun z => absurd rfl z, fun _ => ⟨_, rfl, hR, rfl⟩⟩
    · rw [if_neg hp]
      exact ⟨fun _ => ⟨_, rfl, hR, rfl⟩, fun z => absurd rfl z⟩
  apply r_X8_enter_0 hS
  refine sp_isLetter hS ⟨_, _, rfl, ?_⟩
  by_cases hp : 0 ≤ p ∧ p ≤ 25
  · rw [if_pos hp]
    refine ⟨fun z => absurd z (by decide), fun _ => ⟨fun z => bad (by omega), fun z => ⟨fun z2 => ?_, fun z2 => bad (by omega)⟩⟩⟩
    apply r_X1_add_0 hS
    have ee : (up2 M 169 (M 168 2).toNat p) 168 2 = (l : Int) := by rw [up2_row _ _ _ _ (by decide), l2]
    have ee2 : (up2 (up2 M 169 (M 168 2).toNat p) 170 (l : Int).toNat q) 168 2 = (l : Int) := by rw [up2_row _ _ _ _ (by decide), ee]
    rw [ee, ee2, l2, Int.toNat_natCast]
    refine ⟨fun w => ⟨by omega, by omega, by unfold inR; omega, _, _, rfl, fun z => absurd z (by decide), fun _ => ⟨_, _, rfl, ?_⟩⟩, fun w => ⟨_, _, rfl, fun _ => ⟨_, _, rfl, ?_⟩, fun z => absurd rfl z⟩⟩
    · obtain ⟨M1, hM1⟩ : ∃ z, z = up2 (up2 (up2 M 169 l p) 170 l q) 168 2 ((l : Int) + 1) := ⟨_, rfl⟩
      rw [← hM1]
      have g1 : ∀ a b, M1 a b = if a = 168 ∧ b = 2 then (l : Int) + 1 else if a = 170 ∧ b = l then q else if a = 169 ∧ b = l then p else M a b := fun a b => by rw [hM1]; rfl
      have e1 : M1 172 14 = (l : Int) := by rw [g1, if_neg (by omega), if_neg (by omega), if_neg (by omega), l3]
      have e2 : M1 168 2 = (l : Int) + 1 := by rw [g1, if_pos ⟨rfl, rfl⟩]
      apply r_X9_enter_0 hM
      refine sq_isLetter hM ⟨_, _, rfl, ?_⟩
      rw [if_pos hp]
      refine ⟨fun z => absurd z (by decide), fun _ => sq_in hM ⟨_, _, rfl, ?_⟩⟩
      rw [if_pos ⟨z, z2⟩]
      have t2 : ((2 : Int) * l).toNat = 2 * l := by omega
      have t3 : ((2 : Int) * l + 1).toNat = 2 * l + 1 := by omega
      have e3 : (up2 M1 182 (2 * l) p) 172 14 = (l : Int) := by rw [up2_row _ _ _ _ (by decide), e1]
      have e4 : (up2 (up2 M1 182 (2 * l) p) 182 (2 * l + 1) q) 172 14 = (l : Int) := by rw [up2_row _ _ _ _ (by decide), e3]
      rw [e1, t2, e3, t3, e4, up2_get, e2]
      refine ⟨fun _ => ⟨fun _ => ⟨by unfold inR; omega, by omega, by unfold inR; omega, by unfold inR; omega, by omega, by unfold inR; omega, _, rfl, ⟨n, ?_⟩, ?_⟩, fun z => by omega⟩, fun z => absurd z (by decide)⟩
      · obtain ⟨M2, hM2⟩ : ∃ z, z = up2 (up2 (up2 M1 182 (2 * l) p) 182 (2 * l + 1) q) 172 14 ((l : Int) + 1) := ⟨_, rfl⟩
        have g : ∀ a b, M2 a b = if a = 172 ∧ b = 14 then (l : Int) + 1 else if a = 182 ∧ b = 2 * l + 1 then q else if a = 182 ∧ b = 2 * l then p else if a = 168 ∧ b = 2 then (l : Int) + 1 else if a = 170 ∧ b = l then q else if a = 169 ∧ b = l then p else M a b := fun a b => by rw [hM2]; show (if _ then _ else if _ then _ else if _ then _ else M1 a b) = _; rw [g1]
        have gr : ∀ a, a ≠ 172 → a ≠ 182 → a ≠ 168 → a ≠ 170 → a ≠ 169 → M2 a = M a := fun a _ _ _ _ _ => by funext b; rw [g, if_neg (by omega), if_neg (by omega), if_neg (by omega), if_neg (by omega), if_neg (by omega), if_neg (by omega)]
        rw [← hM2]
        have T := Towns_keep (M' := M2) (fun q hq => gr q (by omega) (by omega) (by omega) (by omega) (by omega)) (by rw [g]; rfl) (by rw [g]; rfl) ⟨h1, h2, h3⟩
        refine ⟨T.1, T.2.1, T.2.2, Text_keep (by rw [g]; rfl) (by rw [g]; rfl) (gr _ (by decide) (by decide) (by decide) (by decide) (by decide)) (gr _ (by decide) (by decide) (by decide) (by decide) (by decide)) h4, Word_keep (by rw [g]; rfl) (by rw [g]; rfl) (gr _ (by decide) (by decide) (by decide) (by decide) (by decide)) (gr _ (by decide) (by decide) (by decide) (by decide) (by decide)) h5, ⟨l + 1, by omega, by rw [g]; rfl, by rw [g]; rfl, fun k hk => ?_⟩⟩
        have a1 : M2 169 k = if k = l then p else M 169 k := by rw [g]; simp
        have a2 : M2 170 k = if k = l then q else M 170 k := by rw [g]; simp
        have a3 : M2 182 (2 * k) = if k = l then p else M 182 (2 * k) := by
          rw [g, if_neg (by omega), if_neg (by omega)]
          by_cases hkl : k = l
          · rw [if_pos ⟨rfl, by omega⟩, if_pos hkl]
          · rw [if_neg (by omega), if_neg (by omega), if_neg (by omega), if_neg (by omega), if_neg hkl]
        have a4 : M2 182 (2 * k + 1) = if k = l then q else M 182 (2 * k + 1) := by
          rw [g, if_neg (by omega)]
          by_cases hkl : k = l
          · rw [if_pos ⟨rfl, by omega⟩, if_pos hkl]
          · rw [if_neg (by omega), if_neg (by omega), if_neg (by omega), if_neg (by omega), if_neg (by omega), if_neg hkl]
        rw [a1, a2, a3, a4]
        by_cases hkl : k = l
        · rw [if_pos hkl, if_pos hkl, if_pos hkl, if_pos hkl]; omega
        · rw [if_neg hkl, if_neg hkl, if_neg hkl, if_neg hkl]; exact l4 k (by omega)
      · rw [up2_row _ _ _ _ (by decide), up2_row _ _ _ _ (by decide), up2_row _ _ _ _ (by decide), hM1, up2_row _ _ _ _ (by decide), up2_row _ _ _ _ (by decide), up2_row _ _ _ _ (by decide)]
    · apply r_X9_enter_0 hM
      refine sq_isLetter hM ⟨_, _, rfl, ?_⟩
      rw [if_pos hp]
      refine ⟨fun z => absurd z (by decide), fun _ => sq_in hM ⟨_, _, rfl, ?_⟩⟩
      rw [if_pos ⟨z, z2⟩, l3]
      exact ⟨fun _ => ⟨fun z => by omega, fun _ => ⟨_, rfl, hR, rfl⟩⟩, fun z => absurd z (by decide)⟩
  · rw [if_neg hp]
    exact ⟨fun _ => bad (by omega), fun z => absurd rfl z⟩
end Ops6
