/-! count, person -/
section Ops7
variable {S : Shp} {M : Mem} {Q : Res → Prop}
theorem cntB_in {p : Nat → Bool} : ∀ m : Nat, 0 ≤ cntB p m ∧ cntB p m ≤ m := by
  intro m
  induction m with
  | zero => exact ⟨Int.le_refl 0, Int.le_refl 0⟩
  | succ m ih => rw [cntB]; split <;> omega
theorem cntB_eq {p q : Nat → Bool} : ∀ m : Nat, (∀ k, k < m → p k = q k) → cntB p m = cntB q m := by
  intro m
  induction m with
  | zero => intro _; rfl
  | succ m ih => intro h; rw [cntB, cntB, ih (fun k hk => h k (by omega)), h m (by omega)]
theorem countWed_loop (hS : KC S) {t : Nat} (ht : t ∈ bx_tw) {n : Nat} (hn : M t 0 = n) (hn8 : n ≤ 8) (h : Q (S, M, some (.inl (cntB (fun i => decide (M (t + 5) i ≠ -4)) n)))) : ∀ d k, k + d = n → En 85 4 [some (.inr (.inr (t + 1))), some (.inl (cntB (fun i => decide (M (t + 5) i ≠ -4)) k)), some (.inl (k : Int))] [] S M Q := by
  intro d
  induction d with
  | zero =>
    intro k hk
    have e : k = n := by omega
    subst e
    apply r_X7_countWed_4 hS ht
    rw [hn]
    exact ⟨fun _ => h, fun z => by omega⟩
  | succ d ih =>
    intro k hk
    apply r_X7_countWed_4 hS ht
    rw [hn, Int.toNat_natCast]
    have b := cntB_in (p := fun i => decide (M (t + 5) i ≠ -4)) k
    have ek : ((k : Int) + 1) = ((k + 1 : Nat) : Int) := by omega
    have nx := ih (k + 1) (by omega)
    rw [cntB] at nx
    refine ⟨fun z => by omega, fun _ => ⟨by omega, fun z => ⟨by unfold inR; omega, by unfold inR; omega, ?_⟩, fun z => ⟨by unfold inR; omega, by unfold inR; omega, ?_⟩⟩⟩
    · rw [if_pos (by simpa using z)] at nx; rw [ek]; exact nx
    · rw [if_neg (by simpa using z)] at nx; rw [ek]; exact nx
theorem sp_countWed (hS : KC S) {t : Nat} (ht : t ∈ bx_tw) {n : Nat} (hn : M t 0 = n) (hn8 : n ≤ 8) (h : Q (S, M, some (.inl (cntB (fun i => decide (M (t + 5) i ≠ -4)) n)))) : Ca 85 [.inr (.inr (t + 1))] S M Q := by
  apply r_X7_countWed_0 hS ht
  exact countWed_loop hS ht hn hn8 h n 0 (by omega)
theorem weds_loop (hM : KM S) {n : Nat} (hn : M 174 0 = n) (hn8 : n ≤ 8) (h : Q (S, M, some (.inl (cntB (fun i => decide (0 < M 180 (64 + i))) n)))) : ∀ d k, k + d = n → En 180 4 [some (.inr (.inr 173)), some (.inl (cntB (fun i => decide (0 < M 180 (64 + i))) k)), some (.inl (k : Int))] [] S M Q := by
  have hn' : M 174 (0 : Int).toNat = n := hn
  intro d
  induction d with
  | zero =>
    intro k hk
    have e : k = n := by omega
    subst e
    apply r_X9_weds_4 hM
    rw [hn']
    exact ⟨by decide, fun _ => h, fun z => by omega⟩
  | succ d ih =>
    intro k hk
    apply r_X9_weds_4 hM
    have e1 : ((64 : Int) + k).toNat = 64 + k := by omega
    rw [hn', e1]
    have b := cntB_in (p := fun i => decide (0 < M 180 (64 + i))) k
    have ek : ((k : Int) + 1) = ((k + 1 : Nat) : Int) := by omega
    have nx := ih (k + 1) (by omega)
    rw [cntB] at nx
    refine ⟨by decide, fun z => by omega, fun _ => ⟨by unfold inR; omega, by omega, fun z => ⟨by unfold inR; omega, by unfold inR; omega, ?_⟩, fun z => ⟨by unfold inR; omega, by unfold inR; omega, ?_⟩⟩⟩
    · rw [if_neg (by simpa using z)] at nx; rw [ek]; exact nx
    · rw [if_pos (by simpa using z)] at nx; rw [ek]; exact nx
theorem sq_weds (hM : KM S) {n : Nat} (hn : M 174 0 = n) (hn8 : n ≤ 8) (h : Q (S, M, some (.inl (cntB (fun i => decide (0 < M 180 (64 + i))) n)))) : Ca 180 [.inr (.inr 173)] S M Q := by
  apply r_X9_weds_0 hM
  exact weds_loop hM hn hn8 h n 0 (by omega)
theorem Tn_wed {t n : Nat} (h : Tn M t 0 n) : cntB (fun i => decide (M (t + 5) i ≠ -4)) n = cntB (fun i => decide (0 < M 180 (64 + i))) n := by
  refine cntB_eq n (fun k hk => ?_)
  have e : (M (t + 5) k = -4 ∧ M 180 (170 * 0 + (64 + k)) = 0) ∨ (0 ≤ M (t + 5) k ∧ M (t + 5) k < n ∧ M 180 (170 * 0 + (64 + k)) = M (t + 5) k + 1) := h.1.2.2.2.2.2.1 k hk
  rw [Nat.mul_zero, Nat.zero_add] at e
  have : (M (t + 5) k ≠ -4) ↔ (0 < M 180 (64 + k)) := by omega
  simp only [decide_eq_decide]
  exact this
theorem sim_count (hS : KC S) (hM : KM S) (hR : Rel M) (p : Int) : Sim S M 131 218 [.inl p] := by
  obtain ⟨n, hT, ⟨u, u1, u2, u3, -⟩, ⟨v, v1, v2, v3, -⟩, ⟨x, x1, x2, x3, -⟩, ⟨w, w1, w2, w3, -⟩, ⟨l, l1, l2, l3, -⟩⟩ := id hR
  have hn8 := hT.1.1
  have hn : M 8 0 = n := hT.2.1.1
  have hn2 : M 174 0 = n := hT.2.1.2.1
  have a1 : M 8 1 = M 174 1 := hT.2.2.1.1
  have a2 : M 8 2 = M 174 2 := hT.2.2.2.1.1
  have a3 : M 8 3 = M 174 3 := hT.2.2.2.2.1.1
  by_cases hp : 0 ≤ p ∧ p ≤ 10
  · refine Sim.query hR (if p < 4 then M 174 p.toNat else if p = 4 then (w : Int) else if p = 5 then cntB (fun i => decide (0 < M 180 (64 + i))) n else if p = 6 then (l : Int) else if p = 7 then (u : Int) else if p = 8 then (v : Int) else if p = 9 then (x : Int) else lfull (mK M 0) (M 175) (M 174 1) n n) (fun Q h => ?_) (fun M1 s1 hR1 Q h => ?_)
    · apply r_X8_count_0 hS
      have h0 := h M (Same.refl M)
      refine ⟨fun z => by omega, ?_, ?_, ?_, ?_, ?_, fun z => ?_, ?_, ?_, ?_, ?_, fun z => ?_⟩
      · rintro rfl; rw [hn, ← hn2]; exact h0
      · rintro rfl; rw [a1]; exact h0
      · rintro rfl; rw [a2]; exact h0
      · rintro rfl; rw [a3]; exact h0
      · rintro rfl; rw [w2]; exact h0
      · subst z
        refine sp_countWed (t := 8) hS (by decide) hn hn8 ⟨_, _, rfl, ?_⟩
        rw [Tn_wed hT]
        exact h0
      · rintro rfl; rw [l2]; exact h0
      · rintro rfl; rw [u2]; exact h0
      · rintro rfl; rw [v2]; exact h0
      · rintro rfl; rw [x2]; exact h0
      · subst z
        refine sp_lineNow hS hn (Tn_names hT) (fun M' hl => ⟨_, rfl, ?_⟩)
        obtain ⟨c1, c2, c3, c4, -⟩ := LN_S hT hl
        refine sp_countFull hS c1 ⟨_, _, rfl, ?_⟩
        rw [lfull_congr c4 (fun j hj => ⟨c2 j hj, c3 j hj⟩) n (Nat.le_refl n)]
        exact h M' (LN_same hl)
    · obtain ⟨n', hT1, -⟩ := hR1
      have en := Tn_n hT hT1 (s1 174 0 (by unfold scr; omega))
      subst en
      have h0 := h M1 (Same.refl M1)
      have e : ∀ q k, ¬ scr q k → M1 q k = M q k := s1
      apply r_X9_count_0 hM
      refine sq_in hM ⟨_, _, rfl, ?_⟩
      rw [if_pos hp]
      refine ⟨fun _ => ⟨fun z => ⟨fun z2 => ?_, ?_, fun z => ?_, ?_, ?_, ?_, ?_⟩, fun z => ⟨by omega, ?_⟩⟩, fun z => absurd z (by decide)⟩
      · have : p = 10 := by omega
        subst this
        refine sq_morning (s := 0) hM (by decide) (Tn_bnd hT1) (Tn_mN hT1) (fun M' hm _ => ⟨_, _, rfl, ?_⟩)
        have ek : ∀ j, j < n' → mK M1 0 j = mK M 0 j := fun j hj => gkeyOf_congr (Tn_gok hT hj) (e _ _ (by unfold scr; omega)) (fun k hk => e _ _ (by have := (Tn_gok hT hj).1; unfold scr; omega)) (fun x hx => e _ _ (by unfold scr; omega))
        rw [lfull_congr (e 174 1 (by unfold scr; omega)) (fun j hj => ⟨ek j hj, e 175 j (by unfold scr; omega)⟩) n' (Nat.le_refl n')]
        exact h M' (fun q k hq => by rw [hm q (by unfold scr at hq; omega)])
      · rintro rfl; rw [e 172 12 (by unfold scr; omega), w3]; exact h0
      · subst z
        refine sq_weds hM hT1.2.1.2.1 hn8 ⟨_, _, rfl, ?_⟩
        rw [cntB_eq (q := fun i => decide (0 < M 180 (64 + i))) n' (fun k hk => by rw [e 180 (64 + k) (by unfold scr; omega)])]
        exact h0
      · rintro rfl; rw [e 172 14 (by unfold scr; omega), l3]; exact h0
      · rintro rfl; rw [e 172 11 (by unfold scr; omega), u3]; exact h0
      · rintro rfl; rw [e 172 10 (by unfold scr; omega), v3]; exact h0
      · rintro rfl; rw [e 172 0 (by unfold scr; omega), x3]; exact h0
      · rw [if_pos z] at h0
        rw [e 174 p.toNat (by unfold scr; omega)]; exact h0
  · refine Sim.query hR (-1) (fun Q h => ?_) (fun M1 s1 hR1 Q h => ?_)
    · apply r_X8_count_0 hS
      refine ⟨fun _ => h M (Same.refl M), ?_, ?_, ?_, ?_, ?_, ?_, ?_, ?_, ?_, ?_, ?_⟩ <;> (intro z; omega)
    · apply r_X9_count_0 hM
      refine sq_in hM ⟨_, _, rfl, ?_⟩
      rw [if_neg hp]
      exact ⟨fun z => absurd rfl z, fun _ => h M1 (Same.refl M1)⟩
theorem sp_holdsOffice (hS : KC S) {t : Nat} (ht : t ∈ bx_tw) {i : Nat} (hi : i < 8) (hz : 0 ≤ M (t + 1) i) (hf : M (t + 1) i ≠ 0 → 0 ≤ tf M t i ∧ tf M t i < 26) (hv : 0 ≤ M t 4) (h : Q (S, M, some (.inl (if tf M t i < 0 ∨ (M t 4).toNat.testBit (tf M t i).toNat = true then 1 else 0)))) : Ca 81 [.inr (.inr (t + 1)), .inl (i : Int)] S M Q := by
  apply r_X7_holdsOffice_0 hS ht
  refine sp_isNameless hS ht hi ⟨_, _, rfl, ?_⟩
  by_cases hz0 : M (t + 1) i = 0
  · rw [if_pos hz0]
    have : tf M t i = -4 := by unfold tf; rw [if_neg (by omega)]
    rw [if_pos (Or.inl (by omega))] at h
    exact ⟨fun _ => h, fun z => absurd z (by decide)⟩
  · rw [if_neg hz0]
    refine ⟨fun z => absurd rfl z, fun _ => sp_first hS ht hi ⟨_, _, rfl, ?_⟩⟩
    have q := hf hz0
    obtain ⟨x, hx⟩ : ∃ x : Nat, tf M t i = (x : Int) := ⟨(tf M t i).toNat, by omega⟩
    rw [hx] at h q ⊢
    refine sp_isVowel hS ht (by omega) hv ⟨_, _, rfl, ?_⟩
    rw [Int.toNat_natCast] at h
    by_cases hb : (M t 4).toNat.testBit x = true
    · rw [if_pos (Or.inr hb)] at h
      rw [if_pos hb]
      exact ⟨fun z => absurd z (by decide), fun _ => h⟩
    · have : ¬ ((x : Int) < 0 ∨ (M t 4).toNat.testBit x = true) := fun z => by
        rcases z with z | z
        · omega
        · exact hb z
      rw [if_neg this] at h
      rw [if_neg hb]
      exact ⟨fun _ => h, fun z => absurd rfl z⟩
theorem Tn_f0 {t s n : Nat} (h : Tn M t s n) {i : Nat} (hi : i < n) (hz : M (t + 1) i ≠ 0) : 0 ≤ tf M t i ∧ tf M t i < 26 := by
  have g := Tn_gok h hi
  have e := Tn_sz h hi
  have g1 := g.1
  rw [Tn_f h hi]
  unfold mf
  rw [if_neg (by omega)]
  have := g.2 0 (by omega)
  simpa using this
theorem sim_person (hS : KC S) (hM : KM S) (hR : Rel M) (p q : Int) : Sim S M 98 165 [.inl p, .inl q] := by
  obtain ⟨n, hT, -⟩ := id hR
  have hn8 := hT.1.1
  have hn : M 8 0 = n := hT.2.1.1
  have hn2 : M 174 0 = n := hT.2.1.2.1
  by_cases hp : 0 ≤ p ∧ p ≤ (n : Int) - 1
  · obtain ⟨i, rfl, hi⟩ := int_nat hp
    by_cases hq : 0 ≤ q ∧ q ≤ 7
    · have a0 : M 9 i = M 180 i := by simpa using Tn_sz hT hi
      have a1 : M 11 i = M 175 i := (hT.2.2.2.2.2.2.1 i hi).1
      have a2 : M 12 i = M 180 (56 + i) := by simpa using (hT.1.2.2.2.1 i hi).1
      have a3 : (M 13 i = -4 ∧ M 180 (64 + i) = 0) ∨ (0 ≤ M 13 i ∧ M 13 i < n ∧ M 180 (64 + i) = M 13 i + 1) := by simpa using hT.1.2.2.2.2.2.1 i hi
      have a4 : M 14 i = M 180 (72 + i) := by simpa using (hT.1.2.2.2.2.2.2.1 i (by omega)).1 hi
      have a5 : M 8 4 = M 174 5 := hT.2.2.2.2.2.1.1
      have a6 : 0 ≤ M 174 5 := hT.2.2.2.2.2.1.2.1
      have gk := (Tn_gok hT hi).1
      refine Sim.query hR (if q = 0 then M 180 i else if q = 1 then M 175 i else if q = 2 then M 180 (56 + i) else if q = 3 then M 13 i else if q = 4 then M 180 (72 + i) else if q = 5 then lcnt (mK M 0) i (mK M 0 i) n else if q = 6 then mget (mK M 0) (M 175) (M 174 1) n i else if mf M 0 i < 0 ∨ (M 174 5).toNat.testBit (mf M 0 i).toNat = true then 1 else 0) (fun Q h => ?_) (fun M1 s1 hR1 Q h => ?_)
      · apply r_X8_person_0 hS
        refine sp_isPerson hS hn ⟨_, _, rfl, ?_⟩
        rw [if_pos hp, Int.toNat_natCast]
        have h0 := h M (Same.refl M)
        refine ⟨fun _ => ⟨fun z => by omega, ?_, ?_, ?_, ?_, ?_, fun z => ?_, fun z => ?_, fun z => ?_⟩, fun z => absurd z (by decide)⟩
        · rintro rfl; rw [a0]; exact ⟨by omega, h0⟩
        · rintro rfl; rw [a1]; exact ⟨by omega, h0⟩
        · rintro rfl; rw [a2]; exact ⟨by omega, h0⟩
        · rintro rfl; exact ⟨by omega, h0⟩
        · rintro rfl; rw [a4]; exact ⟨by omega, h0⟩
        · subst z
          refine sp_lineNow hS hn (Tn_names hT) (fun M' hl => ⟨_, rfl, ?_⟩)
          obtain ⟨c1, c2, c3, c4, -⟩ := LN_S hT hl
          refine sp_placeOf hS c1 hi ⟨_, _, rfl, ?_⟩
          rw [lcnt_congr n c2, c2 i hi]
          exact h M' (LN_same hl)
        · subst z
          refine sp_lineNow hS hn (Tn_names hT) (fun M' hl => ⟨_, rfl, ?_⟩)
          obtain ⟨c1, c2, c3, c4, -⟩ := LN_S hT hl
          refine sp_getsNow hS c1 hi ⟨_, _, rfl, ?_⟩
          rw [lsum_congr n (fun j hj => ⟨c2 j hj, c3 j hj⟩), c2 i hi, c3 i hi, c4]
          exact h M' (LN_same hl)
        · subst z
          refine sp_holdsOffice (t := 8) hS (by decide) (by omega) (by rw [Tn_sz hT hi]; exact gk.1) (Tn_f0 hT hi) (by rw [a5]; exact a6) ⟨_, _, rfl, ?_⟩
          rw [Tn_f hT hi, a5]
          have h1 : Q (S, M, some (.inl (if mf M 0 i < 0 ∨ (M 174 5).toNat.testBit (mf M 0 i).toNat = true then 1 else 0))) := h0
          split at h1
          · rename_i y; rw [if_pos y]; exact ⟨fun z => absurd z (by decide), fun _ => h1⟩
          · rename_i y; rw [if_neg y]; exact ⟨fun _ => h1, fun z => absurd rfl z⟩
      · obtain ⟨n', hT1, -⟩ := hR1
        have en := Tn_n hT hT1 (s1 174 0 (by unfold scr; omega))
        subst en
        have h0 := h M1 (Same.refl M1)
        have e : ∀ q k, ¬ scr q k → M1 q k = M q k := s1
        have ek : ∀ j, j < n' → mK M1 0 j = mK M 0 j := fun j hj => gkeyOf_congr (Tn_gok hT hj) (e _ _ (by unfold scr; omega)) (fun k hk => e _ _ (by have := (Tn_gok hT hj).1; unfold scr; omega)) (fun x hx => e _ _ (by unfold scr; omega))
        have ef : mf M1 0 i = mf M 0 i := by unfold mf; rw [e _ _ (by unfold scr; omega), e _ _ (by unfold scr; omega)]
        apply r_X9_person_0 hM
        refine sq_isPerson hM hT1.2.1.2.1 hn8 ⟨_, _, rfl, ?_⟩
        rw [if_pos hp]
        refine ⟨fun z => absurd z (by decide), fun _ => sq_in hM ⟨_, _, rfl, ?_⟩⟩
        rw [if_pos hq, Int.toNat_natCast]
        have e56 : ((56 : Int) + i).toNat = 56 + i := by omega
        have e64 : ((64 : Int) + i).toNat = 64 + i := by omega
        have e72 : ((72 : Int) + i).toNat = 72 + i := by omega
        rw [e56, e64, e72, e 180 i (by unfold scr; omega), e 180 (56 + i) (by unfold scr; omega), e 180 (64 + i) (by unfold scr; omega), e 180 (72 + i) (by unfold scr; omega), e 175 i (by unfold scr; omega)]
        refine ⟨fun _ => ⟨fun z => ?_, ?_, ?_, ?_, fun z => ?_, ?_, fun z => ?_, fun z => ?_⟩, fun z => absurd z (by decide)⟩
        · have : q = 7 := by omega
          subst this
          have e5 : M1 174 5 = M 174 5 := e 174 5 (by unfold scr; omega)
          refine sq_isOffice (s := 0) hM (by decide) (by omega) (by rw [e5]; exact a6) (Tn_fin hT1 hi) ⟨_, _, rfl, ?_⟩
          rw [ef, e5]
          have h1 : Q (S, M1, some (.inl (if mf M 0 i < 0 ∨ (M 174 5).toNat.testBit (mf M 0 i).toNat = true then 1 else 0))) := h0
          split at h1
          · rename_i y; rw [if_pos y]; exact ⟨fun z => absurd z (by decide), fun _ => h1⟩
          · rename_i y; rw [if_neg y]; exact ⟨fun _ => h1, fun z => absurd rfl z⟩
        · rintro rfl; exact ⟨by omega, h0⟩
        · rintro rfl; exact ⟨by omega, h0⟩
        · rintro rfl; exact ⟨by unfold inR; omega, by omega, h0⟩
        · subst z
          have h1 : Q (S, M1, some (.inl (M 13 i))) := h0
          refine ⟨by unfold inR; omega, by omega, fun y => ⟨by unfold inR; omega, by omega, by unfold inR; omega, ?_⟩, fun y => ?_⟩
          · have : M 180 (64 + i) - 1 = M 13 i := by omega
            rw [this]; exact h1
          · have : M 13 i = -4 := by omega
            rw [this] at h1; exact h1
        · rintro rfl; exact ⟨by unfold inR; omega, by omega, h0⟩
        · subst z
          refine sq_aheadOf (s := 0) hM (by decide) hT1.2.1.2.1 hn8 (Tn_mN hT1) hi ⟨_, _, rfl, ?_⟩
          rw [lcnt_congr n' ek, ek i hi]
          exact h0
        · subst z
          refine sq_morning (s := 0) hM (by decide) (Tn_bnd hT1) (Tn_mN hT1) (fun M' hm hg => ⟨_, _, rfl, fun _ => ⟨by omega, ?_⟩, fun y => ?_⟩)
          · rw [hg i hi]
            unfold mget
            rw [lsum_congr n' (fun j hj => ⟨ek j hj, e 175 j (by unfold scr; omega)⟩), ek i hi, e 175 i (by unfold scr; omega), e 174 1 (by unfold scr; omega)]
            exact h M' (fun q k hq => by rw [hm q (by unfold scr at hq; omega)])
          · have := lfull_in (K := mK M1 0) (W := M1 175) (goods := M1 174 1) (n := n') n'
            omega
    · refine Sim.query hR (-1) (fun Q h => ?_) (fun M1 s1 hR1 Q h => ?_)
      · apply r_X8_person_0 hS
        refine sp_isPerson hS hn ⟨_, _, rfl, ?_⟩
        rw [if_pos hp]
        refine ⟨fun _ => ⟨fun _ => h M (Same.refl M), ?_, ?_, ?_, ?_, ?_, ?_, ?_, ?_⟩, fun z => absurd z (by decide)⟩ <;> (intro z; omega)
      · apply r_X9_person_0 hM
        refine sq_isPerson hM ((s1 174 0 (by unfold scr; omega)).trans hn2) hn8 ⟨_, _, rfl, ?_⟩
        rw [if_pos hp]
        refine ⟨fun z => absurd z (by decide), fun _ => sq_in hM ⟨_, _, rfl, ?_⟩⟩
        rw [if_neg hq]
        exact ⟨fun z => absurd rfl z, fun _ => h M1 (Same.refl M1)⟩
  · refine Sim.query hR (-1) (fun Q h => ?_) (fun M1 s1 hR1 Q h => ?_)
    · apply r_X8_person_0 hS
      refine sp_isPerson hS hn ⟨_, _, rfl, ?_⟩
      rw [if_neg hp]
      exact ⟨fun z => absurd rfl z, fun _ => h M (Same.refl M)⟩
    · apply r_X9_person_0 hM
      refine sq_isPerson hM ((s1 174 0 (by unfold scr; omega)).trans hn2) hn8 ⟨_, _, rfl, ?_⟩
      rw [if_neg hp]
      exact ⟨fun _ => h M1 (Same.refl M1), fun z => absurd rfl z⟩
end Ops7
