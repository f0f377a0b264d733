/-! towns that have been: push, known -/
/-- slots of undoable in order -/
def UO (M : Mem) : Prop := (∀ k, k < 8 → ∃ t, t ∈ undoT ∧ M 31 k = ((t + 1 : Nat) : Int)) ∧ ∀ a b, a < 8 → b < 8 → M 31 a = M 31 b → a = b
def PU (M M' : Mem) : Prop := ∃ h : Nat, M 30 1 = h ∧ h ≤ 8 ∧ (h < 8 → M' 30 1 = (h : Int) + 1 ∧ (∀ k, k < 8 → M' 31 k = M 31 k) ∧ ∀ k t, k < 8 → M 31 k = ((t + 1 : Nat) : Int) → ∀ j, j ≤ 10 → ∀ i, i < tlen j → M' (t + j) i = if k = h then M (8 + j) i else M (t + j) i) ∧ (h = 8 → M' 30 1 = 8 ∧ (∀ k, k < 7 → M' 31 k = M 31 (k + 1)) ∧ M' 31 7 = M 31 0 ∧ ∀ k t, k < 8 → M 31 k = ((t + 1 : Nat) : Int) → ∀ j, j ≤ 10 → ∀ i, i < tlen j → M' (t + j) i = if k = 0 then M (8 + j) i else M (t + j) i)
theorem undoT_apart : ∀ t, t ∈ undoT → ∀ o, o ∈ undoT → t ≠ o → t + 11 ≤ o ∨ o + 11 ≤ t := by decide
theorem PU_keep {M M1 M2 : Mem} (h : PU M M1) (hu : UO M) (e : ∀ q, 30 ≤ q ∧ q ≤ 119 → M2 q = M1 q) : PU M M2 := by
  obtain ⟨h, a, b, c, d⟩ := h
  have tt : ∀ k t, k < 8 → M 31 k = ((t + 1 : Nat) : Int) → 32 ≤ t ∧ t ≤ 109 := fun k t hk he => by
    obtain ⟨t', ht', e'⟩ := hu.1 k hk
    have := undoT_in t' ht'
    rw [he] at e'
    omega
  refine ⟨h, a, b, fun q => ?_, fun q => ?_⟩
  · obtain ⟨c1, c2, c3⟩ := c q
    refine ⟨by rw [e 30 (by omega)]; exact c1, fun k hk => by rw [e 31 (by omega)]; exact c2 k hk, fun k t hk ht j hj i hi => ?_⟩
    have := tt k t hk ht
    rw [e (t + j) (by omega)]; exact c3 k t hk ht j hj i hi
  · obtain ⟨d1, d2, d3, d4⟩ := d q
    refine ⟨by rw [e 30 (by omega)]; exact d1, fun k hk => by rw [e 31 (by omega)]; exact d2 k hk, by rw [e 31 (by omega)]; exact d3, fun k t hk ht j hj i hi => ?_⟩
    have := tt k t hk ht
    rw [e (t + j) (by omega)]; exact d4 k t hk ht j hj i hi
section Undo1
variable {S : Shp} {M : Mem} {Q : Res → Prop}
theorem drop_loop (hS : KC S) (hu : UO M) {t1 : Nat} (ht1 : t1 ∈ bx_tw) (h : ∀ M', (∀ q, q ≠ 30 → q ≠ 31 → M' q = M q) → M' 30 1 = 7 → (∀ k, k < 7 → M' 31 k = M 31 (k + 1)) → M' 31 7 = ((t1 + 1 : Nat) : Int) → Q (S, M', none)) : ∀ (d k : Nat) (Mk : Mem), k + d = 8 → 1 ≤ k → (∀ q, q ≠ 31 → Mk q = M q) → (∀ j, j < k - 1 → Mk 31 j = M 31 (j + 1)) → (∀ j, k - 1 ≤ j → Mk 31 j = M 31 j) → En 35 7 [some (.inr (.inr (30 + 1))), some (.inr (.inr (t1 + 1))), some (.inl (k : Int))] [] S Mk Q := by
  have e8 : mm_n 30 = 8 := rfl
  intro d
  induction d with
  | zero =>
    intro k Mk hk h1 f1 f2 f3
    have e : k = 8 := by omega
    subst e
    apply r_X4_dropOldest_7 hS (Or.inl rfl) ht1
    rw [e8]
    refine ⟨fun _ => ⟨by decide, by decide, by decide, ?_⟩, fun z => by omega⟩
    have e7 : ((((8 : Nat) : Int)) - 1).toNat = 7 := by decide
    rw [e7]
    refine h _ (fun q q1 q2 => ?_) ?_ (fun k hk => ?_) ?_
    · rw [up2_row _ _ _ _ (by omega), up2_row _ _ _ _ (by omega), f1 q q2]
    · rw [up2_get]; rfl
    · rw [up2_row _ _ _ _ (by decide), up2_any, if_neg (by omega), f2 k (by omega)]
    · rw [up2_row _ _ _ _ (by decide), up2_get]
  | succ d ih =>
    intro k Mk hk h1 f1 f2 f3
    apply r_X4_dropOldest_7 hS (Or.inl rfl) ht1
    rw [e8, Int.toNat_natCast]
    obtain ⟨t5, ht5, e5⟩ := hu.1 k (by omega)
    have ek : ((k : Int) + 1) = ((k + 1 : Nat) : Int) := by omega
    have ek1 : ((k : Int) - 1).toNat = k - 1 := by omega
    refine ⟨fun z => by omega, fun _ => ⟨by unfold inR; omega, by omega, t5, ?_, (undoT_in t5 ht5).2.2, by omega, by unfold inR; omega, ?_⟩⟩
    · show (Mk 31 k).toNat = t5 + 1
      rw [f3 k (by omega), e5]; omega
    · rw [ek, ek1]
      refine ih (k + 1) _ (by omega) (by omega) (fun q hq => ?_) (fun j hj => ?_) (fun j hj => ?_)
      · show up2 Mk 31 _ _ q = _
        rw [up2_row _ _ _ _ hq, f1 q hq]
      · show up2 Mk 31 (k - 1) _ 31 j = _
        rw [up2_any]
        by_cases hjk : j = k - 1
        · rw [if_pos ⟨rfl, hjk⟩, ← e5]; congr 1; omega
        · rw [if_neg (by omega), f2 j (by omega)]
      · show up2 Mk 31 (k - 1) _ 31 j = _
        rw [up2_any, if_neg (by omega), f3 j (by omega)]
theorem sp_drop (hS : KC S) (hu : UO M) (h : ∀ M', (∀ q, q ≠ 30 → q ≠ 31 → M' q = M q) → M' 30 1 = 7 → (∀ k, k < 7 → M' 31 k = M 31 (k + 1)) → M' 31 7 = M 31 0 → Q (S, M', none)) : Ca 35 [.inr (.inr (30 + 1))] S M Q := by
  apply r_X4_dropOldest_0 hS (Or.inl rfl)
  obtain ⟨t, ht, e⟩ := hu.1 0 (by decide)
  refine ⟨by decide, t, ?_, (undoT_in t ht).2.2, drop_loop hS hu (undoT_in t ht).2.2 (fun M' a b c d => h M' a b c (d.trans e.symm)) 7 1 M rfl (by decide) (fun _ _ => rfl) (fun j hj => absurd hj (by omega)) (fun _ _ => rfl)⟩
  show (M 31 0).toNat = t + 1
  rw [e]; omega
theorem sp_push (hS : KC S) (hu : UO M) (hh : 0 ≤ M 30 1 ∧ M 30 1 ≤ 8) (h : ∀ M', PU M M' → (∀ q, ¬ (30 ≤ q ∧ q ≤ 119) → M' q = M q) → Q (S, M', none)) : Ca 33 [.inr (.inr 31), .inr (.inr 9)] S M Q := by
  obtain ⟨g, hg⟩ : ∃ g : Nat, M 30 1 = (g : Int) := ⟨(M 30 1).toNat, by omega⟩
  have e8 : mm_n 30 = 8 := rfl
  refine r_X4_push_0 (u := 30) hS (Or.inl rfl) ?_
  refine r_X4_isFull_0 (u := 30) hS (Or.inl rfl) ?_
  rw [e8]
  refine ⟨fun z => ⟨_, _, rfl, fun _ => ⟨by omega, ?_⟩, fun z => absurd rfl z⟩, fun z => ⟨_, _, rfl, fun z => absurd z (by decide), fun _ => ?_⟩⟩
  · obtain ⟨t, ht, e⟩ := hu.1 g (by omega)
    have ti := undoT_in t ht
    refine ⟨t, ?_, ti.2.2, sp_copyFrom (o := 8) hS ti.2.2 (by decide) (by omega) (fun M' hc => ⟨_, rfl, ?_, h _ ⟨g, hg, by omega, fun _ => ⟨?_, fun k hk => ?_, fun k t' hk ht' j hj i hi => ?_⟩, fun w => by omega⟩ (fun q hq => ?_)⟩)⟩
    · show (M 31 (M 30 1).toNat).toNat = t + 1
      rw [hg, Int.toNat_natCast, e]; omega
    · rw [hc.1 30 (by omega), hg]; unfold inR; omega
    · rw [up2_get, hc.1 30 (by omega), hg]
    · rw [up2_row _ _ _ _ (by decide), hc.1 31 (by omega)]
    · obtain ⟨t2, ht2, e2⟩ := hu.1 k hk
      have : t2 = t' := by rw [ht'] at e2; omega
      subst this
      have ti2 := undoT_in t2 ht2
      rw [up2_row _ _ _ _ (by omega)]
      by_cases hkg : k = g
      · have : t2 = t := by rw [hkg, e] at ht'; omega
        subst this
        rw [if_pos hkg]
        exact hc.2 j hj i hi
      · have hne : t2 ≠ t := fun w => hkg (hu.2 k g hk (by omega) (by rw [ht', e, w]))
        have := undoT_apart t2 ht2 t ht hne
        rw [if_neg hkg, hc.1 (t2 + j) (by omega)]
    · rw [up2_row _ _ _ _ (by omega), hc.1 q (by omega)]
  · have hg8 : g = 8 := by omega
    refine sp_drop hS hu (fun M1 f1 f2 f3 f4 => ⟨_, rfl, by rw [f2]; decide, ?_⟩)
    obtain ⟨t, ht, e⟩ := hu.1 0 (by decide)
    have ti := undoT_in t ht
    refine ⟨t, ?_, ti.2.2, sp_copyFrom (o := 8) hS ti.2.2 (by decide) (by omega) (fun M' hc => ⟨_, rfl, ?_, h _ ⟨g, hg, by omega, fun w => by omega, fun _ => ⟨?_, fun k hk => ?_, ?_, fun k t' hk ht' j hj i hi => ?_⟩⟩ (fun q hq => ?_)⟩)⟩
    · show (M1 31 (M1 30 1).toNat).toNat = t + 1
      rw [f2]
      show (M1 31 7).toNat = t + 1
      rw [f4, e]; omega
    · rw [hc.1 30 (by omega), f2]; decide
    · rw [up2_get, hc.1 30 (by omega), f2]; rfl
    · rw [up2_row _ _ _ _ (by decide), hc.1 31 (by omega), f3 k hk]
    · rw [up2_row _ _ _ _ (by decide), hc.1 31 (by omega), f4]
    · obtain ⟨t2, ht2, e2⟩ := hu.1 k hk
      have : t2 = t' := by rw [ht'] at e2; omega
      subst this
      have ti2 := undoT_in t2 ht2
      rw [up2_row _ _ _ _ (by omega)]
      by_cases hkg : k = 0
      · have : t2 = t := by rw [hkg, e] at ht'; omega
        subst this
        rw [if_pos hkg, hc.2 j hj i hi, f1 (8 + j) (by omega) (by omega)]
      · have hne : t2 ≠ t := fun w => hkg (hu.2 k 0 hk (by omega) (by rw [ht', e, w]))
        have := undoT_apart t2 ht2 t ht hne
        rw [if_neg hkg, hc.1 (t2 + j) (by omega), f1 (t2 + j) (by omega) (by omega)]
    · rw [up2_row _ _ _ _ (by omega), hc.1 q (by omega), f1 q (by omega) (by omega)]
/-- what the reference's known does -/
def KN (M M' : Mem) : Prop := ∃ h : Nat, M 172 11 = h ∧ h ≤ 8 ∧ (h < 8 → M' 172 11 = (h : Int) + 1 ∧ ∀ k, k < 8 → ∀ i, i < 170 → M' 180 (170 * (3 + k) + i) = if k = h then M 180 i else M 180 (170 * (3 + k) + i)) ∧ (h = 8 → M' 172 11 = 8 ∧ ∀ k, k < 8 → ∀ i, i < 170 → M' 180 (170 * (3 + k) + i) = if k = 7 then M 180 i else M 180 (170 * (3 + (k + 1)) + i))
def KNf (M M' : Mem) : Prop := (∀ q, q ≠ 172 → q ≠ 180 → M' q = M q) ∧ (∀ k, k ≠ 11 → M' 172 k = M 172 k) ∧ ∀ k, k < 510 → M' 180 k = M 180 k
theorem known_loop (hM : KM S) (h8 : M 172 11 = 8) (h : ∀ M', KN M M' → KNf M M' → Q (S, M', none)) : ∀ (d k : Nat) (Mk : Mem), k + d = 7 → (∀ q, q ≠ 180 → Mk q = M q) → (∀ j, j < k → ∀ i, i < 170 → Mk 180 (170 * (3 + j) + i) = M 180 (170 * (3 + (j + 1)) + i)) → (∀ i, 170 * (3 + k) ≤ i ∨ i < 510 → Mk 180 i = M 180 i) → En 171 6 [some (.inr (.inr 173)), some (.inl (((3 + k : Nat)) : Int))] [] S Mk Q := by
  intro d
  induction d with
  | zero =>
    intro k Mk hk f1 f2 f3
    have e : k = 7 := by omega
    subst e
    apply r_X9_known_6 hM
    have e11 : Mk 172 11 = 8 := by rw [f1 172 (by decide)]; exact h8
    rw [e11]
    refine ⟨fun _ => ⟨by decide, by rw [up2_get]; decide, ?_⟩, fun z => by omega⟩
    rw [up2_get]
    refine sq_copies (a := 0) (b := 10) hM (by decide) (by decide) (by decide) (fun M' hc => ⟨_, rfl, ?_, h _ ⟨8, h8, by decide, fun w => absurd w (by decide), fun _ => ⟨?_, fun k hk i hi => ?_⟩⟩ ⟨fun q q1 q2 => ?_, fun k hk => ?_, fun k hk => ?_⟩⟩)
    · rw [hc.1 172 (by decide), up2_get]; decide
    · rw [up2_get, hc.1 172 (by decide), up2_get]; rfl
    · rw [up2_row _ _ _ _ (by decide)]
      by_cases hk7 : k = 7
      · subst hk7
        rw [if_pos rfl]
        have := hc.2.1 i hi
        rw [up2_row _ _ _ _ (by decide), Nat.mul_zero, Nat.zero_add] at this
        rw [show 170 * (3 + 7) + i = 170 * 10 + i from rfl, this, f3 i (by omega)]
      · rw [if_neg hk7, hc.2.2 _ (by omega), up2_row _ _ _ _ (by decide)]
        exact f2 k (by omega) i hi
    · rw [up2_row _ _ _ _ q1, hc.1 q q2, up2_row _ _ _ _ q1, f1 q q2]
    · rw [up2_any, if_neg (by omega), hc.1 172 (by decide), up2_any, if_neg (by omega), f1 172 (by decide)]
    · rw [up2_row _ _ _ _ (by decide), hc.2.2 k (by omega), up2_row _ _ _ _ (by decide), f3 k (by omega)]
  | succ d ih =>
    intro k Mk hk f1 f2 f3
    apply r_X9_known_6 hM
    have e3 : ((((3 + k : Nat)) : Int) + 1) = ((3 + (k + 1) : Nat) : Int) := by omega
    refine ⟨fun z => by omega, fun _ => ⟨by unfold inR; omega, ?_⟩⟩
    rw [e3]
    refine sq_copies hM (by omega) (by omega) (by omega) (fun M' hc => ⟨_, rfl, by unfold inR; omega, ?_⟩)
    refine ih (k + 1) M' (by omega) (fun q hq => by rw [hc.1 q hq, f1 q hq]) (fun j hj i hi => ?_) (fun i hi => ?_)
    · by_cases hjk : j = k
      · subst hjk
        rw [hc.2.1 i hi, f3 _ (by omega)]
      · rw [hc.2.2 _ (by omega), f2 j (by omega) i hi]
    · rw [hc.2.2 i (by omega), f3 i (by omega)]
theorem sq_known (hM : KM S) (hh : 0 ≤ M 172 11 ∧ M 172 11 ≤ 8) (h : ∀ M', KN M M' → KNf M M' → Q (S, M', none)) : Ca 171 [.inr (.inr 173)] S M Q := by
  obtain ⟨g, hg⟩ : ∃ g : Nat, M 172 11 = (g : Int) := ⟨(M 172 11).toNat, by omega⟩
  apply r_X9_known_0 hM
  refine ⟨fun z => ⟨by unfold inR; omega, ?_⟩, fun z => known_loop hM z h 7 0 M rfl (fun _ _ => rfl) (fun j hj => absurd hj (by omega)) (fun _ _ => rfl)⟩
  have e3 : ((3 : Int) + M 172 11) = ((3 + g : Nat) : Int) := by omega
  rw [e3]
  refine sq_copies (a := 0) hM (by decide) (by omega) (by omega) (fun M' hc => ⟨_, rfl, ?_, h _ ⟨g, hg, by omega, fun _ => ⟨?_, fun k hk i hi => ?_⟩, fun w => by omega⟩ ⟨fun q q1 q2 => ?_, fun k hk => ?_, fun k hk => ?_⟩⟩)
  · rw [hc.1 172 (by decide), hg]; unfold inR; omega
  · rw [up2_get, hc.1 172 (by decide), hg]
  · rw [up2_row _ _ _ _ (by decide)]
    by_cases hkg : k = g
    · subst hkg
      rw [if_pos rfl, hc.2.1 i hi, Nat.mul_zero, Nat.zero_add]
    · rw [if_neg hkg, hc.2.2 _ (by omega)]
  · rw [up2_row _ _ _ _ q1, hc.1 q q2]
  · rw [up2_any, if_neg (by omega), hc.1 172 (by decide)]
  · rw [up2_row _ _ _ _ (by decide), hc.2.2 k (by omega)]
end Undo1
