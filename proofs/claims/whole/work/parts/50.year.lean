/-! newYear -/
theorem Tn_TT {M : Mem} {n : Nat} (h : Tn M 8 0 n) : TT M n := (TT_iff M n).mp h.1
section Year
variable {S : Shp} {M : Mem} {Q : Res → Prop}
theorem yearC_loop (hS : KC S) {n : Nat} (hn : M 8 0 = n) (hn8 : n ≤ 8) (hb : ∀ i, i < n → 0 ≤ M 14 i ∧ M 14 i ≤ 1) (h : ∀ M', (∀ q, q ≠ 14 → M' q = M q) → (∀ i, i < n → M' 14 i = 0) → Q (S, M', some (.inl (sumB (fun _ => true) (M 14) n)))) : ∀ (d k : Nat) (Mk : Mem), k + d = n → (∀ q, q ≠ 14 → Mk q = M q) → (∀ i, i < k → Mk 14 i = 0) → (∀ i, k ≤ i → Mk 14 i = M 14 i) → En 111 9 [some (.inr (.inr 5)), some (.inl (sumB (fun _ => true) (M 14) k)), some (.inl (k : Int))] [] S Mk Q := by
  intro d
  induction d with
  | zero =>
    intro k Mk hk f1 f2 f3
    have e : k = n := by omega
    subst e
    apply r_X8_newYear_9 hS
    rw [f1 8 (by decide), hn]
    exact ⟨fun _ => h Mk f1 f2, fun z => by omega⟩
  | succ d ih =>
    intro k Mk hk f1 f2 f3
    apply r_X8_newYear_9 hS
    rw [f1 8 (by decide), hn, Int.toNat_natCast, f3 k (Nat.le_refl k)]
    have b := hb k (by omega)
    have s := sumB_01 (p := fun _ => true) (V := M 14) (m := k) (fun j hj => hb j (by omega))
    have ek : ((k : Int) + 1) = ((k + 1 : Nat) : Int) := by omega
    refine ⟨fun z => by omega, fun _ => ⟨by omega, by unfold inR; omega, by omega, by unfold inR; omega, ?_⟩⟩
    rw [ek]
    have nx := ih (k + 1) (up2 Mk 14 k 0) (by omega) (fun q hq => by rw [up2_row _ _ _ _ hq, f1 q hq]) (fun i hi => ?_) (fun i hi => ?_)
    · rw [sumB, if_pos rfl] at nx
      exact nx
    · rw [up2_any]
      by_cases hik : i = k
      · rw [if_pos ⟨rfl, hik⟩]
      · rw [if_neg (by omega)]; exact f2 i (by omega)
    · rw [up2_any, if_neg (by omega)]; exact f3 i (by omega)
theorem yearM_loop (hM : KM S) (hb : ∀ i, i < 8 → 0 ≤ M 180 (72 + i) ∧ M 180 (72 + i) ≤ 1) (h : ∀ M', (∀ q, q ≠ 180 → M' q = M q) → (∀ i, i < 8 → M' 180 (72 + i) = 0) → (∀ i, (i < 72 ∨ 80 ≤ i) → M' 180 i = M 180 i) → Q (S, M', some (.inl (sumB (fun _ => true) (fun i => M 180 (72 + i)) 8)))) : ∀ (d k : Nat) (Mk : Mem), k + d = 8 → (∀ q, q ≠ 180 → Mk q = M q) → (∀ i, i < k → Mk 180 (72 + i) = 0) → (∀ i, (i < 72 ∨ 72 + k ≤ i) → Mk 180 i = M 180 i) → En 187 6 [some (.inr (.inr 173)), some (.inl (sumB (fun _ => true) (fun i => M 180 (72 + i)) k)), some (.inl (k : Int))] [] S Mk Q := by
  intro d
  induction d with
  | zero =>
    intro k Mk hk f1 f2 f3
    have e : k = 8 := by omega
    subst e
    apply r_X9_newYear_6 hM
    exact ⟨fun _ => h Mk f1 f2 (fun i hi => f3 i (by omega)), fun z => by omega⟩
  | succ d ih =>
    intro k Mk hk f1 f2 f3
    apply r_X9_newYear_6 hM
    have e1 : ((72 : Int) + k).toNat = 72 + k := by omega
    rw [e1, f3 (72 + k) (by omega)]
    have b := hb k (by omega)
    have s := sumB_01 (p := fun _ => true) (V := fun i => M 180 (72 + i)) (m := k) (fun j hj => hb j (by omega))
    have ek : ((k : Int) + 1) = ((k + 1 : Nat) : Int) := by omega
    refine ⟨fun z => by omega, fun _ => ⟨by unfold inR; omega, by omega, by unfold inR; omega, by unfold inR; omega, by omega, by unfold inR; omega, ?_⟩⟩
    rw [ek]
    have nx := ih (k + 1) (up2 Mk 180 (72 + k) 0) (by omega) (fun q hq => by rw [up2_row _ _ _ _ hq, f1 q hq]) (fun i hi => ?_) (fun i hi => ?_)
    · rw [sumB, if_pos rfl] at nx
      exact nx
    · rw [up2_any]
      by_cases hik : i = k
      · rw [if_pos ⟨rfl, by omega⟩]
      · rw [if_neg (by omega)]; exact f2 i (by omega)
    · rw [up2_any, if_neg (by omega)]; exact f3 i (by omega)
theorem sumB_tail {V : Nat → Int} {n : Nat} : ∀ d, (∀ i, n ≤ i → i < n + d → V i = 0) → sumB (fun _ => true) V (n + d) = sumB (fun _ => true) V n := by
  intro d
  induction d with
  | zero => intro _; rfl
  | succ d ih =>
    intro h
    rw [← Nat.add_assoc, sumB, if_pos rfl, ih (fun i h1 h2 => h i h1 (by omega)), h (n + d) (by omega) (by omega), Int.add_zero]
theorem sim_newYear (hS : KC S) (hM : KM S) (hR : Rel M) : Sim S M 111 187 [] := by
  obtain ⟨n, hT, hU, hrest⟩ := id hR
  have hu := Rel_UO hU
  have hn : M 8 0 = n := hT.2.1.1
  obtain ⟨t0, t1, t2, t3, t4, t5, t6, t7, t8, t9, t10⟩ := Tn_TT hT
  have v6 : ∀ i, i < 8 → 0 ≤ M 180 (72 + i) ∧ M 180 (72 + i) ≤ 1 := fun i hi => by have := (t6 i hi).2.1; omega
  have e6 : ∀ i, i < n → M 14 i = M 180 (72 + i) := fun i hi => (t6 i (by omega)).1 hi
  have es : sumB (fun _ => true) (M 14) n = sumB (fun _ => true) (fun i => M 180 (72 + i)) 8 := by
    rw [sumB_eq n e6]
    obtain ⟨d, hd⟩ : ∃ d, 8 = n + d := ⟨8 - n, by omega⟩
    rw [hd, sumB_tail d (fun i h1 h2 => (t6 i (by omega)).2.2 h1)]
  show Ca 111 _ S M _
  apply r_X8_newYear_0 hS
  refine sp_push hS hu.1 hu.2.1 (fun M1 pu f1 => ⟨_, rfl, ?_⟩)
  have m14 : M1 14 = M 14 := f1 14 (by decide)
  refine yearC_loop (M := M1) hS (by rw [f1 8 (by decide)]; exact hn) t0 (fun i hi => by rw [m14, e6 i hi]; exact v6 i (by omega)) (fun M2 f2 z2 => ⟨_, _, rfl, ?_⟩) n 0 M1 (by omega) (fun _ _ => rfl) (fun i hi => absurd hi (by omega)) (fun _ _ => rfl)
  rw [m14, es]
  have b172 : M2 172 = M 172 := by rw [f2 172 (by decide), f1 172 (by decide)]
  have b180 : M2 180 = M 180 := by rw [f2 180 (by decide), f1 180 (by decide)]
  apply r_X9_newYear_0 hM
  refine sq_known hM (by rw [b172]; exact hu.2.2) (fun M3 kn f3 => ⟨_, rfl, ?_⟩)
  have s3 : ∀ k, k < 510 → M3 180 k = M 180 k := fun k hk => by rw [f3.2.2 k hk, b180]
  refine yearM_loop (M := M3) hM (fun i hi => by rw [s3 _ (by omega)]; exact v6 i hi) (fun M4 g1 z4 g3 => ⟨M4, ?_, ?_⟩) 8 0 M3 rfl (fun _ _ => rfl) (fun i hi => absurd hi (by omega)) (fun _ _ => rfl)
  · rw [sumB_eq 8 (fun i hi => s3 (72 + i) (by omega))]
  · have E : ∀ q, q ≠ 14 → ¬ (30 ≤ q ∧ q ≤ 119) → q ≠ 172 → q ≠ 180 → M4 q = M q := fun q q1 q3 q4 q5 => by rw [g1 q q5, f3.1 q q4 q5, f2 q q1, f1 q q3]
    have s1 : ∀ k, k < 170 → (k < 72 ∨ 80 ≤ k) → M4 180 k = M 180 k := fun k hk hk2 => by rw [g3 k hk2, s3 k (by omega)]
    refine Rel_mut ⟨hT, hU, hrest⟩ pu f1 (fun q hq => f2 q (by omega)) kn f3 g1 (fun k hk => g3 k (by omega)) ⟨(TT_iff M4 n).mpr ⟨t0, fun i hi => ?_, fun i k hi hk => ?_, fun i hi => ?_, ?_, fun i hi => ?_, fun i hi => ?_, fun i j hi hj => ?_, fun z hz => ?_, ?_, fun r hr' => ?_⟩, TC_mem (E 8 (by decide) (by decide) (by decide) (by decide)) (E 11 (by decide) (by decide) (by decide) (by decide)) (E 18 (by decide) (by decide) (by decide) (by decide)) (E 174 (by decide) (by decide) (by decide) (by decide)) (E 175 (by decide) (by decide) (by decide) (by decide)) (E 179 (by decide) (by decide) (by decide) (by decide)) hT⟩
    · rw [E 9 (by decide) (by decide) (by decide) (by decide), s1 i (by omega) (by omega)]; exact t1 i hi
    · rw [s1 i (by omega) (by omega)] at hk
      have := (t1 i hi).2
      rw [E 10 (by decide) (by decide) (by decide) (by decide), s1 _ (by omega) (by omega)]; exact t2 i k hi hk
    · rw [E 12 (by decide) (by decide) (by decide) (by decide), s1 _ (by omega) (by omega)]; exact t3 i hi
    · rw [sumB_eq (V := fun i => M 180 (56 + i)) n (fun k hk => s1 _ (by omega) (by omega))]; exact t4
    · rw [E 13 (by decide) (by decide) (by decide) (by decide), s1 _ (by omega) (by omega)]; exact t5 i hi
    · refine ⟨fun hin => ?_, Or.inl (z4 i hi), fun _ => z4 i hi⟩
      rw [z4 i hi, g1 14 (by decide), f3.1 14 (by decide) (by decide), z2 i hin]
    · rw [E 15 (by decide) (by decide) (by decide) (by decide), s1 _ (by omega) (by omega)]; exact t7 i j hi hj
    · rw [E 16 (by decide) (by decide) (by decide) (by decide), s1 _ (by omega) (by omega)]; exact t8 z hz
    · refine ⟨fun z hz => ?_, fun z w hz hw e => ?_⟩
      · show 0 ≤ M4 180 (144 + z) ∧ M4 180 (144 + z) < 26
        rw [s1 _ (by omega) (by omega)]; exact t9.1 z hz
      · have e' : M4 180 (144 + z) = M4 180 (144 + w) := e
        rw [s1 _ (by omega) (by omega), s1 _ (by omega) (by omega)] at e'
        exact t9.2 z w hz hw e'
    · rw [E 17 (by decide) (by decide) (by decide) (by decide), E 16 (by decide) (by decide) (by decide) (by decide)]; exact t10 r hr'
end Year
