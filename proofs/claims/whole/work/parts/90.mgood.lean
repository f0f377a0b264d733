section MGood
variable {S : Shp} {M : Mem} {Q : Res → Prop} {T : Nat → Int} {L a : Nat} {σ : Nat → Int}
abbrev KQ (S : Shp) (Q : Res → Prop) : Res → Prop := fun r => ∃ (M2 : Mem) (v3 : Int), r = (S, M2, some (.inl v3)) ∧ ((v3 = 0 → Q (S, M2, some (.inl 0))) ∧ (v3 ≠ 0 → Q (S, M2, some (.inl 1))))
theorem KQ1 (h : Q (S, M, some (.inl 1))) : KQ S Q (S, M, some (.inl 1)) := ⟨M, 1, rfl, fun z => absurd z (by decide), fun _ => h⟩
theorem KQ0 (h : Q (S, M, some (.inl 0))) : KQ S Q (S, M, some (.inl 0)) := ⟨M, 0, rfl, fun _ => h, fun z => absurd rfl z⟩
theorem it_40 (hM : KM S) {x1 : Int} (hp : Mg M T L (a + 1)) (ha : a < L) (h0 : ¬ (1 ≤ nL T L (a + 1) ∧ nL T L (a + 1) ≤ 6 ∧ sg T L (q1 T L a) = 59) → ∀ M', Ln M M' → Q (S, M', some (.inl 0))) (h1 : (1 ≤ nL T L (a + 1) ∧ nL T L (a + 1) ≤ 6 ∧ sg T L (q1 T L a) = 59) → ∀ M', Ln M M' → Mg M' T L (q1 T L a + 1) → M' 172 23 = (nL T L (a + 1) : Int) → (∀ k, k < nL T L (a + 1) → M' 188 k = T (a + 1 + k) - 97) → Ca 149 [.inr (.inr 173), .inl x1] S M' (KQ S Q)) : En 148 40 [some (.inr (.inr 173)), some (.inl x1), none] [] S M Q := by
  have hL := hp.2.1
  have l1 := nL_le (T := T) (L := L) (a := a + 1)
  have e1 : q1 T L a = a + 1 + nL T L (a + 1) := rfl
  apply r_X9_isItem_40 hM
  refine sq_isSpelt hM hp (by omega) (fun M1 n1 n2 n3 n4 => ⟨_, _, rfl, ?_⟩)
  have p1 := Mg_Ln hp n1 n2
  rw [← e1] at p1
  have no : ¬ (1 ≤ nL T L (a + 1) ∧ nL T L (a + 1) ≤ 6) → En 148 48 [some (.inr (.inr 173)), some (.inl x1), none] [] S M1 Q := fun q => by
    apply r_X9_isItem_48 hM
    apply r_X9_isItem_49 hM
    exact it_tail hM p1 (by omega) (fun _ => h0 (fun w => q ⟨w.1, w.2.1⟩) _ (n1.trans (Ln_2 _ _))) (fun z => absurd rfl z)
  by_cases n6 : nL T L (a + 1) ≤ 6
  · rw [if_pos n6, n3]
    refine ⟨fun z => absurd z (by decide), fun _ => ⟨fun z => no (by omega), fun z => ?_⟩⟩
    apply r_X9_isItem_49 hM
    refine it_tail hM p1 (by omega) (fun w => h0 (fun q => ?_) _ (n1.trans (Ln_2 _ _))) (fun _ w => h1 ⟨by omega, n6, w⟩ _ (n1.trans (Ln_2 _ _)) (Mg_Ln p1 (Ln_2 _ _) (up2_get _ _ _ _)) (by rw [up2_off _ _ _ _ (by decide)]; exact n3) (fun k hk => by rw [up2_row _ _ _ _ (by decide)]; exact n4 k hk (by omega)))
    rcases w with w | w
    · exact absurd w (by decide)
    · exact w q.2.2
  · rw [if_neg n6]
    exact ⟨fun _ => no (fun q => n6 q.2), fun z => absurd rfl z⟩
theorem it_67 (hM : KM S) {x1 : Int} {b : Nat} {v : Int} (hp : Mg M T L b) (hb : b ≤ 300) (h0 : (v < 0 ∨ sg T L b ≠ 59) → ∀ M', Ln M M' → Q (S, M', some (.inl 0))) (h1 : 0 ≤ v → sg T L b = 59 → ∀ M', Ln M M' → Mg M' T L (b + 1) → M' 187 0 = v → Ca 149 [.inr (.inr 173), .inl x1] S M' (KQ S Q)) : En 148 67 [some (.inr (.inr 173)), some (.inl x1), none] [.inl v, .inl (0 : Int), .inr (.inr 188)] S M Q := by
  apply r_X9_isItem_67 hM
  rw [show (0 : Int).toNat = 0 from rfl, up2_get]
  have p1 : Mg (up2 M 187 0 v) T L b := Mg_Ln hp (Ln_187 _ _ _) (by rw [up2_row _ _ _ _ (by decide)]; exact hp.2.2.1)
  have ln : ∀ w, Ln M (up2 (up2 M 187 0 v) 172 2 w) := fun w => (Ln_187 _ _ _).trans (Ln_2 _ _)
  refine ⟨by decide, by decide, fun z => ?_, fun z => ?_⟩
  · apply r_X9_isItem_76 hM
    exact it_tail hM p1 hb (fun _ => h0 (Or.inl z) _ (ln _)) (fun y => absurd rfl y)
  · apply r_X9_isItem_76 hM
    refine it_tail hM p1 hb (fun w => h0 (Or.inr ?_) _ (ln _)) (fun _ w => h1 z w _ (ln _) (Mg_Ln p1 (Ln_2 _ _) (up2_get _ _ _ _)) (by rw [up2_row _ _ _ _ (by decide), up2_get]))
    rcases w with w | w
    · exact absurd w (by decide)
    · exact w
theorem it_63 (hM : KM S) {x1 : Int} (hp : Mg M T L (a + 1)) (ha : a < L) (h0 : ¬ (num T L (a + 1) ∧ sg T L (a + 1 + nF T L (a + 1)) = 59) → ∀ M', Ln M M' → Q (S, M', some (.inl 0))) (h1 : (num T L (a + 1) ∧ sg T L (a + 1 + nF T L (a + 1)) = 59) → ∀ M', Ln M M' → Mg M' T L (a + 1 + nF T L (a + 1) + 1) → M' 187 0 = nV T L (a + 1) → Ca 149 [.inr (.inr 173), .inl x1] S M' (KQ S Q)) : En 148 63 [some (.inr (.inr 173)), some (.inl x1), none] [.inl (0 : Int), .inr (.inr 188)] S M Q := by
  have hL := hp.2.1
  have l1 := nF_le (T := T) (L := L) (a := a + 1)
  apply r_X9_isItem_63 hM
  refine sq_number hM hp (by omega) (fun M1 n1 n2 n3 n4 n5 => ⟨_, _, rfl, ?_⟩)
  have p1 := Mg_Ln hp n1 n2
  by_cases c : num T L (a + 1)
  · rw [if_pos c]
    have v := nV_in c.1
    refine it_67 hM p1 (by omega) (fun w M' l => h0 (fun q => ?_) _ (n1.trans l)) (fun _ w M' l p e => h1 ⟨c, w⟩ _ (n1.trans l) p e)
    rcases w with w | w
    · omega
    · exact w q.2
  · rw [if_neg c]
    exact it_67 hM p1 (by omega) (fun w M' l => h0 (fun q => c q.1) _ (n1.trans l)) (fun w => absurd w (by decide))
theorem Rd_174 {M M' : Mem} (r : ∀ q, q ≠ 174 → M' q = M q) (r4 : ∀ k, k < 6 → M' 174 k = M 174 k) : Rd M M' := ⟨fun q _ a _ _ _ _ _ _ _ => r q a, fun k _ _ => by rw [r 172 (by decide)], r4, fun k _ => by rw [r 175 (by decide)], fun k _ => by rw [r 179 (by decide)]⟩
theorem Mg_rows {M M' : Mem} {T : Nat → Int} {L a : Nat} (h : Mg M T L a) (h2 : M' 172 = M 172) (h3 : M' 173 = M 173) : Mg M' T L a := by unfold Mg; rw [h2, h3]; exact h
/-- a number is put -/
theorem gd_num (hM : KM S) {x1 : Int} {c j : Nat} {most v : Int} (hx : x1 = 103 ∧ c = 7 ∧ j = 1 ∧ most = 99 ∨ x1 = 119 ∧ c = 8 ∧ j = 2 ∧ most = 25 ∨ x1 = 99 ∧ c = 9 ∧ j = 3 ∧ most = 9) (hv : M 187 0 = v) (hb : 0 ≤ v ∧ v ≤ 99) (hc : MR M σ) (h1 : v ≤ most → ∀ M', (∀ q, q ≠ 174 → M' q = M q) → Rd M M' → MR M' (up1 σ j v) → Q (S, M', some (.inl 1))) (h0 : most < v → ∀ M', Rd M M' → Q (S, M', some (.inl 0))) : Ca 149 [.inr (.inr 173), .inl x1] S M (KQ S Q) := by
  have r : ∀ c, ∀ q, q ≠ 174 → up2 M 174 c v q = M q := fun c q hq => up2_row _ _ _ _ hq
  have rd : ∀ c, 6 ≤ c → Rd M (up2 M 174 c v) := fun c h6 => Rd_174 (r c) (fun k hk => up2_off _ _ _ _ (by omega))
  have hvr : ∀ c, (up2 M 174 c v) 187 0 = v := fun c => by rw [up2_row _ _ _ _ (by decide)]; exact hv
  apply r_X9_isGood_0 hM
  rcases hx with ⟨e1, e2, e3, e4⟩ | ⟨e1, e2, e3, e4⟩ | ⟨e1, e2, e3, e4⟩
  · subst e1 e2 e3 e4
    rw [show (0 : Int).toNat = 0 from rfl, show (7 : Int).toNat = 7 from rfl, hv]
    exact ⟨fun z => absurd z (by decide), fun _ => ⟨by decide, by decide, KQ1 (h1 (by omega) _ (r 7) (rd 7 (by decide)) (MR_up hc (Or.inl ⟨rfl, rfl⟩) (r 7) (fun k => up2_at _ _ _ _ _)))⟩, fun z => absurd z (by decide), fun z => absurd z (by decide), fun z => absurd z (by decide), fun z => absurd z (by decide), fun _ z => absurd rfl z⟩
  · subst e1 e2 e3 e4
    rw [show (0 : Int).toNat = 0 from rfl, show (8 : Int).toNat = 8 from rfl, hv, hvr 8]
    exact ⟨fun z => absurd z (by decide), fun z => absurd z (by decide), fun z => absurd z (by decide), fun z => absurd z (by decide), fun z => absurd z (by decide), fun _ => ⟨by decide, by decide, by decide, fun z => KQ0 (h0 (by omega) _ (rd 8 (by decide))), fun z => KQ1 (h1 (by omega) _ (r 8) (rd 8 (by decide)) (MR_up hc (Or.inr (Or.inl ⟨rfl, rfl⟩)) (r 8) (fun k => up2_at _ _ _ _ _)))⟩, fun _ _ _ _ _ z => absurd rfl z⟩
  · subst e1 e2 e3 e4
    rw [show (0 : Int).toNat = 0 from rfl, show (9 : Int).toNat = 9 from rfl, hv, hvr 9]
    exact ⟨fun _ => ⟨by decide, by decide, by decide, fun z => KQ0 (h0 (by omega) _ (rd 9 (by decide))), fun z => KQ1 (h1 (by omega) _ (r 9) (rd 9 (by decide)) (MR_up hc (Or.inr (Or.inr (Or.inl ⟨rfl, rfl⟩))) (r 9) (fun k => up2_at _ _ _ _ _)))⟩, fun z => absurd z (by decide), fun z => absurd z (by decide), fun z => absurd z (by decide), fun z => absurd z (by decide), fun z => absurd z (by decide), fun z => absurd rfl z⟩
/-- a person is put -/
theorem gd_n (hM : KM S) {m : Nat} {v w : Int} (hv : M 187 0 = v) (hw : M 187 1 = w) (hm : m ≤ 6) (h23 : M 172 23 = (m : Int)) {f : Nat → Int} (hf : ∀ k, k < m → M 188 k = f k) (hc : MR M σ) (hs : SO σ) (h1 : v ≤ 9 → σ 0 < 8 → ∀ M', (∀ q, q ≠ 174 → q ≠ 175 → q ≠ 176 → q ≠ 177 → M' q = M q) → Rd M M' → MR M' (putN σ f (σ 0).toNat m v w) → Q (S, M', some (.inl 1))) (h0 : ¬ (v ≤ 9 ∧ σ 0 < 8) → Q (S, M, some (.inl 0))) : Ca 149 [.inr (.inr 173), .inl 110] S M (KQ S Q) := by
  apply r_X9_isGood_0 hM
  have s0 := hs.1
  obtain ⟨i, hi⟩ : ∃ i : Nat, σ 0 = (i : Int) := ⟨(σ 0).toNat, by omega⟩
  have e6 : M 174 6 = (i : Int) := by rw [hc.1.1, hi]
  rw [show (0 : Int).toNat = 0 from rfl, show (6 : Int).toNat = 6 from rfl, hv, e6]
  refine ⟨fun z => absurd z (by decide), fun z => absurd z (by decide), fun _ => ⟨by decide, fun z => KQ0 (h0 (by omega)), fun z => ⟨by decide, fun y => KQ0 (h0 (by omega)), fun y => ?_⟩⟩, fun z => absurd z (by decide), fun z => absurd z (by decide), fun z => absurd z (by decide), fun _ _ z => absurd rfl z⟩
  rw [show (σ 0).toNat = i by omega] at h1
  refine sq_isPersonPut hM (by omega) hm e6 h23 hf (fun M1 g1 g2 g3 g4 g5 => ⟨_, _, rfl, fun z => absurd z (by decide), fun _ => KQ1 (h1 (by omega) (by omega) M1 g1 ⟨fun q a b c d e _ _ _ _ => g1 q b c d e, fun k _ _ => by rw [g1 172 (by decide) (by decide) (by decide) (by decide)], fun k hk => by rw [g2, if_neg (by omega)], fun k hk => by rw [g3, if_neg (by omega)], fun k _ => by rw [g1 179 (by decide) (by decide) (by decide) (by decide)]⟩ ?_)⟩)
  obtain ⟨⟨a0, a1, a2, a3, a4, a5⟩, b1, b2, b3⟩ := hc
  have P0 : putN σ f i m v w 0 = σ 0 + 1 := if_pos rfl
  have Po : ∀ j, j ≠ 0 → j < 10 ∨ 90 ≤ j → putN σ f i m v w j = σ j := fun j h1 h2 => by unfold putN; rw [if_neg h1, if_neg (by omega), if_neg (by omega), if_neg (by omega), if_neg (by omega)]
  refine ⟨⟨by rw [g2, if_pos rfl, P0, hi], by rw [g2, if_neg (by decide), Po 1 (by decide) (by omega)]; exact a1, by rw [g2, if_neg (by decide), Po 2 (by decide) (by omega)]; exact a2, by rw [g2, if_neg (by decide), Po 3 (by decide) (by omega)]; exact a3, by rw [g2, if_neg (by decide), Po 4 (by decide) (by omega)]; exact a4, by rw [g2, if_neg (by decide), Po 5 (by decide) (by omega)]; exact a5⟩, fun j hj => ?_, fun x hx => ?_, fun k hk => ?_⟩
  · rw [P0] at hj
    rw [g5, g3, g4, hv, hw]
    unfold putN
    by_cases hji : j = i
    · subst hji
      rw [if_pos rfl, if_pos rfl, if_pos rfl, if_neg (by omega), if_pos rfl, if_neg (by omega), if_neg (by omega), if_neg (by omega), if_pos rfl, if_neg (by omega), if_neg (by omega), if_neg (by omega), if_neg (by omega), if_pos rfl]
      refine ⟨rfl, rfl, rfl, fun k hk => ?_⟩
      rw [g5, if_neg (by omega), if_pos (by omega), if_neg (by omega), if_neg (by omega), if_pos (by omega), show 20 + 6 * j + k - (20 + 6 * j) = k by omega, show 7 * j + 1 + k - (7 * j + 1) = k by omega]
    · have b := b1 j (by omega)
      have sj := hs.2.2.2.2.2.2.1 j (by omega)
      rw [if_neg (by omega), if_neg (by omega), if_neg (by omega), if_neg (by omega), if_neg (by omega), if_neg (by omega), if_neg (by omega), if_neg (by omega), if_neg (by omega), if_neg (by omega), if_neg (by omega), if_neg (by omega), if_neg (by omega), if_neg (by omega), if_neg (by omega), if_neg (by omega), if_neg (by omega), if_neg (by omega), if_neg (by omega)]
      refine ⟨b.1, b.2.1, b.2.2.1, fun k hk => ?_⟩
      rw [g5, if_neg (by omega), if_neg (by omega), if_neg (by omega), if_neg (by omega), if_neg (by omega), if_neg (by omega), if_neg (by omega)]
      exact b.2.2.2 k hk
  · rw [g1 178 (by decide) (by decide) (by decide) (by decide), Po _ (by omega) (by omega)]; exact b2 x hx
  · rw [Po 5 (by decide) (by omega)] at hk
    rw [g1 179 (by decide) (by decide) (by decide) (by decide), Po _ (by omega) (by omega), Po _ (by omega) (by omega)]; exact b3 k hk
/-- an order is put -/
theorem gd_o (hM : KM S) {m : Nat} (hm : m ≤ 6) (h23 : M 172 23 = (m : Int)) {f : Nat → Nat} (hf : ∀ k, k < m → M 188 k = (f k : Int) ∧ f k < 26) (hc : MR M σ) (hs : SO σ) (h1 : dist f m → ∀ M', (∀ q, q ≠ 178 → M' q = M q) → Rd M M' → MR M' (putO σ f m) → Q (S, M', some (.inl 1))) (h0 : ¬ dist f m → ∀ M', Rd M M' → Q (S, M', some (.inl 0))) : Ca 149 [.inr (.inr 173), .inl 111] S M (KQ S Q) := by
  have rd : ∀ M', (∀ q, q ≠ 178 → M' q = M q) → Rd M M' := fun M' r => ⟨fun q _ _ _ _ _ a _ _ _ => r q a, fun k _ _ => by rw [r 172 (by decide)], fun k _ => by rw [r 174 (by decide)], fun k _ => by rw [r 175 (by decide)], fun k _ => by rw [r 179 (by decide)]⟩
  apply r_X9_isGood_0 hM
  refine ⟨fun z => absurd z (by decide), fun z => absurd z (by decide), fun z => absurd z (by decide), fun _ => ?_, fun z => absurd z (by decide), fun z => absurd z (by decide), fun _ _ _ z => absurd rfl z⟩
  refine sq_isOrderPut hM hm h23 hf (fun hd M1 g1 g2 => ⟨_, _, rfl, Or.inr rfl, KQ1 (h1 hd M1 g1 (rd M1 g1) ?_)⟩) (fun hd M1 g1 => ⟨_, _, rfl, Or.inl rfl, KQ0 (h0 hd M1 (rd M1 g1))⟩)
  obtain ⟨a, b1, b2, b3⟩ := hc
  have o : ∀ j, j < 90 ∨ 116 ≤ j → putO σ f m j = σ j := fun j hj => if_neg (by omega)
  have s0 := hs.1
  refine ⟨?_, fun i hi => ?_, fun x hx => ?_, fun k hk => ?_⟩
  · rw [g1 174 (by decide), o 0 (by omega), o 1 (by omega), o 2 (by omega), o 3 (by omega), o 4 (by omega), o 5 (by omega)]; exact a
  · rw [o 0 (by omega)] at hi
    have b := b1 i hi
    have sj := hs.2.2.2.2.2.2.1 i hi
    rw [g1 176 (by decide), g1 175 (by decide), g1 177 (by decide), o (10 + i) (by omega), o (70 + i) (by omega), o (80 + i) (by omega)]
    exact ⟨b.1, b.2.1, b.2.2.1, fun k hk => by rw [o _ (by omega)]; exact b.2.2.2 k hk⟩
  · rw [g2 x hx]; unfold putO; rw [if_pos (by omega), show 90 + x - 90 = x by omega]
  · rw [o 5 (by omega)] at hk
    rw [g1 179 (by decide), o _ (by omega), o _ (by omega)]; exact b3 k hk
/-- vowels are put -/
theorem gd_v (hM : KM S) {m : Nat} (hm : m ≤ 6) (h23 : M 172 23 = (m : Int)) {f : Nat → Nat} (hf : ∀ k, k < m → M 188 k = (f k : Int) ∧ f k < 26) (hc : MR M σ) (h1 : ∀ M', (∀ q, q ≠ 174 → M' q = M q) → Rd M M' → MR M' (up1 σ 4 (ls f m : Int)) → Q (S, M', some (.inl 1))) : Ca 149 [.inr (.inr 173), .inl 118] S M (KQ S Q) := by
  have loop : ∀ (d k : Nat) (M1 : Mem), k + d = m → (∀ q, q ≠ 174 → M1 q = M q) → (∀ k, k ≠ 11 → M1 174 k = M 174 k) → M1 174 11 = (ls f k : Int) → En 149 74 [some (.inr (.inr 173)), some (.inl 118), some (.inl (k : Int))] [] S M1 (KQ S Q) := by
    intro d
    induction d with
    | zero =>
      intro k M1 hk r r4 e
      have ek : k = m := by omega
      subst ek
      apply r_X9_isGood_74 hM
      rw [r 172 (by decide), h23]
      refine ⟨fun _ => KQ1 (h1 M1 r (Rd_174 r (fun k hk => r4 k (by omega))) (MR_up hc (Or.inr (Or.inr (Or.inr ⟨rfl, rfl⟩))) r (fun j => ?_))), fun z => by omega⟩
      by_cases hj : j = 11
      · subst hj; rw [if_pos rfl]; exact e
      · rw [if_neg hj]; exact r4 j hj
    | succ d ih =>
      intro k M1 hk r r4 e
      have fk := hf k (by omega)
      obtain ⟨q1, q2, q3⟩ := p2_in (v := f k) (by omega)
      apply r_X9_isGood_74 hM
      rw [r 172 (by decide), h23, Int.toNat_natCast, show (11 : Int).toNat = 11 from rfl, e, r 188 (by decide), fk.1, Int.toNat_natCast, Int.toNat_natCast, q3, show ((k : Int) + 1) = ((k + 1 : Nat) : Int) by omega]
      exact ⟨fun z => by omega, fun _ => ⟨by decide, by omega, ⟨by omega, by omega, by omega, q2⟩, ⟨by omega, q1⟩, by decide, by unfold inR; omega, ih (k + 1) _ (by omega) (fun q hq => by rw [up2_row _ _ _ _ hq]; exact r q hq) (fun j hj => by rw [up2_off _ _ _ _ hj]; exact r4 j hj) (by rw [up2_get, ls])⟩⟩
  apply r_X9_isGood_0 hM
  rw [show (11 : Int).toNat = 11 from rfl]
  exact ⟨fun z => absurd z (by decide), fun z => absurd z (by decide), fun z => absurd z (by decide), fun z => absurd z (by decide), fun _ => ⟨by decide, loop m 0 _ (by omega) (fun q hq => up2_row _ _ _ _ hq) (fun j hj => up2_off _ _ _ _ hj) (by rw [up2_get]; rfl)⟩, fun z => absurd z (by decide), fun _ _ _ _ z => absurd rfl z⟩
/-- a quarrel is put -/
theorem gd_q (hM : KM S) {m : Nat} (h23 : M 172 23 = (m : Int)) {f : Nat → Nat} (hf : ∀ k, k < m → M 188 k = (f k : Int) ∧ f k < 26) (hc : MR M σ) (hs : SO σ) (h1 : m = 2 → σ 5 < 6 → ∀ M', (∀ q, q ≠ 174 → q ≠ 179 → M' q = M q) → Rd M M' → MR M' (putQ σ f) → Q (S, M', some (.inl 1))) (h0 : ¬ (m = 2 ∧ σ 5 < 6) → Q (S, M, some (.inl 0))) : Ca 149 [.inr (.inr 173), .inl 113] S M (KQ S Q) := by
  apply r_X9_isGood_0 hM
  have s5 := hs.2.2.2.2.2.1
  obtain ⟨c, hc5⟩ : ∃ c : Nat, σ 5 = (c : Int) := ⟨(σ 5).toNat, by omega⟩
  have e10 : M 174 10 = (c : Int) := by rw [hc.1.2.2.2.2.2, hc5]
  refine ⟨fun z => absurd z (by decide), fun z => absurd z (by decide), fun z => absurd z (by decide), fun z => absurd z (by decide), fun z => absurd z (by decide), fun z => absurd z (by decide), fun _ _ _ _ _ _ => ?_⟩
  rw [h23]
  refine ⟨fun z => KQ0 (h0 (by omega)), fun z => ⟨by decide, ?_⟩⟩
  have m2 : m = 2 := by omega
  have f0 := hf 0 (by omega)
  have f1 := hf 1 (by omega)
  have e1 : ((12 : Int) + 2 * (c : Int)).toNat = 12 + 2 * c := by omega
  have e2 : ((13 : Int) + 2 * (c : Int)).toNat = 13 + 2 * c := by omega
  rw [show (10 : Int).toNat = 10 from rfl, show (0 : Int).toNat = 0 from rfl, show (1 : Int).toNat = 1 from rfl, e10, f0.1, e1]
  have t1 : ∀ v, (up2 M 179 (12 + 2 * c) v) 174 10 = (c : Int) := fun v => by rw [up2_row _ _ _ _ (by decide)]; exact e10
  have t2 : ∀ v, (up2 M 179 (12 + 2 * c) v) 188 1 = (f 1 : Int) := fun v => by rw [up2_row _ _ _ _ (by decide)]; exact f1.1
  rw [t1, t2, e2]
  have t3 : ∀ v w, (up2 (up2 M 179 (12 + 2 * c) v) 179 (13 + 2 * c) w) 174 10 = (c : Int) := fun v w => by rw [up2_row _ _ _ _ (by decide)]; exact t1 v
  rw [t3]
  refine ⟨fun z => ?_, fun z => KQ0 (h0 (by omega))⟩
  obtain ⟨M1, hM1⟩ : ∃ z, z = up2 (up2 (up2 M 179 (12 + 2 * c) (f 0 : Int)) 179 (13 + 2 * c) (f 1 : Int)) 174 10 ((c : Int) + 1) := ⟨_, rfl⟩
  rw [← hM1]
  have R : ∀ q, q ≠ 174 → q ≠ 179 → M1 q = M q := fun q a b => by rw [hM1, up2_row _ _ _ _ a, up2_row _ _ _ _ b, up2_row _ _ _ _ b]
  have R4 : ∀ k, M1 174 k = if k = 10 then (c : Int) + 1 else M 174 k := fun k => by rw [hM1, up2_at, up2_row _ _ _ _ (by decide), up2_row _ _ _ _ (by decide)]
  have R9 : ∀ k, M1 179 k = if k = 13 + 2 * c then (f 1 : Int) else if k = 12 + 2 * c then (f 0 : Int) else M 179 k := fun k => by rw [hM1, up2_row _ _ _ _ (by decide), up2_at, up2_at]
  refine ⟨by decide, by unfold inR; omega, by unfold inR; omega, by decide, by omega, by decide, by unfold inR; omega, by unfold inR; omega, by decide, by omega, by decide, by unfold inR; omega, by decide, KQ1 (h1 m2 (by omega) M1 R ⟨fun q _ a _ _ _ _ b _ _ => R q a b, fun k _ _ => by rw [R 172 (by decide) (by decide)], fun k hk => by rw [R4, if_neg (by omega)], fun k _ => by rw [R 175 (by decide) (by decide)], fun k hk => by rw [R9, if_neg (by omega), if_neg (by omega)]⟩ ?_)⟩
  obtain ⟨⟨a0, a1, a2, a3, a4, a5⟩, b1, b2, b3⟩ := hc
  have et : (σ 5).toNat = c := by omega
  have o : ∀ j, j ≠ 5 → j < 120 → putQ σ f j = σ j := fun j h1 h2 => by unfold putQ; rw [et, if_neg h1, if_neg (by omega), if_neg (by omega)]
  have s0 := hs.1
  refine ⟨⟨by rw [R4, if_neg (by decide), o 0 (by decide) (by decide)]; exact a0, by rw [R4, if_neg (by decide), o 1 (by decide) (by decide)]; exact a1, by rw [R4, if_neg (by decide), o 2 (by decide) (by decide)]; exact a2, by rw [R4, if_neg (by decide), o 3 (by decide) (by decide)]; exact a3, by rw [R4, if_neg (by decide), o 4 (by decide) (by decide)]; exact a4, by rw [R4, if_pos rfl]; unfold putQ; rw [if_pos rfl, hc5]⟩, fun i hi => ?_, fun x hx => ?_, fun k hk => ?_⟩
  · rw [o 0 (by omega) (by omega)] at hi
    have b := b1 i hi
    have sj := hs.2.2.2.2.2.2.1 i hi
    rw [R 176 (by decide) (by decide), R 175 (by decide) (by decide), R 177 (by decide) (by decide), o (10 + i) (by omega) (by omega), o (70 + i) (by omega) (by omega), o (80 + i) (by omega) (by omega)]
    exact ⟨b.1, b.2.1, b.2.2.1, fun k hk => by rw [o _ (by omega) (by omega)]; exact b.2.2.2 k hk⟩
  · rw [R 178 (by decide) (by decide), o _ (by omega) (by omega)]; exact b2 x hx
  · have P5 : putQ σ f 5 = (c : Int) + 1 := by unfold putQ; rw [if_pos rfl, hc5]
    rw [P5] at hk
    rw [R9, R9]
    unfold putQ
    rw [et]
    by_cases hkc : k = c
    · subst hkc
      rw [if_neg (by omega), if_pos rfl, if_pos rfl, if_neg (by omega), if_pos rfl, if_neg (by omega), if_neg (by omega), if_pos rfl]
      exact ⟨rfl, rfl⟩
    · rw [if_neg (by omega), if_neg (by omega), if_neg (by omega), if_neg (by omega), if_neg (by omega), if_neg (by omega), if_neg (by omega), if_neg (by omega), if_neg (by omega), if_neg (by omega)]
      exact b3 k (by omega)
end MGood
