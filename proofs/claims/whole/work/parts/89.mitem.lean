/-! THE REFERENCE reads an item -/
def MR (M : Mem) (σ : Nat → Int) : Prop :=
  (M 174 6 = σ 0 ∧ M 174 7 = σ 1 ∧ M 174 8 = σ 2 ∧ M 174 9 = σ 3 ∧ M 174 11 = σ 4 ∧ M 174 10 = σ 5) ∧
  (∀ i : Nat, (i : Int) < σ 0 → M 176 (7 * i) = σ (10 + i) ∧ M 175 (8 + i) = σ (70 + i) ∧ M 177 i = σ (80 + i) ∧ ∀ k : Nat, (k : Int) < σ (10 + i) → M 176 (7 * i + 1 + k) = σ (20 + 6 * i + k)) ∧
  (∀ x, x < 26 → M 178 x = σ (90 + x)) ∧
  (∀ k : Nat, (k : Int) < σ 5 → M 179 (12 + 2 * k) = σ (120 + 2 * k) ∧ M 179 (13 + 2 * k) = σ (121 + 2 * k))
theorem MR_rows {M M' : Mem} {σ : Nat → Int} (h : MR M σ) (h4 : M' 174 = M 174) (h5 : M' 175 = M 175) (h6 : M' 176 = M 176) (h7 : M' 177 = M 177) (h8 : M' 178 = M 178) (h9 : M' 179 = M 179) : MR M' σ := by
  unfold MR
  rw [h4, h5, h6, h7, h8, h9]
  exact h
theorem MR_Ln {M M' : Mem} {σ : Nat → Int} (h : MR M σ) (hn : Ln M M') : MR M' σ := MR_rows h (hn.1 _ (by decide) (by decide) (by decide)) (hn.1 _ (by decide) (by decide) (by decide)) (hn.1 _ (by decide) (by decide) (by decide)) (hn.1 _ (by decide) (by decide) (by decide)) (hn.1 _ (by decide) (by decide) (by decide)) (hn.1 _ (by decide) (by decide) (by decide))
theorem MR_up {M M' : Mem} {σ : Nat → Int} (h : MR M σ) {c j : Nat} (hc : c = 7 ∧ j = 1 ∨ c = 8 ∧ j = 2 ∨ c = 9 ∧ j = 3 ∨ c = 11 ∧ j = 4) {v : Int} (r : ∀ q, q ≠ 174 → M' q = M q) (r4 : ∀ k, M' 174 k = if k = c then v else M 174 k) : MR M' (up1 σ j v) := by
  obtain ⟨⟨a0, a1, a2, a3, a4, a5⟩, b1, b2, b3⟩ := h
  have o : ∀ k, k ≠ j → up1 σ j v k = σ k := fun k hk => if_neg hk
  have at2 : ∀ k, up1 σ j v k = if k = j then v else σ k := fun k => rfl
  refine ⟨⟨?_, ?_, ?_, ?_, ?_, ?_⟩, fun i hi => ?_, fun x hx => ?_, fun k hk => ?_⟩
  · rw [r4, at2]; split <;> split <;> first | rfl | omega
  · rw [r4, at2]; split <;> split <;> first | rfl | omega
  · rw [r4, at2]; split <;> split <;> first | rfl | omega
  · rw [r4, at2]; split <;> split <;> first | rfl | omega
  · rw [r4, at2]; split <;> split <;> first | rfl | omega
  · rw [r4, at2]; split <;> split <;> first | rfl | omega
  · rw [o 0 (by omega)] at hi
    have b := b1 i hi
    rw [r 176 (by decide), r 175 (by decide), r 177 (by decide), o (10 + i) (by omega), o (70 + i) (by omega), o (80 + i) (by omega)]
    exact ⟨b.1, b.2.1, b.2.2.1, fun k hk => by rw [o _ (by omega)]; exact b.2.2.2 k hk⟩
  · rw [r 178 (by decide), o _ (by omega)]; exact b2 x hx
  · rw [o 5 (by omega)] at hk
    rw [r 179 (by decide), o _ (by omega), o _ (by omega)]; exact b3 k hk
section MItem
variable {S : Shp} {M : Mem} {Q : Res → Prop} {T : Nat → Int} {L a : Nat} {σ : Nat → Int}
theorem sq_isPersonPut (hM : KM S) {i m : Nat} (hi : i < 8) (hm : m ≤ 6) (h6 : M 174 6 = (i : Int)) (h23 : M 172 23 = (m : Int)) {f : Nat → Int} (hf : ∀ k, k < m → M 188 k = f k) (h : ∀ M', (∀ q, q ≠ 174 → q ≠ 175 → q ≠ 176 → q ≠ 177 → M' q = M q) → (∀ k, M' 174 k = if k = 6 then (i : Int) + 1 else M 174 k) → (∀ k, M' 175 k = if k = 8 + i then M 187 0 else M 175 k) → (∀ k, M' 177 k = if k = i then M 187 1 else M 177 k) → (∀ z, M' 176 z = if z = 7 * i then (m : Int) else if 7 * i + 1 ≤ z ∧ z < 7 * i + 1 + m then f (z - (7 * i + 1)) else M 176 z) → Q (S, M', some (.inl 1))) : Ca 150 [.inr (.inr 173)] S M Q := by
  have loop : ∀ (d k : Nat) (M1 : Mem), k + d = m → (∀ q, q ≠ 175 → q ≠ 176 → q ≠ 177 → M1 q = M q) → (∀ k, M1 175 k = if k = 8 + i then M 187 0 else M 175 k) → (∀ k, M1 177 k = if k = i then M 187 1 else M 177 k) → (∀ z, M1 176 z = if z = 7 * i then (m : Int) else if 7 * i + 1 ≤ z ∧ z < 7 * i + 1 + k then f (z - (7 * i + 1)) else M 176 z) → En 150 33 [some (.inr (.inr 173)), some (.inl (i : Int)), some (.inl (k : Int))] [] S M1 Q := by
    intro d
    induction d with
    | zero =>
      intro k M1 hk f1 f2 f3 f4
      have e : k = m := by omega
      subst e
      apply r_X9_isPersonPut_33 hM
      rw [f1 172 (by decide) (by decide) (by decide), h23, show (6 : Int).toNat = 6 from rfl, f1 174 (by decide) (by decide) (by decide), h6]
      refine ⟨fun _ => ⟨by decide, by unfold inR; omega, by decide, h _ (fun q a b c d => by rw [up2_row _ _ _ _ a]; exact f1 q b c d) (fun k => by rw [up2_at, f1 174 (by decide) (by decide) (by decide)]) (fun k => by rw [up2_row _ _ _ _ (by decide)]; exact f2 k) (fun k => by rw [up2_row _ _ _ _ (by decide)]; exact f3 k) (fun z => by rw [up2_row _ _ _ _ (by decide)]; exact f4 z)⟩, fun z => by omega⟩
    | succ d ih =>
      intro k M1 hk f1 f2 f3 f4
      apply r_X9_isPersonPut_33 hM
      have e1 : (((7 : Int) * i + 1) + k).toNat = 7 * i + 1 + k := by omega
      rw [f1 172 (by decide) (by decide) (by decide), h23, e1, Int.toNat_natCast, f1 188 (by decide) (by decide) (by decide), hf k (by omega), show ((k : Int) + 1) = ((k + 1 : Nat) : Int) by omega]
      refine ⟨fun z => by omega, fun _ => ⟨by unfold inR; omega, by unfold inR; omega, by unfold inR; omega, by omega, by omega, by unfold inR; omega, ih (k + 1) _ (by omega) (fun q a b c => by rw [up2_row _ _ _ _ b]; exact f1 q a b c) (fun j => by rw [up2_row _ _ _ _ (by decide)]; exact f2 j) (fun j => by rw [up2_row _ _ _ _ (by decide)]; exact f3 j) (fun z => ?_)⟩⟩
      rw [up2_at]
      by_cases hz : z = 7 * i + 1 + k
      · rw [if_pos hz, if_neg (by omega), if_pos (by omega)]; congr 1; omega
      · rw [if_neg hz, f4 z]
        by_cases hz2 : z = 7 * i
        · rw [if_pos hz2, if_pos hz2]
        · rw [if_neg hz2, if_neg hz2]
          by_cases hy : 7 * i + 1 ≤ z ∧ z < 7 * i + 1 + k
          · rw [if_pos hy, if_pos (by omega)]
          · rw [if_neg hy, if_neg (by omega)]
  apply r_X9_isPersonPut_0 hM
  have e8 : ((8 : Int) + i).toNat = 8 + i := by omega
  have e7 : ((7 : Int) * i).toNat = 7 * i := by omega
  rw [show (6 : Int).toNat = 6 from rfl, show (0 : Int).toNat = 0 from rfl, show (1 : Int).toNat = 1 from rfl, h6, e8, e7, Int.toNat_natCast]
  refine ⟨by decide, by unfold inR; omega, by decide, by omega, by decide, by omega, by unfold inR; omega, by omega, loop m 0 _ (by omega) (fun q a b c => by rw [up2_row _ _ _ _ b, up2_row _ _ _ _ c, up2_row _ _ _ _ a]) (fun k => ?_) (fun k => ?_) (fun z => ?_)⟩
  · rw [up2_row _ _ _ _ (by decide), up2_row _ _ _ _ (by decide), up2_at]
  · rw [up2_row _ _ _ _ (by decide), up2_at, up2_row _ _ _ _ (by decide), up2_row _ _ _ _ (by decide)]
  · rw [up2_at, up2_row _ _ _ _ (by decide), up2_row _ _ _ _ (by decide), up2_row _ _ _ _ (by decide), up2_row _ _ _ _ (by decide), h23]
    by_cases hz : z = 7 * i
    · rw [if_pos hz, if_pos hz]
    · rw [if_neg hz, if_neg hz, if_neg (by omega)]
theorem sq_isOrderPut (hM : KM S) {m : Nat} (hm : m ≤ 6) (h23 : M 172 23 = (m : Int)) {f : Nat → Nat} (hf : ∀ k, k < m → M 188 k = (f k : Int) ∧ f k < 26) (h1 : dist f m → ∀ M', (∀ q, q ≠ 178 → M' q = M q) → (∀ x, x < 26 → M' 178 x = oR f m x) → Q (S, M', some (.inl 1))) (h0 : ¬ dist f m → ∀ M', (∀ q, q ≠ 178 → M' q = M q) → Q (S, M', some (.inl 0))) : Ca 151 [.inr (.inr 173)] S M Q := by
  obtain ⟨s, hs⟩ : ∃ s, s = ls f m := ⟨_, rfl⟩
  have oN : ∀ y, s.testBit y = false → oR f m y = ((m + ce s y : Nat) : Int) := fun y hy => by unfold oR; rw [← hs, if_neg (by rw [hy]; decide)]
  have loop2 : dist f m → ∀ (d x : Nat) (M1 : Mem), x + d = 26 → (∀ q, q ≠ 178 → M1 q = M q) → (∀ y, y < 26 → (s.testBit y = true ∨ y < x) → M1 178 y = oR f m y) → En 151 44 [some (.inr (.inr 173)), some (.inl (s : Int)), some (.inl ((m + ce s x : Nat) : Int)), some (.inl (x : Int))] [] S M1 Q := by
    intro hd d
    induction d with
    | zero =>
      intro x M1 hx f1 f2
      have e : x = 26 := by omega
      subst e
      apply r_X9_isOrderPut_44 hM
      exact ⟨fun _ => h1 hd M1 f1 (fun y hy => f2 y hy (Or.inr hy)), fun z => by omega⟩
    | succ d ih =>
      intro x M1 hx f1 f2
      have cl := ce_le s x
      apply r_X9_isOrderPut_44 hM
      rw [Int.toNat_natCast, show ((x : Int) + 1) = ((x + 1 : Nat) : Int) by omega]
      refine ⟨fun z => by omega, fun _ => ⟨by omega, _, np_and1 s x, ?_⟩⟩
      by_cases hb : s.testBit x = true
      · rw [if_pos hb]
        refine ⟨fun _ => ⟨by unfold inR; omega, ?_⟩, fun y => absurd y (by decide)⟩
        have e : ce s (x + 1) = ce s x := by rw [ce, if_pos hb, Nat.add_zero]
        have nx := ih (x + 1) M1 (by omega) f1 (fun y hy q => f2 y hy (by
          rcases q with q | q
          · exact Or.inl q
          · by_cases hyx : y = x
            · subst hyx; exact Or.inl hb
            · exact Or.inr (by omega)))
        rw [e] at nx
        exact nx
      · rw [if_neg hb]
        have hbf : s.testBit x = false := by simpa using hb
        have e : ce s (x + 1) = ce s x + 1 := by rw [ce, if_neg hb]
        refine ⟨fun y => absurd rfl y, fun _ => ?_⟩
        rw [show (((m + ce s x : Nat) : Int) + 1) = ((m + ce s (x + 1) : Nat) : Int) by rw [e]; omega]
        refine ⟨by omega, by unfold inR; omega, by unfold inR; omega, ih (x + 1) _ (by omega) (fun q a => by rw [up2_row _ _ _ _ a]; exact f1 q a) (fun y hy q => ?_)⟩
        rw [up2_at]
        by_cases hyx : y = x
        · rw [if_pos hyx, hyx, oN x hbf]
        · rw [if_neg hyx]
          exact f2 y hy (q.elim Or.inl (fun w => Or.inr (by omega)))
  have loop1 : ∀ (d k : Nat) (M1 : Mem), k + d = m → (∀ q, q ≠ 178 → M1 q = M q) → dist f k → (∀ j, j < k → M1 178 (f j) = (j : Int)) → En 151 4 [some (.inr (.inr 173)), some (.inl (ls f k : Int)), some (.inl (k : Int)), none] [] S M1 Q := by
    intro d
    induction d with
    | zero =>
      intro k M1 hk f1 hd f2
      have e : k = m := by omega
      subst e
      apply r_X9_isOrderPut_4 hM
      rw [f1 172 (by decide), h23]
      refine ⟨fun _ => ?_, fun z => by omega⟩
      rw [← hs]
      have e0 : ce s 0 = 0 := rfl
      have nx := loop2 hd 26 0 M1 rfl f1 (fun y hy q => by
        rcases q with q | q
        · rw [hs] at q
          obtain ⟨j, j1, j2⟩ := (ls_bit k).mp q
          rw [← j2, oR_first hd j1]
          exact f2 j j1
        · omega)
      rw [e0, Nat.add_zero] at nx
      exact nx
    | succ d ih =>
      intro k M1 hk f1 hd f2
      have fk := hf k (by omega)
      obtain ⟨q1, q2, q3⟩ := p2_in (v := f k) (by omega)
      apply r_X9_isOrderPut_4 hM
      rw [f1 172 (by decide), h23, Int.toNat_natCast, f1 188 (by decide), fk.1, Int.toNat_natCast, Int.toNat_natCast, q3, show ((k : Int) + 1) = ((k + 1 : Nat) : Int) by omega]
      refine ⟨fun z => by omega, fun _ => ⟨by omega, by omega, _, np_and1 (ls f k) (f k), ?_⟩⟩
      by_cases hb : (ls f k).testBit (f k) = true
      · rw [if_pos hb]
        refine ⟨fun y => absurd rfl y, fun _ => h0 (fun q => ?_) M1 f1⟩
        have := q k (by omega)
        rw [hb] at this
        cases this
      · rw [if_neg hb]
        have hbf : (ls f k).testBit (f k) = false := by simpa using hb
        have hd' : dist f (k + 1) := fun j hj => by
          by_cases hjk : j = k
          · subst hjk; exact hbf
          · exact hd j (by omega)
        have nx := ih (k + 1) (up2 M1 178 (f k) (k : Int)) (by omega) (fun q a => by rw [up2_row _ _ _ _ a]; exact f1 q a) hd' (fun j hj => ?_)
        · rw [ls] at nx
          exact ⟨fun _ => ⟨by omega, ⟨by omega, by omega, by omega, q2⟩, ⟨by omega, q1⟩, by omega, by omega, by unfold inR; omega, nx⟩, fun y => absurd y (by decide)⟩
        · rw [up2_at]
          by_cases hjk : j = k
          · subst hjk; rw [if_pos rfl]
          · rw [if_neg (fun w => hjk (dist_inj hd' (by omega) (by omega) w))]; exact f2 j (by omega)
  apply r_X9_isOrderPut_0 hM
  exact loop1 m 0 M (by omega) (fun _ _ => rfl) (fun j hj => by omega) (fun j hj => by omega)
/-- an item's end -/
theorem it_tail (hM : KM S) {x1 x2 : Int} {b : Nat} (hp : Mg M T L b) (hb : b ≤ 300) (h0 : (x2 = 0 ∨ sg T L b ≠ 59) → Q (S, up2 M 172 2 ((b + 1 : Nat) : Int), some (.inl 0))) (h1 : x2 ≠ 0 → sg T L b = 59 → Ca 149 [.inr (.inr 173), .inl x1] S (up2 M 172 2 ((b + 1 : Nat) : Int)) (fun r => ∃ (M2 : Mem) (v3 : Int), r = (S, M2, some (.inl v3)) ∧ ((v3 = 0 → Q (S, M2, some (.inl 0))) ∧ (v3 ≠ 0 → Q (S, M2, some (.inl 1)))))) : En 148 77 [some (.inr (.inr 173)), some (.inl x1), some (.inl x2)] [] S M Q := by
  have hL := hp.2.1
  have no : (x2 = 0 ∨ sg T L b ≠ 59) → En 148 93 [some (.inr (.inr 173)), some (.inl x1), some (.inl x2)] [] S M Q := fun q => by
    apply r_X9_isItem_93 hM
    apply r_X9_isItem_94 hM
    rw [hp.2.2.1, show ((b : Int) + 1) = ((b + 1 : Nat) : Int) by omega]
    refine ⟨by unfold inR; omega, fun _ => ?_, fun z => absurd rfl z⟩
    apply r_X9_isItem_109 hM
    apply r_X9_isItem_110 hM
    exact ⟨Or.inl rfl, h0 q⟩
  apply r_X9_isItem_77 hM
  rw [hp.1, hp.2.2.1, Int.toNat_natCast]
  refine ⟨fun z => no (Or.inl z), fun z => ⟨fun w => no (Or.inr (by unfold sg; rw [if_neg (by omega)]; decide)), fun w => ⟨by omega, ?_⟩⟩⟩
  have es : sg T L b = T b := if_pos (by omega)
  rw [(hp.2.2.2 b (by omega)).1]
  refine ⟨fun y => no (Or.inr (by omega)), fun y => ?_⟩
  apply r_X9_isItem_94 hM
  rw [hp.2.2.1, show ((b : Int) + 1) = ((b + 1 : Nat) : Int) by omega]
  refine ⟨by unfold inR; omega, fun z => absurd z (by decide), fun _ => (h1 z (by omega)).mono (fun r => ?_)⟩
  rintro ⟨M2, v3, e, k0, k1⟩
  refine ⟨M2, v3, e, fun w => ?_, fun w => ?_⟩
  · apply r_X9_isItem_109 hM
    apply r_X9_isItem_110 hM
    exact ⟨Or.inl rfl, k0 w⟩
  · apply r_X9_isItem_110 hM
    exact ⟨Or.inr rfl, k1 w⟩
end MItem
