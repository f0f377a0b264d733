/-! the class reads the rest of the items -/
section Read2
variable {S : Shp} {M : Mem} {Q : Res → Prop} {T : Nat → Int} {L p t : Nat} {σ : Nat → Int}
theorem dist_inj {f : Nat → Nat} {m i j : Nat} (hd : dist f m) (hi : i < m) (hj : j < m) (e : f i = f j) : i = j := by
  by_cases c : i < j
  · have a := hd j hj
    rw [(ls_bit j).mpr ⟨i, c, e⟩] at a
    cases a
  · by_cases c2 : j < i
    · have a := hd i hi
      rw [(ls_bit i).mpr ⟨j, c2, e.symm⟩] at a
      cases a
    · omega
theorem oR_first {f : Nat → Nat} {m k : Nat} (hd : dist f m) (hk : k < m) : oR f m (f k) = (k : Int) := by
  have b : (ls f m).testBit (f k) = true := (ls_bit m).mpr ⟨k, hk, rfl⟩
  unfold oR
  rw [if_pos b]
  have a := ix_at m ((ls_bit m).mp b)
  have := dist_inj hd a.1 hk a.2
  omega
theorem sp_putFirst (hS : KC S) (ht : t ∈ bx_tw) {f : Nat → Nat} {m : Nat} (hm : m ≤ 6) (hf : ∀ k, k < m → M 7 k = (f k : Int) ∧ f k < 26) (hd : dist f m) (h : ∀ M', (∀ q, q ≠ t + 8 → q ≠ t + 9 → M' q = M q) → (∀ y, y < 26 → M' (t + 8) y = oR f m y) → (∀ r : Nat, r < 26 → 0 ≤ M' (t + 9) r ∧ M' (t + 9) r < 26 ∧ M' (t + 8) (M' (t + 9) r).toNat = (r : Int)) → Q (S, M', none)) : Ca 68 [.inr (.inr (t + 1)), .inr (.inr 8), .inl (m : Int)] S M Q := by
  have h8 := tw_8 t ht
  have hf' : ∀ k, k < m → f k < 26 := fun k hk => (hf k hk).2
  have hc := (ls_cnt m hf').2.mpr hd
  obtain ⟨s, hs⟩ : ∃ s, s = ls f m := ⟨_, rfl⟩
  have oN : ∀ y, s.testBit y = false → oR f m y = ((m + ce s y : Nat) : Int) := fun y hy => by unfold oR; rw [← hs, if_neg (by rw [hy]; decide)]
  rw [← hs] at hc
  have loop2 : ∀ (d x : Nat) (M1 : Mem), x + d = 26 → (∀ q, q ≠ t + 8 → q ≠ t + 9 → M1 q = M q) → (∀ y, y < 26 → (s.testBit y = true ∨ y < x) → M1 (t + 8) y = oR f m y) → (∀ r : Nat, r < m + ce s x → ∃ y : Nat, y < 26 ∧ M1 (t + 9) r = (y : Int) ∧ (s.testBit y = true ∨ y < x) ∧ M1 (t + 8) y = (r : Int)) → En 68 27 [some (.inr (.inr (t + 1))), some (.inr (.inr 8)), some (.inl (m : Int)), some (.inl (s : Int)), some (.inl ((m + ce s x : Nat) : Int)), some (.inl (x : Int))] [] S M1 Q := by
    intro d
    induction d with
    | zero =>
      intro x M1 hx f1 f2 f3
      have e : x = 26 := by omega
      subst e
      apply r_X7_putFirst_27 hS ht
      refine ⟨fun _ => h M1 f1 (fun y hy => f2 y hy (Or.inr hy)) (fun r hr => ?_), fun z => by omega⟩
      obtain ⟨y, y1, y2, y3, y4⟩ := f3 r (by omega)
      rw [y2, Int.toNat_natCast]
      exact ⟨by omega, by omega, y4⟩
    | succ d ih =>
      intro x M1 hx f1 f2 f3
      have mo := ce_mono (s := s) (a := x) 26 (by omega)
      apply r_X7_putFirst_27 hS ht
      refine ⟨fun z => by omega, fun _ => ⟨fun z => ?_, fun z => ?_⟩⟩
      · have all : ∀ y, y < 26 → s.testBit y = true ∨ y < x := fun y hy => by
          by_cases hyx : y < x
          · exact Or.inr hyx
          · by_cases hb : s.testBit y = true
            · exact Or.inl hb
            · have a1 := ce_strict (s := s) (a := y) (b := 26) hy (by simpa using hb)
              have a2 := ce_mono (s := s) (a := x) y (by omega)
              omega
        refine h M1 f1 (fun y hy => f2 y hy (all y hy)) (fun r hr => ?_)
        obtain ⟨y, y1, y2, y3, y4⟩ := f3 r (by omega)
        rw [y2, Int.toNat_natCast]
        exact ⟨by omega, by omega, y4⟩
      · refine sp_holds hS (by omega) ⟨_, _, rfl, ?_⟩
        rw [show ((x : Int) + 1) = ((x + 1 : Nat) : Int) by omega]
        by_cases hb : s.testBit x = true
        · rw [if_pos hb]
          refine ⟨fun _ => ⟨by unfold inR; omega, ?_⟩, fun y => absurd y (by decide)⟩
          have e : ce s (x + 1) = ce s x := by rw [ce, if_pos hb, Nat.add_zero]
          have nx := ih (x + 1) M1 (by omega) f1 (fun y hy q => f2 y hy (by
            rcases q with q | q
            · exact Or.inl q
            · by_cases hyx : y = x
              · subst hyx; exact Or.inl hb
              · exact Or.inr (by omega))) (fun r hr => by
              rw [e] at hr
              obtain ⟨y, y1, y2, y3, y4⟩ := f3 r hr
              exact ⟨y, y1, y2, y3.elim Or.inl (fun q => Or.inr (by omega)), y4⟩)
          rw [e] at nx
          exact nx
        · rw [if_neg hb]
          have hbf : s.testBit x = false := by simpa using hb
          have e : ce s (x + 1) = ce s x + 1 := by rw [ce, if_neg hb]
          refine ⟨fun y => absurd rfl y, fun _ => sp_place hS ht (by omega) (by omega) ⟨_, rfl, ?_⟩⟩
          rw [Int.toNat_natCast, show (((m + ce s x : Nat) : Int) + 1) = ((m + ce s (x + 1) : Nat) : Int) by rw [e]; omega]
          refine ⟨by unfold inR; omega, by unfold inR; omega, ih (x + 1) _ (by omega) (fun q a b => by rw [up2_row _ _ _ _ b, up2_row _ _ _ _ a]; exact f1 q a b) (fun y hy q => ?_) (fun r hr => ?_)⟩
          · rw [up2_row _ _ _ _ (by omega), up2_any]
            by_cases hyx : y = x
            · rw [if_pos ⟨rfl, hyx⟩, hyx, oN x hbf]
            · rw [if_neg (fun w => hyx w.2)]
              exact f2 y hy (q.elim Or.inl (fun w => Or.inr (by omega)))
          · rw [e] at hr
            by_cases hr2 : r = m + ce s x
            · refine ⟨x, by omega, ?_, Or.inr (by omega), ?_⟩
              · rw [hr2, up2_get]
              · rw [up2_row _ _ _ _ (by omega), up2_get, hr2]
            · obtain ⟨y, y1, y2, y3, y4⟩ := f3 r (by omega)
              have hyx : y ≠ x := fun w => by
                subst w
                rcases y3 with w | w
                · exact hb w
                · omega
              refine ⟨y, y1, ?_, y3.elim Or.inl (fun w => Or.inr (by omega)), ?_⟩
              · rw [up2_off _ _ _ _ hr2, up2_row _ _ _ _ (by omega)]; exact y2
              · rw [up2_row _ _ _ _ (by omega), up2_off _ _ _ _ hyx]; exact y4
  have loop1 : ∀ (d k : Nat) (M1 : Mem), k + d = m → (∀ q, q ≠ t + 8 → q ≠ t + 9 → M1 q = M q) → (∀ j, j < k → M1 (t + 8) (f j) = (j : Int)) → (∀ j, j < k → M1 (t + 9) j = (f j : Int)) → En 68 4 [some (.inr (.inr (t + 1))), some (.inr (.inr 8)), some (.inl (m : Int)), some (.inl (ls f k : Int)), some (.inl (k : Int)), none] [] S M1 Q := by
    intro d
    induction d with
    | zero =>
      intro k M1 hk f1 f2 f3
      have e : k = m := by omega
      subst e
      apply r_X7_putFirst_4 hS ht
      refine ⟨fun _ => ?_, fun z => by omega⟩
      rw [← hs]
      have e0 : ce s 0 = 0 := rfl
      have nx := loop2 26 0 M1 rfl f1 (fun y hy q => by
        rcases q with q | q
        · rw [hs] at q
          obtain ⟨j, j1, j2⟩ := (ls_bit k).mp q
          rw [← j2, oR_first hd j1]
          exact f2 j j1
        · omega) (fun r hr => ⟨f r, hf' r (by omega), f3 r (by omega), Or.inl (by rw [hs]; exact (ls_bit k).mpr ⟨r, by omega, rfl⟩), f2 r (by omega)⟩)
      rw [e0, Nat.add_zero] at nx
      exact nx
    | succ d ih =>
      intro k M1 hk f1 f2 f3
      apply r_X7_putFirst_4 hS ht
      have fk := hf k (by omega)
      obtain ⟨q1, q2, q3⟩ := p2_in (v := f k) (by omega)
      refine ⟨fun z => by omega, fun _ => ⟨by omega, ?_⟩⟩
      rw [Int.toNat_natCast, f1 7 (by omega) (by omega), fk.1]
      refine sp_place hS ht fk.2 (by omega) ⟨_, rfl, ?_⟩
      rw [Int.toNat_natCast k, up2_row _ _ _ _ (by omega), up2_row _ _ _ _ (by omega), f1 7 (by omega) (by omega), fk.1, Int.toNat_natCast, Int.toNat_natCast, q3, show ((k : Int) + 1) = ((k + 1 : Nat) : Int) by omega]
      have nx := ih (k + 1) (up2 (up2 M1 (t + 8) (f k) (k : Int)) (t + 9) k (f k : Int)) (by omega) (fun q a b => by rw [up2_row _ _ _ _ b, up2_row _ _ _ _ a]; exact f1 q a b) (fun j hj => ?_) (fun j hj => ?_)
      · rw [ls] at nx
        exact ⟨by omega, ⟨by omega, by omega, by omega, q2⟩, ⟨by omega, q1⟩, by unfold inR; omega, nx⟩
      · rw [up2_row _ _ _ _ (by omega)]
        by_cases hjk : j = k
        · subst hjk; rw [up2_get]
        · rw [up2_off _ _ _ _ (fun w => hjk (dist_inj hd (by omega) (by omega) w))]; exact f2 j (by omega)
      · by_cases hjk : j = k
        · subst hjk; rw [up2_get]
        · rw [up2_off _ _ _ _ hjk, up2_row _ _ _ _ (by omega)]; exact f3 j (by omega)
  apply r_X7_putFirst_0 hS ht
  exact loop1 m 0 M (by omega) (fun _ _ _ => rfl) (fun j hj => by omega) (fun j hj => by omega)
theorem CR_O {M' : Mem} (ht : 8 ≤ t) (hc : CR M t σ) (hs : SO σ) {f : Nat → Nat} {m : Nat} (g1 : ∀ q, q ≠ t + 8 → q ≠ t + 9 → M' q = M q) (g2 : ∀ y, y < 26 → M' (t + 8) y = oR f m y) (g3 : ∀ r : Nat, r < 26 → 0 ≤ M' (t + 9) r ∧ M' (t + 9) r < 26 ∧ M' (t + 8) (M' (t + 9) r).toNat = (r : Int)) : CR M' t (putO σ f m) := by
  obtain ⟨⟨a0, a1, a2, a3, a4, a5⟩, b1, b2, b3, b4, b5, b6, b7⟩ := hc
  have o : ∀ j, j < 90 ∨ 116 ≤ j → putO σ f m j = σ j := fun j hj => if_neg (by omega)
  have s0 := hs.1
  refine ⟨⟨?_, ?_, ?_, ?_, ?_, ?_⟩, fun i hi => ?_, fun i hi => ?_, fun k hk => ?_, fun x hx => ?_, g3, fun x hx => ?_, fun x y hx hy => ?_⟩
  · rw [g1 _ (by omega) (by omega), o 0 (by omega)]; exact a0
  · rw [g1 _ (by omega) (by omega), o 1 (by omega)]; exact a1
  · rw [g1 _ (by omega) (by omega), o 2 (by omega)]; exact a2
  · rw [g1 _ (by omega) (by omega), o 3 (by omega)]; exact a3
  · rw [g1 _ (by omega) (by omega), o 4 (by omega)]; exact a4
  · rw [g1 _ (by omega) (by omega), o 5 (by omega)]; exact a5
  · rw [o 0 (by omega)] at hi
    rw [g1 _ (by omega) (by omega), g1 _ (by omega) (by omega), g1 _ (by omega) (by omega), g1 _ (by omega) (by omega)]
    have b := b1 i hi
    have sj := hs.2.2.2.2.2.2.1 i hi
    rw [o (10 + i) (by omega), o (70 + i) (by omega), o (80 + i) (by omega)]
    exact ⟨b.1, b.2.1, b.2.2.1, fun k hk => by rw [o _ (by omega)]; exact b.2.2.2 k hk⟩
  · rw [g1 _ (by omega) (by omega), g1 _ (by omega) (by omega)]; exact b2 i hi
  · rw [g1 _ (by omega) (by omega)]; exact b3 k hk
  · rw [g2 x hx]; unfold putO; rw [if_pos (by omega), show 90 + x - 90 = x by omega]
  · rw [g1 _ (by omega) (by omega)]; exact b6 x hx
  · rw [g1 _ (by omega) (by omega), b7 x y hx hy, o 5 (by omega)]
    constructor
    · rintro ⟨k, hk, q⟩; exact ⟨k, hk, by rw [o _ (by omega), o _ (by omega)]; exact q⟩
    · rintro ⟨k, hk, q⟩; rw [o _ (by omega), o _ (by omega)] at q; exact ⟨k, hk, q⟩
theorem sp_readOrder (hS : KC S) (ht : t ∈ bx_tw) {a : Nat} (hp : Pg M T L (a + 1)) (ha : a < L) (hc : CR M t σ) (hs : SO σ) (h1 : (1 ≤ nL T L (a + 1) ∧ nL T L (a + 1) ≤ 6 ∧ pcn (ls (lf T (a + 1)) (nL T L (a + 1))) = nL T L (a + 1) ∧ sg T L (q1 T L a) = 59) → ∀ M', Pg M' T L (q1 T L a + 1) → CR M' t (putO σ (lf T (a + 1)) (nL T L (a + 1))) → Cd M M' t → Q (S, M', some (.inl 1))) (h0 : ¬ (1 ≤ nL T L (a + 1) ∧ nL T L (a + 1) ≤ 6 ∧ pcn (ls (lf T (a + 1)) (nL T L (a + 1))) = nL T L (a + 1) ∧ sg T L (q1 T L a) = 59) → ∀ M', Cd M M' t → Q (S, M', some (.inl 0))) : Ca 44 [.inr (.inr 6), .inr (.inr (t + 1))] S M Q := by
  have h8 := tw_8 t ht
  have hL := hp.2.1
  have l1 := nL_le (T := T) (L := L) (a := a + 1)
  have e1 : q1 T L a = a + 1 + nL T L (a + 1) := rfl
  have m6le : m6 (nL T L (a + 1)) ≤ 6 := by unfold m6; split <;> omega
  have m6n : m6 (nL T L (a + 1)) ≤ nL T L (a + 1) := by unfold m6; split <;> omega
  apply r_X5_readOrder_0 hS ht
  refine sp_readName hS hp (by omega) (fun M1 g1 g2 g3 g4 => ⟨_, _, rfl, fun z => ?_, fun z => ?_⟩)
  · refine h0 (fun q => ?_) _ (Cd_nm g1 g2)
    rw [name_go q.2.1] at z
    omega
  have p1 := Pg_nm hp g1 g2 g3
  have d1 : Cd M M1 t := Cd_nm g1 g2
  have cr1 := CR_nm h8 hc g1 g2
  have fk : ∀ k, k < m6 (nL T L (a + 1)) → M1 7 k = (lf T (a + 1) k : Int) ∧ lf T (a + 1) k < 26 := fun k hk => by
    have := lf_in (T := T) (L := L) (b := a + 1) (k := k) (by omega)
    rw [g4 k hk]
    exact ⟨this.2.symm, this.1⟩
  refine sp_lettersRead hS m6le fk ⟨_, _, rfl, sp_bitCount (ls_lt _ (fun k hk => (fk k hk).2)) ⟨_, _, rfl, fun w => ?_, fun w => ?_⟩⟩
  · refine h0 (fun q => w ?_) _ d1
    rw [name_go q.2.1, q.2.2.1]
  · have w' : pcn (ls (lf T (a + 1)) (m6 (nL T L (a + 1)))) = m6 (nL T L (a + 1)) := by omega
    by_cases n6 : nL T L (a + 1) ≤ 6
    · rw [name_go n6] at p1 g4 fk w' z ⊢
      rw [← e1] at p1
      refine sp_passes hS p1 (by omega) (fun v => ⟨_, _, rfl, fun _ => ?_, fun y => absurd y (by decide)⟩) (fun v => ⟨_, _, rfl, fun y => absurd rfl y, fun _ => h0 (fun q => v q.2.2.2) _ d1⟩)
      have p2 : Pg (up2 M1 5 3 ((q1 T L a + 1 : Nat) : Int)) T L (q1 T L a + 1) := Pg_Pn p1 (Pn_up _ _) (up2_get _ _ _ _)
      refine sp_putFirst hS ht n6 (fun k hk => by rw [up2_row _ _ _ _ (by decide)]; exact fk k hk) ((bits_dist (fun k hk => (fk k hk).2)).mp w') (fun M3 r1 r2 r3 => ⟨_, rfl, ?_⟩)
      refine h1 ⟨by omega, n6, w', v⟩ M3 ⟨by rw [r1 5 (by omega) (by omega)]; exact p2.1, p2.2.1, by rw [r1 5 (by omega) (by omega)]; exact p2.2.2.1, fun k hk => by rw [r1 6 (by omega) (by omega)]; exact p2.2.2.2 k hk⟩ (CR_O h8 (CR_Pn h8 cr1 (Pn_up _ _)) hs r1 r2 r3) ((d1.trans (Cd_Pn (Pn_up _ _))).trans ⟨fun q _ _ hq => r1 q (by omega) (by omega), fun k _ => by rw [r1 5 (by omega) (by omega)]⟩)
    · have := name_stop n6
      refine sp_passes hS p1 (by omega) (fun w => by omega) (fun w => ⟨_, _, rfl, fun y => absurd rfl y, fun _ => h0 (fun q => n6 q.2.1) _ d1⟩)
theorem sp_readVowels (hS : KC S) (ht : t ∈ bx_tw) {a : Nat} (hp : Pg M T L (a + 1)) (ha : a < L) (hc : CR M t σ) (h1 : (1 ≤ nL T L (a + 1) ∧ nL T L (a + 1) ≤ 6 ∧ sg T L (q1 T L a) = 59) → ∀ M', Pg M' T L (q1 T L a + 1) → CR M' t (up1 σ 4 (ls (lf T (a + 1)) (nL T L (a + 1)) : Int)) → Cd M M' t → Q (S, M', some (.inl 1))) (h0 : ¬ (1 ≤ nL T L (a + 1) ∧ nL T L (a + 1) ≤ 6 ∧ sg T L (q1 T L a) = 59) → ∀ M', Cd M M' t → Q (S, M', some (.inl 0))) : Ca 45 [.inr (.inr 6), .inr (.inr (t + 1))] S M Q := by
  have h8 := tw_8 t ht
  have hL := hp.2.1
  have l1 := nL_le (T := T) (L := L) (a := a + 1)
  have e1 : q1 T L a = a + 1 + nL T L (a + 1) := rfl
  have m6le : m6 (nL T L (a + 1)) ≤ 6 := by unfold m6; split <;> omega
  have m6n : m6 (nL T L (a + 1)) ≤ nL T L (a + 1) := by unfold m6; split <;> omega
  apply r_X5_readVowels_0 hS ht
  refine sp_readName hS hp (by omega) (fun M1 g1 g2 g3 g4 => ⟨_, _, rfl, ?_⟩)
  have p1 := Pg_nm hp g1 g2 g3
  have d1 : Cd M M1 t := Cd_nm g1 g2
  have cr1 := CR_nm h8 hc g1 g2
  have fk : ∀ k, k < m6 (nL T L (a + 1)) → M1 7 k = (lf T (a + 1) k : Int) ∧ lf T (a + 1) k < 26 := fun k hk => by
    have := lf_in (T := T) (L := L) (b := a + 1) (k := k) (by omega)
    rw [g4 k hk]
    exact ⟨this.2.symm, this.1⟩
  refine sp_lettersRead hS m6le fk ⟨_, _, rfl, fun z => ?_, fun z => ?_⟩
  · refine h0 (fun q => ?_) _ (d1.trans (Cd_row (by omega) h8 _ _))
    rw [name_go q.2.1] at z
    omega
  · have U : ∀ (v : Int) (a' : Nat), Pg M1 T L a' → Pg (up2 M1 t 4 v) T L a' := fun v a' h => ⟨by rw [up2_row _ _ _ _ (by omega)]; exact h.1, h.2.1, by rw [up2_row _ _ _ _ (by omega)]; exact h.2.2.1, fun k hk => by rw [up2_row _ _ _ _ (by omega)]; exact h.2.2.2 k hk⟩
    have d2 := d1.trans (Cd_row (M := M1) (t := t) (q := t) (by omega) h8 4 (ls (lf T (a + 1)) (m6 (nL T L (a + 1))) : Int))
    by_cases n6 : nL T L (a + 1) ≤ 6
    · rw [name_go n6] at p1 z d2 ⊢
      rw [← e1] at p1
      refine sp_passes hS (U _ _ p1) (by omega) (fun v => ⟨_, _, rfl, fun y => absurd y (by decide), fun _ => ?_⟩) (fun v => ⟨_, _, rfl, fun _ => h0 (fun q => v q.2.2) _ d2, fun y => absurd rfl y⟩)
      exact h1 ⟨by omega, n6, v⟩ _ (Pg_Pn (U _ _ p1) (Pn_up _ _) (up2_get _ _ _ _)) (CR_Pn h8 (CR_up h8 cr1 (by omega) _) (Pn_up _ _)) (d2.trans (Cd_Pn (Pn_up _ _)))
    · have := name_stop n6
      refine sp_passes hS (U _ _ p1) (by omega) (fun w => by omega) (fun w => ⟨_, _, rfl, fun _ => h0 (fun q => n6 q.2.1) _ d2, fun y => absurd rfl y⟩)
theorem or_lt26 {a k : Nat} (ha : a < 67108864) (hk : k < 26) : a ||| 2 ^ k < 67108864 := by
  rw [show (67108864 : Nat) = 2 ^ 26 from rfl] at ha ⊢
  exact Nat.or_lt_two_pow ha (Nat.pow_lt_pow_right (by decide) hk)
theorem sp_setEnemies (hS : KC S) (ht : t ∈ bx_tw) {x y : Nat} (hx : x < 26) (hy : y < 26) (hb : ∀ x, x < 26 → 0 ≤ M (t + 10) x ∧ M (t + 10) x < 67108864) (h : ∀ M', (∀ q, q ≠ t + 10 → M' q = M q) → (∀ x, x < 26 → 0 ≤ M' (t + 10) x ∧ M' (t + 10) x < 67108864) → (∀ a b : Nat, a < 26 → ((M' (t + 10) a).toNat.testBit b = true ↔ (M (t + 10) a).toNat.testBit b = true ∨ (a = x ∧ b = y) ∨ (a = y ∧ b = x))) → Q (S, M', none)) : Ca 71 [.inr (.inr (t + 1)), .inl (x : Int), .inl (y : Int)] S M Q := by
  apply r_X7_setEnemies_0 hS ht
  obtain ⟨q1, q2, q3⟩ := p2_in (v := y) (by omega)
  obtain ⟨r1, r2, r3⟩ := p2_in (v := x) (by omega)
  rw [Int.toNat_natCast, Int.toNat_natCast, q3, r3]
  obtain ⟨M1, hM1⟩ : ∃ z, z = up2 M (t + 10) x ((((M (t + 10) x).toNat ||| 2 ^ y : Nat)) : Int) := ⟨_, rfl⟩
  rw [← hM1]
  have b1 : ∀ k, k < 26 → 0 ≤ M1 (t + 10) k ∧ M1 (t + 10) k < 67108864 := fun k hk => by
    rw [hM1, up2_at]
    split
    · have := or_lt26 (a := (M (t + 10) x).toNat) (k := y) (by have := hb x hx; omega) hy
      omega
    · exact hb k hk
  have c1 : ∀ a b : Nat, (M1 (t + 10) a).toNat.testBit b = true ↔ (M (t + 10) a).toNat.testBit b = true ∨ (a = x ∧ b = y) := fun a b => by
    rw [hM1, up2_at]
    split
    · rename_i e
      rw [Int.toNat_natCast, or_bit, Bool.or_eq_true, decide_eq_true_eq, e]
      exact ⟨fun q => q.elim Or.inl (fun w => Or.inr ⟨rfl, w.symm⟩), fun q => q.elim Or.inl (fun w => Or.inr w.2.symm)⟩
    · rename_i e
      simp [e]
  have bx := hb x hx
  have by' := b1 y hy
  refine ⟨by omega, ⟨by omega, by omega, by omega, q2⟩, ⟨bx.1, q1⟩, by omega, by omega, ⟨by omega, by omega, by omega, r2⟩, ⟨by'.1, r1⟩, by omega, h _ (fun q hq => by rw [up2_row _ _ _ _ hq, hM1, up2_row _ _ _ _ hq]) (fun k hk => ?_) (fun a b ha => ?_)⟩
  · rw [up2_at]
    split
    · have := or_lt26 (a := (M1 (t + 10) y).toNat) (k := x) (by omega) hx
      omega
    · exact b1 k hk
  · rw [up2_at]
    split
    · rename_i e
      rw [Int.toNat_natCast, or_bit, Bool.or_eq_true, decide_eq_true_eq, c1 y b, e]
      constructor
      · rintro (q | q)
        · exact q.elim Or.inl (fun w => Or.inr (Or.inl w))
        · exact Or.inr (Or.inr ⟨rfl, q.symm⟩)
      · rintro (q | q | q)
        · exact Or.inl (Or.inl q)
        · exact Or.inl (Or.inr q)
        · exact Or.inr q.2.symm
    · rename_i e
      rw [c1 a b]
      simp [e]
theorem sp_readQuarrel (hS : KC S) (ht : t ∈ bx_tw) {a : Nat} (hp : Pg M T L (a + 1)) (ha : a < L) (hc : CR M t σ) (hs : SO σ) (h1 : (nL T L (a + 1) = 2 ∧ σ 5 < 6 ∧ sg T L (q1 T L a) = 59) → ∀ M', Pg M' T L (q1 T L a + 1) → CR M' t (putQ σ (lf T (a + 1))) → Cd M M' t → Q (S, M', some (.inl 1))) (h0 : ¬ (nL T L (a + 1) = 2 ∧ σ 5 < 6 ∧ sg T L (q1 T L a) = 59) → ∀ M', Cd M M' t → Q (S, M', some (.inl 0))) : Ca 46 [.inr (.inr 6), .inr (.inr (t + 1))] S M Q := by
  have h8 := tw_8 t ht
  have hL := hp.2.1
  have l1 := nL_le (T := T) (L := L) (a := a + 1)
  have e1 : q1 T L a = a + 1 + nL T L (a + 1) := rfl
  apply r_X5_readQuarrel_0 hS ht
  refine sp_readName hS hp (by omega) (fun M1 g1 g2 g3 g4 => ⟨_, _, rfl, fun z => ?_, fun z => ?_⟩)
  · refine h0 (fun q => z ?_) _ (Cd_nm g1 g2)
    rw [name_go (by omega), q.1]
    rfl
  have n2 : nL T L (a + 1) = 2 := by unfold m6 at z; split at z <;> omega
  have p1 := Pg_nm hp g1 g2 g3
  have d1 : Cd M M1 t := Cd_nm g1 g2
  have cr1 := CR_nm h8 hc g1 g2
  rw [name_go (by omega)] at p1 g4
  rw [← e1] at p1
  have f54 : M1 5 4 = σ 5 := cr1.1.2.2.2.2.2
  rw [f54]
  refine ⟨fun y => h0 (fun q => by omega) _ d1, fun y => sp_passes hS p1 (by omega) (fun v => ⟨_, _, rfl, fun _ => ?_, fun y => absurd y (by decide)⟩) (fun v => ⟨_, _, rfl, fun y => absurd rfl y, fun _ => h0 (fun q => v q.2.2) _ d1⟩)⟩
  have s5 := hs.2.2.2.2.2.1
  obtain ⟨m, hm⟩ : ∃ m : Nat, σ 5 = (m : Int) := ⟨(σ 5).toNat, by omega⟩
  have f0 := lf_in (T := T) (L := L) (b := a + 1) (k := 0) (by omega)
  have f1 := lf_in (T := T) (L := L) (b := a + 1) (k := 1) (by omega)
  have k0 := g4 0 (by omega)
  have k1 := g4 1 (by omega)
  rw [← f0.2] at k0
  rw [← f1.2] at k1
  obtain ⟨M2, hM2⟩ : ∃ z, z = up2 M1 5 3 ((q1 T L a + 1 : Nat) : Int) := ⟨_, rfl⟩
  rw [← hM2]
  have p2 : Pg M2 T L (q1 T L a + 1) := by rw [hM2]; exact Pg_Pn p1 (Pn_up _ _) (up2_get _ _ _ _)
  have c2 : CR M2 t σ := by rw [hM2]; exact CR_Pn h8 cr1 (Pn_up _ _)
  have d2 : Cd M M2 t := by rw [hM2]; exact d1.trans (Cd_Pn (Pn_up _ _))
  have g54 : M2 5 4 = (m : Int) := by rw [c2.1.2.2.2.2.2, hm]
  rw [g54]
  rw [up2_row _ _ _ _ (by decide), show M2 7 = M1 7 by rw [hM2, up2_row _ _ _ _ (by decide)], show (0 : Int).toNat = 0 from rfl, show (1 : Int).toNat = 1 from rfl, k0, k1]
  refine ⟨by unfold inR; omega, by decide, by decide, sp_setEnemies hS ht f0.1 f1.1 (fun x hx => by rw [up2_row _ _ _ _ (by omega)]; exact c2.2.2.2.2.2.2.1 x hx) (fun M3 r1 r2 r3 => ⟨_, rfl, ?_⟩)⟩
  have R : ∀ q, q ≠ 5 → q ≠ t + 10 → M3 q = M2 q := fun q a b => by rw [r1 q b, up2_row _ _ _ _ a]
  have R5 : ∀ k, M3 5 k = if k = 4 then (m : Int) + 1 else M2 5 k := fun k => by rw [r1 5 (by omega), up2_at]
  refine h1 ⟨n2, by omega, v⟩ M3 ⟨by rw [R5, if_neg (by decide)]; exact p2.1, p2.2.1, by rw [R5, if_neg (by decide)]; exact p2.2.2.1, fun k hk => by rw [R 6 (by omega) (by omega)]; exact p2.2.2.2 k hk⟩ ?_ (d2.trans ⟨fun q h5 _ hq => R q h5 (by omega), fun k hk => by rw [R5, if_neg (by omega)]⟩)
  obtain ⟨⟨a0, a1, a2, a3, a4, a5⟩, b1, b2, b3, b4, b5, b6, b7⟩ := c2
  have et : (σ 5).toNat = m := by omega
  have o : ∀ j, j ≠ 5 → j < 120 → putQ σ (lf T (a + 1)) j = σ j := fun j h1 h2 => by unfold putQ; rw [et, if_neg h1, if_neg (by omega), if_neg (by omega)]
  have s0 := hs.1
  refine ⟨⟨?_, ?_, ?_, ?_, ?_, ?_⟩, fun i hi => ?_, fun i hi => ?_, fun k hk => ?_, fun x hx => ?_, fun r hr => ?_, r2, fun x y hx hy => ?_⟩
  · rw [R _ (by omega) (by omega), o 0 (by omega) (by omega)]; exact a0
  · rw [R _ (by omega) (by omega), o 1 (by omega) (by omega)]; exact a1
  · rw [R _ (by omega) (by omega), o 2 (by omega) (by omega)]; exact a2
  · rw [R _ (by omega) (by omega), o 3 (by omega) (by omega)]; exact a3
  · rw [R _ (by omega) (by omega), o 4 (by omega) (by omega)]; exact a4
  · rw [R5, if_pos rfl]; unfold putQ; rw [if_pos rfl, hm]
  · rw [o 0 (by omega) (by omega)] at hi
    rw [R _ (by omega) (by omega), R _ (by omega) (by omega), R _ (by omega) (by omega), R _ (by omega) (by omega)]
    have b := b1 i hi
    have sj := hs.2.2.2.2.2.2.1 i hi
    rw [o (10 + i) (by omega) (by omega), o (70 + i) (by omega) (by omega), o (80 + i) (by omega) (by omega)]
    exact ⟨b.1, b.2.1, b.2.2.1, fun k hk => by rw [o _ (by omega) (by omega)]; exact b.2.2.2 k hk⟩
  · rw [R _ (by omega) (by omega), R _ (by omega) (by omega)]; exact b2 i hi
  · rw [R _ (by omega) (by omega)]; exact b3 k hk
  · rw [R _ (by omega) (by omega), o _ (by omega) (by omega)]; exact b4 x hx
  · rw [R _ (by omega) (by omega), R _ (by omega) (by omega)]; exact b5 r hr
  · rw [r3 x y hx, up2_row _ _ _ _ (by omega), b7 x y hx hy]
    have P5 : putQ σ (lf T (a + 1)) 5 = (m : Int) + 1 := by unfold putQ; rw [if_pos rfl, hm]
    have Pm : putQ σ (lf T (a + 1)) (120 + 2 * m) = (lf T (a + 1) 0 : Int) ∧ putQ σ (lf T (a + 1)) (121 + 2 * m) = (lf T (a + 1) 1 : Int) := by
      unfold putQ
      rw [et, if_neg (by omega), if_pos rfl, if_neg (by omega), if_neg (by omega), if_pos rfl]
      exact ⟨rfl, rfl⟩
    have Pk : ∀ k, k < m → putQ σ (lf T (a + 1)) (120 + 2 * k) = σ (120 + 2 * k) ∧ putQ σ (lf T (a + 1)) (121 + 2 * k) = σ (121 + 2 * k) := fun k hk => by
      unfold putQ
      rw [et, if_neg (by omega), if_neg (by omega), if_neg (by omega), if_neg (by omega), if_neg (by omega), if_neg (by omega)]
      exact ⟨rfl, rfl⟩
    rw [P5, hm]
    constructor
    · rintro (⟨k, hk, q⟩ | q)
      · refine ⟨k, by omega, ?_⟩
        rw [(Pk k (by omega)).1, (Pk k (by omega)).2]; exact q
      · refine ⟨m, by omega, ?_⟩
        rw [Pm.1, Pm.2]
        rcases q with q | q
        · left; omega
        · right; omega
    · rintro ⟨k, hk, q⟩
      by_cases hkm : k = m
      · subst hkm
        rw [Pm.1, Pm.2] at q
        right; omega
      · rw [(Pk k (by omega)).1, (Pk k (by omega)).2] at q
        exact Or.inl ⟨k, by omega, q⟩
end Read2
