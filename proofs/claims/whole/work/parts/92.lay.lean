/-! A NEW TOWN is laid -/
theorem Tn_new {M : Mem} {t n : Nat} {σ : Nat → Int} (hc : CR M t σ) (hs : SO σ) (hn : σ 0 = (n : Int)) (h1 : 1 ≤ n) (c : M 174 0 = σ 0 ∧ M 174 1 = σ 1 ∧ M 174 2 = σ 2 ∧ M 174 3 = σ 3 ∧ M 174 5 = σ 4 ∧ M 174 4 = σ 5) (w : ∀ i, i < n → M 175 i = σ (70 + i)) (p : ∀ k : Nat, (k : Int) < σ 5 → M 179 (2 * k) = σ (120 + 2 * k) ∧ M 179 (2 * k + 1) = σ (121 + 2 * k)) (s : ∀ i, i < n → M 180 i = σ (10 + i) ∧ M 180 (56 + i) = σ (80 + i) ∧ ∀ k : Nat, (k : Int) < σ (10 + i) → M 180 (8 + 6 * i + k) = σ (20 + 6 * i + k)) (z : ∀ k, 64 ≤ k → k < 144 → M 180 k = 0) (r : ∀ x, x < 26 → M 180 (144 + x) = σ (90 + x)) : Tn M t 0 n := by
  obtain ⟨⟨a0, a1, a2, a3, a4, a5⟩, b1, b2, b3, b4, b5, b6, b7⟩ := hc
  obtain ⟨s0, s1, s2, s3, s4, s5, s6, s7, s8⟩ := hs
  obtain ⟨c0, c1, c2, c3, c4, c5⟩ := c
  have e : (fun k => M 180 (170 * 0 + k)) = M 180 := by funext k; congr 1; omega
  have er : ∀ x, x < 26 → M 180 (144 + x) = σ (90 + x) := r
  refine ⟨?_, ?_⟩
  · rw [e]
    refine ⟨by omega, fun i hi => ?_, fun i k hi hk => ?_, fun i hi => ?_, ?_, fun i hi => ?_, fun i hi => ?_, fun i j hi hj => ?_, fun x hx => ?_, ⟨fun x hx => ?_, fun x y hx hy q => ?_⟩, fun x hx => b5 x hx⟩
    · rw [(s i hi).1]
      have := s6 i (by omega)
      exact ⟨(b1 i (by omega)).1, this.1.1, this.1.2⟩
    · rw [(s i hi).1] at hk
      rw [(s i hi).2.2 k hk]
      have := (s6 i (by omega)).2.2.2 k hk
      exact ⟨(b1 i (by omega)).2.2.2 k hk, this.1, this.2⟩
    · rw [(s i hi).2.1]
      exact ⟨(b1 i (by omega)).2.2.1, (s6 i (by omega)).2.2.1.1⟩
    · have := (sumB_b (p := fun _ => true) (W := fun i => M 180 (56 + i)) (b := 99) (by omega) n (fun j hj => by
        show -99 ≤ M 180 (56 + j) ∧ M 180 (56 + j) ≤ 99
        rw [(s j hj).2.1]
        have := (s6 j (by omega)).2.2.1
        omega)).2
      omega
    · exact Or.inl ⟨(b2 i (by omega)).1, z _ (by omega) (by omega)⟩
    · rw [z _ (by omega) (by omega)]
      exact ⟨fun _ => (b2 i hi).2, Or.inl rfl, fun _ => rfl⟩
    · rw [z _ (by omega) (by omega)]
      exact ⟨b3 _ (by omega), by omega, by omega⟩
    · rw [r x hx]; exact b4 x hx
    · show 0 ≤ M 180 (144 + x) ∧ M 180 (144 + x) < 26
      rw [r x hx]; exact s7.1 x hx
    · have q' : M 180 (144 + x) = M 180 (144 + y) := q
      rw [r x hx, r y hy] at q'
      exact s7.2 x y hx hy q'
  · refine ⟨⟨a0.trans hn, c0.trans hn, h1, by omega⟩, ⟨by rw [c1]; exact a1, by omega, by omega⟩, ⟨by rw [c2]; exact a2, by omega, by omega⟩, ⟨by rw [c3]; exact a3, by omega, by omega⟩, ⟨by rw [c4]; exact a4, by omega, by omega⟩, fun i hi => ?_, by omega, fun k hk => ?_, b6, fun x y hx hy => ?_⟩
    · rw [w i hi]
      have := s6 i (by omega)
      exact ⟨(b1 i (by omega)).2.1, this.2.1.1, this.2.1.2⟩
    · rw [(p k (by omega)).1, (p k (by omega)).2]
      exact s8 k (by omega)
    · rw [b7 x y hx hy]
      unfold mQ
      rw [c5]
      constructor
      · rintro ⟨k, hk, q⟩
        exact ⟨k, by omega, by rw [(p k hk).1, (p k hk).2]; exact q⟩
      · rintro ⟨k, hk, q⟩
        have hk' : (k : Int) < σ 5 := by omega
        rw [(p k hk').1, (p k hk').2] at q
        exact ⟨k, hk', q⟩
section Lay
variable {S : Shp} {M : Mem} {Q : Res → Prop} {σ : Nat → Int}
/-- what the reference has then -/
def Tk (M M' : Mem) (σ : Nat → Int) : Prop :=
  (∀ q, q ≠ 172 → q ≠ 174 → q ≠ 175 → q ≠ 179 → q ≠ 180 → M' q = M q) ∧
  (∀ k, k ≠ 10 → k ≠ 11 → k ≠ 12 → k ≠ 14 → M' 172 k = M 172 k) ∧ (M' 172 10 = 0 ∧ M' 172 11 = 0 ∧ M' 172 12 = 0 ∧ M' 172 14 = 0) ∧
  (M' 174 0 = σ 0 ∧ M' 174 1 = σ 1 ∧ M' 174 2 = σ 2 ∧ M' 174 3 = σ 3 ∧ M' 174 5 = σ 4 ∧ M' 174 4 = σ 5) ∧
  (∀ i : Nat, (i : Int) < σ 0 → M' 175 i = σ (70 + i)) ∧
  (∀ k : Nat, (k : Int) < σ 5 → M' 179 (2 * k) = σ (120 + 2 * k) ∧ M' 179 (2 * k + 1) = σ (121 + 2 * k)) ∧
  (∀ i : Nat, (i : Int) < σ 0 → M' 180 i = σ (10 + i) ∧ M' 180 (56 + i) = σ (80 + i) ∧ ∀ k : Nat, (k : Int) < σ (10 + i) → M' 180 (8 + 6 * i + k) = σ (20 + 6 * i + k)) ∧
  (∀ k, 64 ≤ k → k < 144 → M' 180 k = 0) ∧ (∀ x, x < 26 → M' 180 (144 + x) = σ (90 + x))
theorem sq_takes (hM : KM S) (hc : MR M σ) (hs : SO σ) (h : ∀ M', Tk M M' σ → Q (S, M', none)) : Ca 153 [.inr (.inr 173)] S M Q := by
  obtain ⟨⟨a0, a1, a2, a3, a4, a5⟩, b1, b2, b3⟩ := hc
  obtain ⟨s0, s1, s2, s3, s4, s5, s6, s7, s8⟩ := hs
  obtain ⟨n, hn⟩ : ∃ n : Nat, σ 0 = (n : Int) := ⟨(σ 0).toNat, by omega⟩
  rw [hn] at b1 s6
  -- what stays through the loops over the slot
  have G : ∀ M1 : Mem, Prop := fun _ => True
  clear G
  obtain ⟨P, hP⟩ : ∃ P : Mem → Prop, P = fun M1 => (∀ q, q ≠ 174 → q ≠ 175 → q ≠ 179 → q ≠ 180 → M1 q = M q) ∧ (M1 174 0 = σ 0 ∧ M1 174 1 = σ 1 ∧ M1 174 2 = σ 2 ∧ M1 174 3 = σ 3 ∧ M1 174 5 = σ 4 ∧ M1 174 4 = σ 5) ∧ (∀ k, k < 12 → M1 179 k = M 179 (12 + k)) ∧ (∀ k, k < 8 → M1 175 k = M 175 (8 + k)) := ⟨_, rfl⟩
  have Pu : ∀ M1 k v, P M1 → P (up2 M1 180 k v) := fun M1 k v p => by
    rw [hP] at p ⊢
    refine ⟨fun q x y z w => by rw [up2_row _ _ _ _ w]; exact p.1 q x y z w, ?_, ?_, ?_⟩
    · rw [up2_row _ _ _ _ (by decide)]; exact p.2.1
    · rw [up2_row _ _ _ _ (by decide)]; exact p.2.2.1
    · rw [up2_row _ _ _ _ (by decide)]; exact p.2.2.2
  have P6 : ∀ M1, P M1 → M1 176 = M 176 ∧ M1 177 = M 177 ∧ M1 178 = M 178 ∧ M1 174 0 = (n : Int) := fun M1 p => by
    rw [hP] at p
    exact ⟨p.1 _ (by decide) (by decide) (by decide) (by decide), p.1 _ (by decide) (by decide) (by decide) (by decide), p.1 _ (by decide) (by decide) (by decide) (by decide), by rw [p.2.1.1, hn]⟩
  obtain ⟨A, hA⟩ : ∃ A : Mem → Nat → Prop, A = fun M1 i => ∀ j : Nat, j < i → M1 180 j = σ (10 + j) ∧ M1 180 (56 + j) = σ (80 + j) ∧ ∀ k : Nat, (k : Int) < σ (10 + j) → M1 180 (8 + 6 * j + k) = σ (20 + 6 * j + k) := ⟨_, rfl⟩
  have loop5 : ∀ (d x : Nat) (M1 : Mem), x + d = 26 → P M1 → A M1 n → (∀ k, 64 ≤ k → k < 144 → M1 180 k = 0) → (∀ y, y < x → M1 180 (144 + y) = σ (90 + y)) → En 153 121 [some (.inr (.inr 173)), some (.inl (x : Int)), none] [] S M1 Q := by
    intro d
    induction d with
    | zero =>
      intro x M1 hx p f2 f3 f4
      have e : x = 26 := by omega
      subst e
      apply r_X9_takes_121 hM
      refine ⟨fun _ => h _ ?_, fun z => by omega⟩
      rw [hP] at p
      rw [hA] at f2
      have R : ∀ q, q ≠ 172 → (up2 (up2 (up2 (up2 M1 172 12 (0 : Int)) 172 14 (0 : Int)) 172 11 (0 : Int)) 172 10 (0 : Int)) q = M1 q := fun q hq => by rw [up2_row _ _ _ _ hq, up2_row _ _ _ _ hq, up2_row _ _ _ _ hq, up2_row _ _ _ _ hq]
      refine ⟨fun q x1 x2 x3 x4 x5 => by rw [R q x1]; exact p.1 q x2 x3 x4 x5, fun k x1 x2 x3 x4 => ?_, ?_, ?_, fun i hi => ?_, fun k hk => ?_, fun i hi => ?_, ?_, ?_⟩
      · rw [up2_off _ _ _ _ x1, up2_off _ _ _ _ x2, up2_off _ _ _ _ x4, up2_off _ _ _ _ x3, p.1 172 (by decide) (by decide) (by decide) (by decide)]
      · simp [up2_any]
      · rw [R 174 (by decide)]; exact p.2.1
      · rw [R 175 (by decide), p.2.2.2 i (by omega)]; exact (b1 i (by omega)).2.1
      · rw [R 179 (by decide), p.2.2.1 _ (by omega), p.2.2.1 _ (by omega), show 12 + (2 * k + 1) = 13 + 2 * k by omega]; exact b3 k hk
      · rw [R 180 (by decide)]; exact f2 i (by omega)
      · rw [R 180 (by decide)]; exact f3
      · rw [R 180 (by decide)]; exact f4
    | succ d ih =>
      intro x M1 hx p f2 f3 f4
      apply r_X9_takes_121 hM
      rw [Int.toNat_natCast, show ((144 : Int) + x).toNat = 144 + x by omega, (P6 M1 p).2.2.1, b2 x (by omega), show ((x : Int) + 1) = ((x + 1 : Nat) : Int) by omega]
      refine ⟨fun z => by omega, fun _ => ⟨by unfold inR; omega, by omega, by omega, by unfold inR; omega, ih (x + 1) _ (by omega) (Pu _ _ _ p) ?_ (fun k h1 h2 => ?_) (fun y hy => ?_)⟩⟩
      · rw [hA] at f2 ⊢
        intro j hj
        have g := f2 j hj
        have sj := s6 j (by omega)
        rw [up2_off _ _ _ _ (by omega), up2_off _ _ _ _ (by omega)]
        exact ⟨g.1, g.2.1, fun k hk => by rw [up2_off _ _ _ _ (by omega)]; exact g.2.2 k hk⟩
      · rw [up2_off _ _ _ _ (by omega)]; exact f3 k h1 h2
      · rw [up2_at]
        by_cases hyx : y = x
        · rw [if_pos (by omega), hyx]
        · rw [if_neg (by omega)]; exact f4 y (by omega)
  have loop4 : ∀ (d i : Nat) (M1 : Mem), i + d = n → P M1 → A M1 i → (∀ k, 64 ≤ k → k < 144 → M1 180 k = 0) → En 153 61 [some (.inr (.inr 173)), some (.inl (i : Int)), none] [] S M1 Q := by
    intro d
    induction d with
    | zero =>
      intro i M1 hi p f2 f3
      have e : i = n := by omega
      subst e
      apply r_X9_takes_61 hM
      rw [show (0 : Int).toNat = 0 from rfl, (P6 M1 p).2.2.2]
      exact ⟨by decide, fun _ => loop5 26 0 M1 rfl p f2 f3 (fun y hy => by omega), fun z => by omega⟩
    | succ d ih =>
      intro i M1 hi p f2 f3
      have sj := s6 i (by omega)
      have bj := b1 i (by omega)
      obtain ⟨m, hm⟩ : ∃ m : Nat, σ (10 + i) = (m : Int) := ⟨(σ (10 + i)).toNat, by omega⟩
      rw [hm] at bj sj
      have inner : ∀ (e k : Nat) (M2 : Mem), k + e = m → P M2 → A M2 i → (∀ k, 64 ≤ k → k < 144 → M2 180 k = 0) → M2 180 i = (m : Int) → M2 180 (56 + i) = σ (80 + i) → (∀ j : Nat, j < k → M2 180 (8 + 6 * i + j) = σ (20 + 6 * i + j)) → En 153 89 [some (.inr (.inr 173)), some (.inl (i : Int)), some (.inl (k : Int))] [] S M2 Q := by
        intro e
        induction e with
        | zero =>
          intro k M2 hk p g1 g2 g3 g4 g5
          have ek : k = m := by omega
          subst ek
          apply r_X9_takes_89 hM
          rw [Int.toNat_natCast, g3, show ((i : Int) + 1) = ((i + 1 : Nat) : Int) by omega]
          refine ⟨by omega, fun _ => ⟨by unfold inR; omega, ih (i + 1) M2 (by omega) p ?_ g2⟩, fun z => by omega⟩
          rw [hA] at g1 ⊢
          intro j hj
          by_cases hji : j = i
          · subst hji
            rw [hm]
            exact ⟨g3, g4, fun q hq => g5 q (by omega)⟩
          · exact g1 j (by omega)
        | succ e ih2 =>
          intro k M2 hk p g1 g2 g3 g4 g5
          apply r_X9_takes_89 hM
          have e1 : (((8 : Int) + 6 * (i : Int)) + k).toNat = 8 + 6 * i + k := by omega
          have e2 : (((7 : Int) * (i : Int) + 1) + k).toNat = 7 * i + 1 + k := by omega
          rw [Int.toNat_natCast, g3, e1, e2, (P6 M2 p).1, bj.2.2.2 k (by omega), show ((k : Int) + 1) = ((k + 1 : Nat) : Int) by omega]
          refine ⟨by omega, fun z => by omega, fun _ => ⟨by unfold inR; omega, by unfold inR; omega, by unfold inR; omega, by unfold inR; omega, by unfold inR; omega, by unfold inR; omega, by omega, by omega, by unfold inR; omega, ih2 (k + 1) _ (by omega) (Pu _ _ _ p) ?_ (fun k h1 h2 => ?_) ?_ ?_ (fun j hj => ?_)⟩⟩
          · rw [hA] at g1 ⊢
            intro j hj
            have g := g1 j hj
            have sj := s6 j (by omega)
            rw [up2_off _ _ _ _ (by omega), up2_off _ _ _ _ (by omega)]
            exact ⟨g.1, g.2.1, fun q hq => by rw [up2_off _ _ _ _ (by omega)]; exact g.2.2 q hq⟩
          · rw [up2_off _ _ _ _ (by omega)]; exact g2 k h1 h2
          · rw [up2_off _ _ _ _ (by omega)]; exact g3
          · rw [up2_off _ _ _ _ (by omega)]; exact g4
          · rw [up2_at]
            by_cases hjk : j = k
            · rw [if_pos (by omega), hjk]
            · rw [if_neg (by omega)]; exact g5 j (by omega)
      apply r_X9_takes_61 hM
      have e1 : ((7 : Int) * (i : Int)).toNat = 7 * i := by omega
      have e2 : ((56 : Int) + (i : Int)).toNat = 56 + i := by omega
      rw [show (0 : Int).toNat = 0 from rfl, (P6 M1 p).2.2.2, e1, e2, Int.toNat_natCast, (P6 M1 p).1, bj.1, up2_row _ _ _ _ (by decide), (P6 M1 p).2.1, bj.2.2.1]
      refine ⟨by decide, fun z => by omega, fun _ => ⟨by unfold inR; omega, by omega, by omega, by unfold inR; omega, by omega, by omega, inner m 0 _ (by omega) (Pu _ _ _ (Pu _ _ _ p)) ?_ (fun k h1 h2 => ?_) ?_ ?_ (fun j hj => by omega)⟩⟩
      · rw [hA] at f2 ⊢
        intro j hj
        have g := f2 j hj
        have sj := s6 j (by omega)
        rw [up2_off _ _ _ _ (by omega), up2_off _ _ _ _ (by omega), up2_off _ _ _ _ (by omega), up2_off _ _ _ _ (by omega)]
        exact ⟨g.1, g.2.1, fun q hq => by rw [up2_off _ _ _ _ (by omega), up2_off _ _ _ _ (by omega)]; exact g.2.2 q hq⟩
      · rw [up2_off _ _ _ _ (by omega), up2_off _ _ _ _ (by omega)]; exact f3 k h1 h2
      · rw [up2_off _ _ _ _ (by omega), up2_get]
      · rw [up2_get]
  have loop3 : ∀ (d k : Nat) (M1 : Mem), k + d = 170 → P M1 → (∀ j, j < k → M1 180 j = 0) → En 153 49 [some (.inr (.inr 173)), some (.inl (k : Int)), none] [] S M1 Q := by
    intro d
    induction d with
    | zero =>
      intro k M1 hk p f2
      have e : k = 170 := by omega
      subst e
      apply r_X9_takes_49 hM
      refine ⟨fun _ => loop4 n 0 M1 (by omega) p ?_ (fun k _ h2 => f2 k (by omega)), fun z => by omega⟩
      rw [hA]
      intro j hj
      omega
    | succ d ih =>
      intro k M1 hk p f2
      apply r_X9_takes_49 hM
      rw [Int.toNat_natCast, show ((k : Int) + 1) = ((k + 1 : Nat) : Int) by omega]
      refine ⟨fun z => by omega, fun _ => ⟨by omega, by unfold inR; omega, ih (k + 1) _ (by omega) (Pu _ _ _ p) (fun j hj => ?_)⟩⟩
      rw [up2_at]
      by_cases hjk : j = k
      · rw [if_pos hjk]
      · rw [if_neg hjk]; exact f2 j (by omega)
  have loop2 : ∀ (d k : Nat) (M1 : Mem), k + d = 12 → (∀ q, q ≠ 174 → q ≠ 175 → q ≠ 179 → M1 q = M q) → (M1 174 0 = σ 0 ∧ M1 174 1 = σ 1 ∧ M1 174 2 = σ 2 ∧ M1 174 3 = σ 3 ∧ M1 174 5 = σ 4 ∧ M1 174 4 = σ 5) → (∀ j, j < k → M1 179 j = M 179 (12 + j)) → (∀ j, 12 ≤ j → M1 179 j = M 179 j) → (∀ j, j < k → j < 8 → M1 175 j = M 175 (8 + j)) → (∀ j, 8 ≤ j → M1 175 j = M 175 j) → En 153 19 [some (.inr (.inr 173)), some (.inl (k : Int)), none] [] S M1 Q := by
    intro d
    induction d with
    | zero =>
      intro k M1 hk f1 f2 f3 f4 f5 f6
      have e : k = 12 := by omega
      subst e
      apply r_X9_takes_19 hM
      refine ⟨fun _ => loop3 170 0 M1 rfl ?_ (fun j hj => by omega), fun z => by omega⟩
      rw [hP]
      exact ⟨fun q x y z _ => f1 q x y z, f2, f3, fun j hj => f5 j (by omega) hj⟩
    | succ d ih =>
      intro k M1 hk f1 f2 f3 f4 f5 f6
      apply r_X9_takes_19 hM
      rw [Int.toNat_natCast, show ((12 : Int) + (k : Int)).toNat = 12 + k by omega, show ((8 : Int) + (k : Int)).toNat = 8 + k by omega, up2_row (a := 175) _ _ _ _ (by decide), f4 (12 + k) (by omega), f6 (8 + k) (by omega), show ((k : Int) + 1) = ((k + 1 : Nat) : Int) by omega]
      refine ⟨fun z => by omega, fun _ => ⟨by unfold inR; omega, by omega, by omega, fun w => ⟨by unfold inR; omega, ih (k + 1) _ (by omega) (fun q x y z => by rw [up2_row _ _ _ _ z]; exact f1 q x y z) (by rw [up2_row _ _ _ _ (by decide)]; exact f2) (fun j hj => ?_) (fun j hj => ?_) (fun j hj h8 => ?_) (fun j hj => ?_)⟩, fun w => ⟨by unfold inR; omega, by omega, by omega, by unfold inR; omega, ih (k + 1) _ (by omega) (fun q x y z => by rw [up2_row _ _ _ _ y, up2_row _ _ _ _ z]; exact f1 q x y z) (by rw [up2_row _ _ _ _ (by decide), up2_row _ _ _ _ (by decide)]; exact f2) (fun j hj => ?_) (fun j hj => ?_) (fun j hj h8 => ?_) (fun j hj => ?_)⟩⟩⟩
      · rw [up2_at]
        by_cases hjk : j = k
        · rw [if_pos hjk, hjk]
        · rw [if_neg hjk]; exact f3 j (by omega)
      · rw [up2_off _ _ _ _ (by omega)]; exact f4 j hj
      · rw [up2_row _ _ _ _ (by decide)]; exact f5 j (by omega) h8
      · rw [up2_row _ _ _ _ (by decide)]; exact f6 j hj
      · rw [up2_row _ _ _ _ (by decide), up2_at]
        by_cases hjk : j = k
        · rw [if_pos hjk, hjk]
        · rw [if_neg hjk]; exact f3 j (by omega)
      · rw [up2_row _ _ _ _ (by decide), up2_off _ _ _ _ (by omega)]; exact f4 j hj
      · rw [up2_at]
        by_cases hjk : j = k
        · rw [if_pos hjk, hjk]
        · rw [if_neg hjk, up2_row _ _ _ _ (by decide)]; exact f5 j (by omega) h8
      · rw [up2_off _ _ _ _ (by omega), up2_row _ _ _ _ (by decide)]; exact f6 j hj
  have loop1 : ∀ (d k : Nat) (M1 : Mem), k + d = 6 → (∀ q, q ≠ 174 → M1 q = M q) → (∀ j, j < k → M1 174 j = M 174 (6 + j)) → (∀ j, 6 ≤ j → M1 174 j = M 174 j) → En 153 2 [some (.inr (.inr 173)), some (.inl (k : Int)), none] [] S M1 Q := by
    intro d
    induction d with
    | zero =>
      intro k M1 hk f1 f2 f3
      have e : k = 6 := by omega
      subst e
      apply r_X9_takes_2 hM
      refine ⟨fun _ => loop2 12 0 M1 rfl (fun q x _ _ => f1 q x) ?_ (fun j hj => by omega) (fun j hj => by rw [f1 179 (by decide)]) (fun j hj => by omega) (fun j hj => by rw [f1 175 (by decide)]), fun z => by omega⟩
      rw [f2 0 (by decide), f2 1 (by decide), f2 2 (by decide), f2 3 (by decide), f2 4 (by decide), f2 5 (by decide)]
      exact ⟨a0, a1, a2, a3, a4, a5⟩
    | succ d ih =>
      intro k M1 hk f1 f2 f3
      apply r_X9_takes_2 hM
      rw [Int.toNat_natCast, show ((6 : Int) + (k : Int)).toNat = 6 + k by omega, f3 (6 + k) (by omega), show ((k : Int) + 1) = ((k + 1 : Nat) : Int) by omega]
      refine ⟨fun z => by omega, fun _ => ⟨by unfold inR; omega, by omega, by omega, by unfold inR; omega, ih (k + 1) _ (by omega) (fun q x => by rw [up2_row _ _ _ _ x]; exact f1 q x) (fun j hj => ?_) (fun j hj => ?_)⟩⟩
      · rw [up2_at]
        by_cases hjk : j = k
        · rw [if_pos hjk, hjk]
        · rw [if_neg hjk]; exact f2 j (by omega)
      · rw [up2_off _ _ _ _ (by omega)]; exact f3 j hj
  apply r_X9_takes_0 hM
  exact loop1 6 0 M rfl (fun _ _ => rfl) (fun j hj => by omega) (fun _ _ => rfl)
end Lay
