/-! SEATS: fewest quarrels, ways, the first way, as a function of who sits and who sits last -/
/-- how many below m are not in a set -/
def ce (s : Nat) : Nat → Nat
  | 0 => 0
  | m + 1 => ce s m + (if s.testBit m = true then 0 else 1)
theorem ce_le (s : Nat) : ∀ m, ce s m ≤ m := by
  intro m
  induction m with
  | zero => exact Nat.le_refl 0
  | succ m ih => rw [ce]; split <;> omega
theorem ce_ex {s : Nat} : ∀ m, 1 ≤ ce s m → ∃ i, i < m ∧ s.testBit i = false := by
  intro m
  induction m with
  | zero => intro h; rw [ce] at h; omega
  | succ m ih =>
    intro h
    by_cases hb : s.testBit m = true
    · rw [ce, if_pos hb] at h
      obtain ⟨i, h1, h2⟩ := ih (by omega)
      exact ⟨i, by omega, h2⟩
    · exact ⟨m, by omega, by simpa using hb⟩
theorem or_bit (s m k : Nat) : (s ||| 2 ^ m).testBit k = (s.testBit k || decide (m = k)) := by rw [Nat.testBit_or, Nat.testBit_two_pow]
theorem ce_set {s i : Nat} (hb : s.testBit i = false) : ∀ m, ce (s ||| 2 ^ i) m + (if i < m then 1 else 0) = ce s m := by
  intro m
  induction m with
  | zero => rw [ce, ce, if_neg (by omega)]
  | succ m ih =>
    rw [ce, ce, or_bit]
    by_cases him : i = m
    · subst him
      rw [if_neg (by omega)] at ih
      rw [if_pos (by simp), if_pos (by omega), hb, if_neg (by decide)]
      omega
    · have e : (s.testBit m || decide (i = m)) = s.testBit m := by simp [him]
      rw [e]
      by_cases hlt : i < m
      · rw [if_pos hlt] at ih; rw [if_pos (by omega : i < m + 1)]; omega
      · rw [if_neg hlt] at ih; rw [if_neg (by omega : ¬ i < m + 1)]; omega
theorem ce_none {s : Nat} : ∀ m, (∀ k, k < m → s.testBit k = true) → ce s m = 0 := by
  intro m
  induction m with
  | zero => intro _; rfl
  | succ m ih => intro h; rw [ce, ih (fun k hk => h k (by omega)), if_pos (h m (by omega))]
theorem ce_pos {s i : Nat} (hb : s.testBit i = false) : ∀ m, i < m → 1 ≤ ce s m := by
  intro m hm
  have := ce_set hb m
  rw [if_pos hm] at this
  omega
abbrev T3 : Type := Int × Int × (Nat → Nat)
def cmb (a b : T3) : T3 := if b.1 < a.1 then b else if b.1 = a.1 then (a.1, a.2.1 + b.2.1, a.2.2) else a
theorem cmb_lt {a b : T3} (h : b.1 < a.1) : cmb a b = b := by unfold cmb; rw [if_pos h]
theorem cmb_eq {a b : T3} (h : b.1 = a.1) : cmb a b = (a.1, a.2.1 + b.2.1, a.2.2) := by unfold cmb; rw [if_neg (by omega), if_pos h]
theorem cmb_gt {a b : T3} (h : a.1 < b.1) : cmb a b = a := by unfold cmb; rw [if_neg (by omega), if_neg (by omega)]
theorem cmb_fst (a b : T3) : (cmb a b).1 ≤ a.1 ∧ (cmb a b).1 ≤ b.1 ∧ ((cmb a b).1 = a.1 ∨ (cmb a b).1 = b.1) := by
  rcases Int.lt_trichotomy b.1 a.1 with h | h | h
  · rw [cmb_lt h]; exact ⟨by omega, Int.le_refl _, Or.inr rfl⟩
  · rw [cmb_eq h]; exact ⟨Int.le_refl _, by show a.1 ≤ b.1; omega, Or.inl rfl⟩
  · rw [cmb_gt h]; exact ⟨Int.le_refl _, by omega, Or.inl rfl⟩
theorem cmb_assoc (a b c : T3) : cmb (cmb a b) c = cmb a (cmb b c) := by
  rcases Int.lt_trichotomy b.1 a.1 with h1 | h1 | h1
  · have := cmb_fst b c
    rw [cmb_lt h1, cmb_lt (a := a) (b := cmb b c) (by omega)]
  · rcases Int.lt_trichotomy c.1 b.1 with h2 | h2 | h2
    · rw [cmb_lt h2, cmb_lt (a := a) (b := c) (by omega)]
      exact cmb_lt (by have := cmb_fst a b; omega)
    · rw [cmb_eq h2, cmb_eq h1, cmb_eq (a := (a.1, a.2.1 + b.2.1, a.2.2)) (b := c) (by show c.1 = a.1; omega), cmb_eq (a := a) (b := (b.1, b.2.1 + c.2.1, b.2.2)) h1]
      show (a.1, a.2.1 + b.2.1 + c.2.1, a.2.2) = (a.1, a.2.1 + (b.2.1 + c.2.1), a.2.2)
      rw [Int.add_assoc]
    · rw [cmb_gt h2]
      exact cmb_gt (by have := cmb_fst a b; omega)
  · rw [cmb_gt h1]
    rcases Int.lt_trichotomy c.1 b.1 with h2 | h2 | h2
    · rw [cmb_lt h2]
    · rw [cmb_eq h2, cmb_gt (a := a) (b := c) (by omega)]
      exact (cmb_gt (a := a) (b := (b.1, b.2.1 + c.2.1, b.2.2)) h1).symm
    · rw [cmb_gt h2, cmb_gt h1, cmb_gt (by omega)]
def trS (f : Nat → T3) (s : Nat) : Nat → T3
  | 0 => (9, 0, fun _ => 0)
  | m + 1 => if s.testBit m = true then trS f s m else cmb (trS f s m) (f m)
def tr (be : Nat → Nat → Int) (cl : Nat → Int) (n : Nat) : Nat → Nat → Nat → T3
  | 0, _, l => (cl l, 1, fun _ => 0)
  | e + 1, s, l => trS (fun m => (be l m + (tr be cl n e (s ||| 2 ^ m) m).1, (tr be cl n e (s ||| 2 ^ m) m).2.1, rset (tr be cl n e (s ||| 2 ^ m) m).2.2 (n - (e + 1)) m)) s n
theorem trS_congr {f g : Nat → T3} {s : Nat} : ∀ m, (∀ k, k < m → s.testBit k = false → f k = g k) → trS f s m = trS g s m := by
  intro m
  induction m with
  | zero => intro _; rfl
  | succ m ih =>
    intro h
    rw [trS, trS, ih (fun k hk => h k (by omega))]
    by_cases hb : s.testBit m = true
    · rw [if_pos hb, if_pos hb]
    · rw [if_neg hb, if_neg hb, h m (by omega) (by simpa using hb)]
theorem trS_in {f : Nat → T3} {s : Nat} {B W : Int} (hB : B < 9) (hW : 0 ≤ W) : ∀ m : Nat, (∀ k, k < m → s.testBit k = false → 0 ≤ (f k).1 ∧ (f k).1 ≤ B ∧ 1 ≤ (f k).2.1 ∧ (f k).2.1 ≤ W) → 0 ≤ (trS f s m).1 ∧ 0 ≤ (trS f s m).2.1 ∧ (trS f s m).2.1 ≤ m * W ∧ (∀ k, k < m → s.testBit k = false → (trS f s m).1 ≤ (f k).1 ∧ 1 ≤ (trS f s m).2.1) ∧ (trS f s m).1 ≤ 9 := by
  intro m
  induction m with
  | zero => intro _; rw [trS]; exact ⟨by decide, by decide, by simp, fun k hk => by omega, by decide⟩
  | succ m ih =>
    intro h
    obtain ⟨a1, a2, a3, a4, a5⟩ := ih (fun k hk => h k (by omega))
    have e : ((m + 1 : Nat) : Int) * W = m * W + W := by rw [Int.natCast_add, Int.add_mul]; simp
    rw [trS, e]
    by_cases hb : s.testBit m = true
    · rw [if_pos hb]
      refine ⟨a1, a2, by omega, fun k hk hk2 => ?_, a5⟩
      by_cases hkm : k = m
      · subst hkm; rw [hb] at hk2; cases hk2
      · exact a4 k (by omega) hk2
    · rw [if_neg hb]
      have fm := h m (by omega) (by simpa using hb)
      unfold cmb
      split
      · refine ⟨fm.1, by omega, by omega, fun k hk hk2 => ?_, by omega⟩
        by_cases hkm : k = m
        · subst hkm; exact ⟨Int.le_refl _, fm.2.2.1⟩
        · have := a4 k (by omega) hk2
          exact ⟨by omega, fm.2.2.1⟩
      · split
        · dsimp only
          refine ⟨a1, by omega, by omega, fun k hk hk2 => ?_, a5⟩
          by_cases hkm : k = m
          · subst hkm; exact ⟨by omega, by omega⟩
          · have := a4 k (by omega) hk2
            exact ⟨by omega, by omega⟩
        · rename_i h1 h2
          refine ⟨a1, a2, by omega, fun k hk hk2 => ?_, a5⟩
          by_cases hkm : k = m
          · subst hkm
            refine ⟨by omega, ?_⟩
            by_cases hex : ∃ j, j < k ∧ s.testBit j = false
            · obtain ⟨j, hj, hj2⟩ := hex
              exact (a4 j hj hj2).2
            · exfalso
              have : ∀ q, q ≤ k → trS f s q = (9, 0, fun _ => 0) := by
                intro q
                induction q with
                | zero => intro _; rfl
                | succ q ihq =>
                  intro hq
                  have hbq : s.testBit q = true := by
                    cases hh : s.testBit q
                    · exact absurd ⟨q, by omega, hh⟩ hex
                    · rfl
                  rw [trS, if_pos hbq]; exact ihq (by omega)
              rw [this k (Nat.le_refl k)] at h1 h2
              dsimp only at h1 h2
              omega
          · exact a4 k (by omega) hk2
theorem trS_first {f : Nat → T3} {s : Nat} : ∀ m : Nat, (∀ k, k < m → s.testBit k = false → (f k).1 < 9) → (∀ k, k < m → s.testBit k = true) ∧ trS f s m = (9, 0, fun _ => 0) ∨ ∃ k, k < m ∧ s.testBit k = false ∧ (trS f s m).1 = (f k).1 ∧ (trS f s m).2.2 = (f k).2.2 ∧ ∀ j, j < k → s.testBit j = false → (f k).1 < (f j).1 := by
  intro m
  induction m with
  | zero => intro _; exact Or.inl ⟨fun k hk => by omega, rfl⟩
  | succ m ih =>
    intro h
    have ih := ih (fun k hk => h k (by omega))
    rw [trS]
    by_cases hb : s.testBit m = true
    · rw [if_pos hb]
      rcases ih with ⟨a, b⟩ | ⟨k, k1, k2, k3, k4, k5⟩
      · refine Or.inl ⟨fun k hk => ?_, b⟩
        by_cases hkm : k = m
        · rw [hkm]; exact hb
        · exact a k (by omega)
      · exact Or.inr ⟨k, by omega, k2, k3, k4, k5⟩
    · rw [if_neg hb]
      have hbf : s.testBit m = false := by simpa using hb
      have fm := h m (by omega) hbf
      right
      rcases ih with ⟨a, b⟩ | ⟨k, k1, k2, k3, k4, k5⟩
      · refine ⟨m, by omega, hbf, ?_, ?_, fun j hj hj2 => ?_⟩
        · rw [b]; unfold cmb; rw [if_pos fm]
        · rw [b]; unfold cmb; rw [if_pos fm]
        · rw [a j hj] at hj2; cases hj2
      · unfold cmb
        by_cases c1 : (f m).1 < (trS f s m).1
        · rw [if_pos c1]
          refine ⟨m, by omega, hbf, rfl, rfl, fun j hj hj2 => ?_⟩
          by_cases c2 : (f m).1 < (f j).1
          · exact c2
          · exfalso
            have : (trS f s m).1 ≤ (f j).1 := by
              have : ∀ q, q ≤ m → j < q → (trS f s q).1 ≤ (f j).1 := by
                intro q
                induction q with
                | zero => intro _ h2; omega
                | succ q ihq =>
                  intro hq h2
                  rw [trS]
                  by_cases hbq : s.testBit q = true
                  · rw [if_pos hbq]
                    by_cases hjq : j = q
                    · subst hjq; rw [hbq] at hj2; cases hj2
                    · exact ihq (by omega) (by omega)
                  · rw [if_neg hbq]
                    unfold cmb
                    by_cases hjq : j = q
                    · subst hjq
                      split
                      · exact Int.le_refl _
                      · split <;> ((try dsimp only); omega)
                    · have := ihq (by omega) (by omega)
                      split
                      · omega
                      · split <;> ((try dsimp only); omega)
              exact this m (Nat.le_refl m) hj
            omega
        · rw [if_neg c1]
          by_cases c2 : (f m).1 = (trS f s m).1
          · rw [if_pos c2]; exact ⟨k, by omega, k2, k3, k4, k5⟩
          · rw [if_neg c2]; exact ⟨k, by omega, k2, k3, k4, k5⟩
/-- what is right of the numbers -/
def sgood (be : Nat → Nat → Int) (cl : Nat → Int) : Prop := (∀ i j, 0 ≤ be i j ∧ be i j ≤ 1) ∧ ∀ l, 0 ≤ cl l ∧ cl l ≤ 1
theorem tr_in {be : Nat → Nat → Int} {cl : Nat → Int} {n : Nat} (hg : sgood be cl) (hn : n ≤ 8) : ∀ e s l, ce s n = e → e ≤ 7 → 0 ≤ (tr be cl n e s l).1 ∧ (tr be cl n e s l).1 ≤ e + 1 ∧ 1 ≤ (tr be cl n e s l).2.1 ∧ (tr be cl n e s l).2.1 ≤ ((8 ^ e : Nat) : Int) := by
  intro e
  induction e with
  | zero =>
    intro s l _ _
    have := hg.2 l
    rw [tr]
    exact ⟨this.1, by simpa using this.2, Int.le_refl 1, Int.le_refl 1⟩
  | succ e ih =>
    intro s l hc he
    rw [tr]
    obtain ⟨f, hf⟩ : ∃ f : Nat → T3, f = (fun m => (be l m + (tr be cl n e (s ||| 2 ^ m) m).1, (tr be cl n e (s ||| 2 ^ m) m).2.1, rset (tr be cl n e (s ||| 2 ^ m) m).2.2 (n - (e + 1)) m)) := ⟨_, rfl⟩
    rw [← hf]
    have fb : ∀ k, k < n → s.testBit k = false → 0 ≤ (f k).1 ∧ (f k).1 ≤ (e : Int) + 2 ∧ 1 ≤ (f k).2.1 ∧ (f k).2.1 ≤ ((8 ^ e : Nat) : Int) := fun k hk hb => by
      have c := ce_set hb n
      rw [if_pos hk] at c
      have a := ih (s ||| 2 ^ k) k (by omega) (by omega)
      have b := hg.1 l k
      rw [hf]
      dsimp only
      omega
    obtain ⟨a1, a2, a3, a4, a5⟩ := trS_in (f := f) (s := s) (B := (e : Int) + 2) (W := ((8 ^ e : Nat) : Int)) (by omega) (Int.natCast_nonneg _) n fb
    obtain ⟨i, hi, hib⟩ := ce_ex (s := s) n (by omega)
    have fi := fb i hi hib
    have ai := a4 i hi hib
    refine ⟨a1, by omega, ai.2, ?_⟩
    have : (n : Int) * ((8 ^ e : Nat) : Int) ≤ 8 * ((8 ^ e : Nat) : Int) := Int.mul_le_mul_of_nonneg_right (by omega) (by omega)
    rw [Nat.pow_succ, Int.natCast_mul]
    omega
/-- one more in the fold from a state -/
def stS (st : T3) (g : Nat → T3) (s : Nat) : Nat → T3
  | 0 => st
  | m + 1 => if s.testBit m = true then stS st g s m else cmb (stS st g s m) (g m)
theorem stS_skip {st : T3} {g : Nat → T3} {s a : Nat} : ∀ b, a ≤ b → (∀ j, a ≤ j → j < b → s.testBit j = true) → stS st g s b = stS st g s a := by
  intro b
  induction b with
  | zero => intro h _; have : a = 0 := by omega
            rw [this]
  | succ b ih =>
    intro h hp
    by_cases hab : a = b + 1
    · rw [hab]
    · rw [stS, if_pos (hp b (by omega) (by omega)), ih (by omega) (fun j h1 h2 => hp j h1 (by omega))]
def full (P : Nat → Nat) (p : Nat) (b : Nat → Nat) : Nat → Nat := fun k => if k < p then P k else b k
def lift (c : Int) (P : Nat → Nat) (p : Nat) (t : T3) : T3 := (c + t.1, t.2.1, full P p t.2.2)
theorem lift_cmb (c : Int) (P : Nat → Nat) (p : Nat) (a b : T3) : lift c P p (cmb a b) = cmb (lift c P p a) (lift c P p b) := by
  have ea : (lift c P p a).1 = c + a.1 := rfl
  have eb : (lift c P p b).1 = c + b.1 := rfl
  rcases Int.lt_trichotomy b.1 a.1 with h | h | h
  · rw [cmb_lt h, cmb_lt (by omega)]
  · rw [cmb_eq h, cmb_eq (by omega)]; rfl
  · rw [cmb_gt h, cmb_gt (by omega)]
theorem stS_lift {st : T3} {f : Nat → T3} {c : Int} {P : Nat → Nat} {p s : Nat} : ∀ m, (∀ k, k < m → s.testBit k = false → (f k).1 < 9) → (∀ k, k < m → s.testBit k = true) ∧ stS st (fun k => lift c P p (f k)) s m = st ∨ (∃ k, k < m ∧ s.testBit k = false) ∧ stS st (fun k => lift c P p (f k)) s m = cmb st (lift c P p (trS f s m)) := by
  intro m
  induction m with
  | zero => intro _; exact Or.inl ⟨fun k hk => by omega, rfl⟩
  | succ m ih =>
    intro h
    have ih := ih (fun k hk => h k (by omega))
    have first := trS_first (f := f) (s := s) m (fun k hk => h k (by omega))
    rw [stS, trS]
    by_cases hb : s.testBit m = true
    · rw [if_pos hb, if_pos hb]
      rcases ih with ⟨a, b⟩ | ⟨⟨k, k1, k2⟩, b⟩
      · refine Or.inl ⟨fun k hk => ?_, b⟩
        by_cases hkm : k = m
        · rw [hkm]; exact hb
        · exact a k (by omega)
      · exact Or.inr ⟨⟨k, by omega, k2⟩, b⟩
    · rw [if_neg hb, if_neg hb]
      have hbf : s.testBit m = false := by simpa using hb
      right
      refine ⟨⟨m, by omega, hbf⟩, ?_⟩
      rcases ih with ⟨a, b⟩ | ⟨⟨k, k1, k2⟩, b⟩
      · rw [b]
        have : trS f s m = (9, 0, fun _ => 0) := by
          rcases first with ⟨_, q⟩ | ⟨k, k1, k2, _⟩
          · exact q
          · rw [a k k1] at k2; cases k2
        rw [this]
        have fm := h m (by omega) hbf
        have : cmb (9, 0, fun _ => 0) (f m) = f m := by unfold cmb; rw [if_pos fm]
        rw [this]
      · rw [b, cmb_assoc, ← lift_cmb]
theorem full_set (P : Nat → Nat) (p x : Nat) (b : Nat → Nat) : full (rset P p x) (p + 1) b = full P p (rset b p x) := by
  funext k
  unfold full rset
  by_cases h1 : k < p
  · rw [if_pos (by omega), if_neg (by omega), if_pos h1]
  · rw [if_neg h1]
    by_cases h2 : k = p
    · rw [if_pos (by omega), if_pos h2, if_pos h2]
    · rw [if_neg (by omega), if_neg h2]
/-- the quarrels of a row's first k neighbours -/
def pq (be : Nat → Nat → Int) (P : Nat → Nat) : Nat → Int
  | 0 => 0
  | k + 1 => pq be P k + be (P k) (P (k + 1))
theorem pq_congr {be : Nat → Nat → Int} {P R : Nat → Nat} : ∀ k, (∀ j, j ≤ k → P j = R j) → pq be P k = pq be R k := by
  intro k
  induction k with
  | zero => intro _; rfl
  | succ k ih => intro h; rw [pq, pq, ih (fun j hj => h j (by omega)), h k (by omega), h (k + 1) (by omega)]
theorem pq_in {be : Nat → Nat → Int} {P : Nat → Nat} (h : ∀ i j, 0 ≤ be i j ∧ be i j ≤ 1) : ∀ k : Nat, 0 ≤ pq be P k ∧ pq be P k ≤ k := by
  intro k
  induction k with
  | zero => exact ⟨Int.le_refl 0, Int.le_refl 0⟩
  | succ k ih => have := h (P k) (P (k + 1)); rw [pq]; omega
theorem cmb_ways {a b : T3} (ha : 0 ≤ a.2.1) (hb : 0 ≤ b.2.1) : 0 ≤ (cmb a b).2.1 ∧ (cmb a b).2.1 ≤ a.2.1 + b.2.1 := by
  unfold cmb
  split
  · omega
  · split <;> ((try dsimp only); omega)
theorem cmb_min {a b : T3} (h1 : 0 ≤ a.1 ∧ a.1 ≤ 99) (h2 : 0 ≤ b.1 ∧ b.1 ≤ 99) : 0 ≤ (cmb a b).1 ∧ (cmb a b).1 ≤ 99 := by
  unfold cmb
  split
  · omega
  · split <;> ((try dsimp only); omega)
