/-! THE REFERENCE reads -/
def Mg (M : Mem) (T : Nat → Int) (L a : Nat) : Prop := M 172 0 = L ∧ L ≤ 200 ∧ M 172 2 = a ∧ (∀ k, k < L → M 173 k = T k ∧ 32 ≤ T k ∧ T k ≤ 126)
/-- the reference's draft may have changed -/
def Rd (M M' : Mem) : Prop := (∀ q, q ≠ 172 → q ≠ 174 → q ≠ 175 → q ≠ 176 → q ≠ 177 → q ≠ 178 → q ≠ 179 → q ≠ 187 → q ≠ 188 → M' q = M q) ∧ (∀ k, k ≠ 2 → k ≠ 23 → M' 172 k = M 172 k) ∧ (∀ k, k < 6 → M' 174 k = M 174 k) ∧ (∀ k, k < 8 → M' 175 k = M 175 k) ∧ ∀ k, k < 12 → M' 179 k = M 179 k
theorem Rd.refl (M : Mem) : Rd M M := ⟨fun _ _ _ _ _ _ _ _ _ _ => rfl, fun _ _ _ => rfl, fun _ _ => rfl, fun _ _ => rfl, fun _ _ => rfl⟩
theorem Rd.trans {M M1 M2 : Mem} (h : Rd M M1) (h2 : Rd M1 M2) : Rd M M2 := ⟨fun q a b c d e f g i j => (h2.1 q a b c d e f g i j).trans (h.1 q a b c d e f g i j), fun k a b => (h2.2.1 k a b).trans (h.2.1 k a b), fun k hk => (h2.2.2.1 k hk).trans (h.2.2.1 k hk), fun k hk => (h2.2.2.2.1 k hk).trans (h.2.2.2.1 k hk), fun k hk => (h2.2.2.2.2 k hk).trans (h.2.2.2.2 k hk)⟩
/-- only place, spelt letters and numbers got have changed -/
def Ln (M M' : Mem) : Prop := (∀ q, q ≠ 172 → q ≠ 187 → q ≠ 188 → M' q = M q) ∧ ∀ k, k ≠ 2 → k ≠ 23 → M' 172 k = M 172 k
theorem Ln.refl (M : Mem) : Ln M M := ⟨fun _ _ _ _ => rfl, fun _ _ _ => rfl⟩
theorem Ln.trans {M M1 M2 : Mem} (h : Ln M M1) (h2 : Ln M1 M2) : Ln M M2 := ⟨fun q a b c => (h2.1 q a b c).trans (h.1 q a b c), fun k a b => (h2.2 k a b).trans (h.2 k a b)⟩
theorem Ln.rd {M M' : Mem} (h : Ln M M') : Rd M M' := ⟨fun q a _ _ _ _ _ _ b c => h.1 q a b c, h.2, fun k _ => by rw [h.1 174 (by decide) (by decide) (by decide)], fun k _ => by rw [h.1 175 (by decide) (by decide) (by decide)], fun k _ => by rw [h.1 179 (by decide) (by decide) (by decide)]⟩
theorem Ln_2 (M : Mem) (v : Int) : Ln M (up2 M 172 2 v) := ⟨fun q a _ _ => up2_row _ _ _ _ a, fun k a _ => up2_off _ _ _ _ a⟩
theorem Ln_187 (M : Mem) (k : Nat) (v : Int) : Ln M (up2 M 187 k v) := ⟨fun q _ a _ => up2_row _ _ _ _ a, fun k _ _ => by rw [up2_row _ _ _ _ (by decide)]⟩
theorem Mg_Ln {M M' : Mem} {T : Nat → Int} {L a a' : Nat} (h : Mg M T L a) (hn : Ln M M') (h3 : M' 172 2 = ((a' : Nat) : Int)) : Mg M' T L a' := ⟨by rw [hn.2 0 (by decide) (by decide)]; exact h.1, h.2.1, h3, fun k hk => by rw [hn.1 173 (by decide) (by decide) (by decide)]; exact h.2.2.2 k hk⟩
section MLex
variable {S : Shp} {M : Mem} {Q : Res → Prop} {T : Nat → Int} {L a : Nat}
def vl (T : Nat → Int) (a k : Nat) : Int := if k = 0 then 0 else if k = 1 then T a - 48 else 10 * (T a - 48) + (T (a + 1) - 48)
theorem nF_add : ∀ k, k ≤ nF T L a → nF T L a = nF T L (a + k) + k := by
  intro k
  induction k with
  | zero => intro _; rfl
  | succ k ih =>
    intro hk
    have e := ih (by omega)
    have := (nF_next (T := T) (L := L) (a := a + k) (by omega)).2
    rw [show a + (k + 1) = a + k + 1 by omega]
    omega
theorem sq_number (hM : KM S) (hp : Mg M T L a) (ha : a ≤ L) (h : ∀ M', Ln M M' → M' 172 2 = ((a + nF T L a : Nat) : Int) → M' 172 23 = M 172 23 → M' 187 = M 187 → M' 188 = M 188 → Q (S, M', some (.inl (if num T L a then nV T L a else -1)))) : Ca 145 [.inr (.inr 173)] S M Q := by
  have fl := nF_le (T := T) (L := L) (a := a)
  have hL := hp.2.1
  have loop : ∀ (d k : Nat) (M1 : Mem), k + d = nF T L a → Ln M M1 → M1 172 2 = ((a + k : Nat) : Int) → M1 172 23 = M 172 23 → M1 187 = M 187 → M1 188 = M 188 → En 145 4 [some (.inr (.inr 173)), some (.inl (vl T a k)), some (.inl (k : Int))] [] S M1 Q := by
    intro d
    induction d with
    | zero =>
      intro k M1 hk l1 l2 l3 l4 l5
      have p1 := Mg_Ln hp l1 l2
      have fin : Ca 140 [.inr (.inl (k : Int)), .inr (.inl (1 : Int)), .inr (.inl (2 : Int))] S M1 (fun r => ∃ (M1 : Mem) (v2 : Int), r = (S, M1, some (.inl v2)) ∧ ((v2 = 0 → Q (S, M1, some (.inl (-1 : Int)))) ∧ (v2 ≠ 0 → Q (S, M1, some (.inl (vl T a k)))))) := by
        have hh := h M1 l1 (by rw [l2, show k = nF T L a by omega]) l3 l4 l5
        refine sq_in hM ⟨_, _, rfl, ?_⟩
        by_cases c : num T L a
        · rw [if_pos c] at hh
          have e : vl T a k = nV T L a := by
            unfold vl nV
            rw [show k = nF T L a by omega]
            have := c.1; have := c.2
            rw [if_neg (by omega)]
          rw [if_pos (by have := c.1; have := c.2; omega), e]
          exact ⟨fun z => absurd z (by decide), fun _ => hh⟩
        · rw [if_neg c] at hh
          rw [if_neg (fun q => c ⟨by omega, by omega⟩)]
          exact ⟨fun _ => hh, fun z => absurd rfl z⟩
      apply r_X9_number_4 hM
      rw [p1.1, l2, Int.toNat_natCast]
      refine ⟨fun _ => fin, fun z => ⟨by omega, sq_in hM ⟨_, _, rfl, ?_⟩⟩⟩
      have ne := nF_end (T := T) (L := L) (a := a) (by omega)
      rw [(p1.2.2.2 (a + k) (by omega)).1, show k = nF T L a by omega, if_neg ne]
      rw [show k = nF T L a by omega] at fin
      exact ⟨fun _ => fin, fun z => absurd rfl z⟩
    | succ d ih =>
      intro k M1 hk l1 l2 l3 l4 l5
      have p1 := Mg_Ln hp l1 l2
      have fg := nF_fig (T := T) (L := L) (a := a) (k := k) (by omega)
      apply r_X9_number_4 hM
      rw [p1.1, l2, Int.toNat_natCast]
      refine ⟨fun z => by omega, fun z => ⟨by omega, sq_in hM ⟨_, _, rfl, ?_⟩⟩⟩
      rw [(p1.2.2.2 (a + k) (by omega)).1, if_pos fg]
      have nx := ih (k + 1) (up2 M1 172 2 (((a + k : Nat) : Int) + 1)) (by omega) (l1.trans (Ln_2 _ _)) (by rw [up2_get]; omega) (by rw [up2_off _ _ _ _ (by decide)]; exact l3) (by rw [up2_row _ _ _ _ (by decide)]; exact l4) (by rw [up2_row _ _ _ _ (by decide)]; exact l5)
      have f0 := nF_fig (T := T) (L := L) (a := a) (k := 0) (by omega)
      rw [Nat.add_zero] at f0
      refine ⟨fun z => absurd z (by decide), fun _ => ⟨fun w => ?_, fun w => ?_⟩⟩
      · rw [l2, show ((k : Int) + 1) = ((k + 1 : Nat) : Int) by omega]
        have e : vl T a (k + 1) = vl T a k := by unfold vl; rw [if_neg (by omega), if_neg (by omega), if_neg (by omega), if_neg (by omega)]
        rw [e] at nx
        exact ⟨by unfold inR; omega, by unfold inR; omega, nx⟩
      · rw [l2, Int.toNat_natCast, (p1.2.2.2 (a + k) (by omega)).1, show ((k : Int) + 1) = ((k + 1 : Nat) : Int) by omega]
        have e : vl T a (k + 1) = 10 * vl T a k + T (a + k) - 48 := by
          by_cases hk0 : k = 0
          · subst hk0; unfold vl; rw [if_neg (by decide), if_pos rfl, if_pos rfl, Nat.add_zero]; omega
          · have : k = 1 := by omega
            subst this; unfold vl; rw [if_neg (by decide), if_neg (by decide), if_neg (by decide), if_pos rfl]; omega
        have vb : 0 ≤ vl T a k ∧ vl T a k ≤ 9 := by
          unfold vl
          by_cases hk0 : k = 0
          · rw [if_pos hk0]; omega
          · rw [if_neg hk0, if_pos (by omega)]; omega
        rw [e] at nx
        exact ⟨by unfold inR; omega, by omega, by unfold inR; omega, by unfold inR; omega, by unfold inR; omega, by unfold inR; omega, nx⟩
  apply r_X9_number_0 hM
  exact loop (nF T L a) 0 M (by omega) (Ln.refl M) hp.2.2.1 rfl rfl rfl
theorem sq_isSpelt (hM : KM S) (hp : Mg M T L a) (ha : a ≤ L) (h : ∀ M', Ln M M' → M' 172 2 = ((a + nL T L a : Nat) : Int) → M' 172 23 = (nL T L a : Int) → (∀ k, k < nL T L a → k < 6 → M' 188 k = T (a + k) - 97) → Q (S, M', some (.inl (if nL T L a ≤ 6 then 1 else 0)))) : Ca 146 [.inr (.inr 173)] S M Q := by
  have fl := nL_le (T := T) (L := L) (a := a)
  have hL := hp.2.1
  have loop : ∀ (d k : Nat) (M1 : Mem), k + d = nL T L a → Ln M M1 → M1 172 2 = ((a + k : Nat) : Int) → M1 172 23 = (k : Int) → (∀ j, j < k → j < 6 → M1 188 j = T (a + j) - 97) → En 146 3 [some (.inr (.inr 173))] [] S M1 Q := by
    intro d
    induction d with
    | zero =>
      intro k M1 hk l1 l2 l3 l4
      have p1 := Mg_Ln hp l1 l2
      have e : k = nL T L a := by omega
      have fin : (((7 : Int) ≤ (M1 172 23) → Q (S, M1, some (.inl (0 : Int)))) ∧ ((M1 172 23) < (7 : Int) → Q (S, M1, some (.inl (1 : Int))))) := by
        rw [e] at l2 l3 l4
        have hh := h M1 l1 l2 l3 l4
        rw [l3]
        refine ⟨fun z => ?_, fun z => ?_⟩
        · rw [if_neg (by omega)] at hh; exact hh
        · rw [if_pos (by omega)] at hh; exact hh
      apply r_X9_isSpelt_3 hM
      rw [p1.1, l2, Int.toNat_natCast]
      refine ⟨fun _ => fin, fun z => ⟨by omega, sq_in hM ⟨_, _, rfl, ?_⟩⟩⟩
      have ne := nL_end (T := T) (L := L) (a := a) (by omega)
      rw [(p1.2.2.2 (a + k) (by omega)).1, e, if_neg ne]
      exact ⟨fun _ => fin, fun z => absurd rfl z⟩
    | succ d ih =>
      intro k M1 hk l1 l2 l3 l4
      have p1 := Mg_Ln hp l1 l2
      have fg := nL_let (T := T) (L := L) (a := a) (k := k) (by omega)
      apply r_X9_isSpelt_3 hM
      rw [p1.1, l2, Int.toNat_natCast]
      refine ⟨fun z => by omega, fun z => ⟨by omega, sq_in hM ⟨_, _, rfl, ?_⟩⟩⟩
      rw [(p1.2.2.2 (a + k) (by omega)).1, if_pos fg, l3, l2, Int.toNat_natCast, Int.toNat_natCast]
      refine ⟨fun z => absurd z (by decide), fun _ => ⟨fun w => ?_, fun w => ?_⟩⟩
      · rw [up2_off _ _ _ _ (by decide), l2]
        refine ⟨by unfold inR; omega, by unfold inR; omega, ih (k + 1) _ (by omega) ⟨fun q x y z => ?_, fun j x y => ?_⟩ ?_ ?_ (fun j hj h6 => ?_)⟩
        · rw [up2_row _ _ _ _ x, up2_row _ _ _ _ x]; exact l1.1 q x y z
        · rw [up2_off _ _ _ _ x, up2_off _ _ _ _ y]; exact l1.2 j x y
        · rw [up2_get]; omega
        · rw [up2_off _ _ _ _ (by decide), up2_get]; omega
        · rw [up2_row _ _ _ _ (by decide), up2_row _ _ _ _ (by decide)]; exact l4 j (by omega) h6
      · rw [(p1.2.2.2 (a + k) (by omega)).1]
        rw [up2_row (M := M1) (q := 188) (a := 172) _ _ (by decide), l3]
        have r2 : (up2 (up2 M1 188 k (T (a + k) - 97)) 172 23 ((k : Int) + 1)) 172 2 = ((a + k : Nat) : Int) := by rw [up2_off _ _ _ _ (by decide), up2_row _ _ _ _ (by decide)]; exact l2
        rw [r2]
        refine ⟨by omega, by unfold inR; omega, by omega, by unfold inR; omega, by unfold inR; omega, ih (k + 1) _ (by omega) ⟨fun q x y z => ?_, fun j x y => ?_⟩ ?_ ?_ (fun j hj h6 => ?_)⟩
        · rw [up2_row _ _ _ _ x, up2_row _ _ _ _ x, up2_row _ _ _ _ z]; exact l1.1 q x y z
        · rw [up2_off _ _ _ _ x, up2_off _ _ _ _ y, up2_row _ _ _ _ (by decide)]; exact l1.2 j x y
        · rw [up2_get]; omega
        · rw [up2_off _ _ _ _ (by decide), up2_get]; omega
        · rw [up2_row _ _ _ _ (by decide), up2_row _ _ _ _ (by decide), up2_at]
          by_cases hjk : j = k
          · rw [if_pos hjk, hjk]
          · rw [if_neg hjk]; exact l4 j (by omega) h6
  apply r_X9_isSpelt_0 hM
  refine loop (nL T L a) 0 _ (by omega) ⟨fun q x _ _ => up2_row _ _ _ _ x, fun j _ y => up2_off _ _ _ _ y⟩ (by rw [up2_off _ _ _ _ (by decide)]; exact hp.2.2.1) (by rw [up2_get]; rfl) (fun j hj _ => by omega)
theorem sq_isMore (hM : KM S) (hp : Mg M T L a) (ha : a ≤ L) {j : Nat} (hj : j < 2) (h1 : sg T L a = 44 → num T L (a + 1) → ∀ M', Ln M M' → M' 172 2 = ((a + 1 + nF T L (a + 1) : Nat) : Int) → M' 172 23 = M 172 23 → M' 188 = M 188 → (∀ k, M' 187 k = if k = j then nV T L (a + 1) else M 187 k) → Q (S, M', some (.inl 1))) (h0 : ¬ (sg T L a = 44 ∧ num T L (a + 1)) → ∀ M', Ln M M' → (∃ a' : Nat, a' ≤ L + 1 ∧ M' 172 2 = (a' : Int)) → Q (S, M', some (.inl 0))) : Ca 147 [.inr (.inr 173), .inl (j : Int)] S M Q := by
  have hL := hp.2.1
  apply r_X9_isMore_0 hM
  rw [hp.1, hp.2.2.1, Int.toNat_natCast, Int.toNat_natCast]
  have stop : sg T L a ≠ 44 → Q (S, M, some (.inl 0)) := fun q => h0 (fun w => q w.1) M (Ln.refl M) ⟨a, by omega, hp.2.2.1⟩
  refine ⟨fun z => stop (by unfold sg; rw [if_neg (by omega)]; decide), fun z => ⟨by omega, ?_⟩⟩
  have es : sg T L a = T a := if_pos (by omega)
  rw [(hp.2.2.2 a (by omega)).1]
  refine ⟨fun w => ⟨by unfold inR; omega, ?_⟩, fun w => stop (by omega)⟩
  have p1 : Mg (up2 M 172 2 ((a : Int) + 1)) T L (a + 1) := Mg_Ln hp (Ln_2 _ _) (by rw [up2_get]; omega)
  have fl := nF_le (T := T) (L := L) (a := a + 1)
  refine sq_number hM p1 (by omega) (fun M1 l1 l2 l3 l4 l5 => ⟨_, _, rfl, by omega, by omega, ?_⟩)
  rw [up2_get]
  have ln := (Ln_2 M ((a : Int) + 1)).trans (l1.trans (Ln_187 M1 j (if num T L (a + 1) then nV T L (a + 1) else -1)))
  by_cases c : num T L (a + 1)
  · rw [if_pos c] at ln ⊢
    have := nV_in c.1
    refine ⟨fun y => by omega, fun _ => h1 (by omega) c _ ln ?_ ?_ ?_ (fun k => ?_)⟩
    · rw [up2_row _ _ _ _ (by decide)]; exact l2
    · rw [up2_row _ _ _ _ (by decide), l3, up2_off _ _ _ _ (by decide)]
    · rw [up2_row _ _ _ _ (by decide), l5, up2_row _ _ _ _ (by decide)]
    · rw [up2_at, l4, up2_row _ _ _ _ (by decide)]
  · rw [if_neg c] at ln ⊢
    exact ⟨fun _ => h0 (fun q => c q.2) _ ln ⟨a + 1 + nF T L (a + 1), by omega, by rw [up2_row _ _ _ _ (by decide)]; exact l2⟩, fun y => by omega⟩
end MLex
