/-! the class's weddings -/
def Lm (M M1 : Mem) : Prop := ∀ q, q ≠ 158 → q ≠ 159 → M1 q = M q
theorem Lm_Tn {M M1 : Mem} {n : Nat} (h : Lm M M1) (hT : Tn M 8 0 n) : Tn M1 8 0 n := Tn_keep (fun j hj => h _ (by omega) (by omega)) (h 174 (by decide) (by decide)) (h 175 (by decide) (by decide)) (h 179 (by decide) (by decide)) (h 180 (by decide) (by decide)) hT
theorem Lm_may {M M1 : Mem} (h : Lm M M1) (i k : Nat) (r : Int) : mMay M1 i k r ↔ mMay M i k r := mMay_rows (h 174 (by decide) (by decide)) (h 179 (by decide) (by decide)) (h 180 (by decide) (by decide)) i k r
theorem Lm_same {M M1 : Mem} (h : Lm M M1) : Same M M1 ∧ ∀ q, 172 ≤ q → M1 q = M q := ⟨fun q k hq => by rw [h q (by unfold scr at hq; omega) (by unfold scr at hq; omega)], fun q hq => h q (by omega) (by omega)⟩
theorem Lm_up8 {M M1 : Mem} (h : Lm M M1) (k : Nat) (v : Int) : Lm M (up2 M1 158 k v) := fun q q1 q2 => by rw [up2_row _ _ _ _ q1]; exact h q q1 q2
theorem Lm_up9 {M M1 : Mem} (h : Lm M M1) (k : Nat) (v : Int) : Lm M (up2 M1 159 k v) := fun q q1 q2 => by rw [up2_row _ _ _ _ q2]; exact h q q1 q2
/-- the first partner by whom the most is kept -/
def cho (w : Nat → Nat → Bool) (A : Nat → Int) (i s : Nat) : Nat → Int
  | 0 => -4
  | d + 1 => if (del s i).testBit (7 - d) = true ∧ w i (7 - d) = true ∧ A (del (del s i) (7 - d)) + 1 = A s then ((7 - d : Nat) : Int) else cho w A i s d
def pA (w : Nat → Nat → Bool) (A : Nat → Int) (n p : Nat) : Nat → Nat → Int
  | 0, _ => -4
  | d + 1, s => if s.testBit (n - (d + 1)) = true then (if n - (d + 1) = p then cho w A (n - (d + 1)) s (7 - (n - (d + 1))) else if cho w A (n - (d + 1)) s (7 - (n - (d + 1))) = p then ((n - (d + 1) : Nat) : Int) else pA w A n p d (if cho w A (n - (d + 1)) s (7 - (n - (d + 1))) = -4 then del s (n - (d + 1)) else del (del s (n - (d + 1))) (cho w A (n - (d + 1)) s (7 - (n - (d + 1)))).toNat)) else pA w A n p d s
theorem cho_in {w : Nat → Nat → Bool} {A : Nat → Int} {i s : Nat} : ∀ d, d ≤ 8 → cho w A i s d = -4 ∨ ∃ k : Nat, k < 8 ∧ cho w A i s d = (k : Int) ∧ (del s i).testBit k = true := by
  intro d
  induction d with
  | zero => intro _; exact Or.inl rfl
  | succ d ih =>
    intro hd
    rw [cho]
    split
    · rename_i z; exact Or.inr ⟨7 - d, by omega, rfl, z.1⟩
    · exact ih (by omega)
theorem cho_top {w : Nat → Nat → Bool} {A : Nat → Int} {i s n : Nat} (hs : s < 2 ^ n) : ∀ d, d + n ≤ 8 → cho w A i s d = -4 := by
  intro d
  induction d with
  | zero => intro _; rfl
  | succ d ih =>
    intro hd
    rw [cho, if_neg]
    · exact ih (by omega)
    · intro z
      have := del_le s i
      rw [big_bit (n := n) (by omega) (by omega)] at z
      exact absurd z.1 (by decide)
section Most
variable {S : Shp} {M : Mem} {Q : Res → Prop}
theorem lowest_loop (hS : KC S) {s : Nat} {M1 : Mem} : ∀ d i : Nat, i + d = 7 → Q (S, M1, some (.inl (lo s d : Int))) → En 28 2 [some (.inl (s : Int)), some (.inl (i : Int))] [] S M1 Q := by
  intro d
  induction d with
  | zero =>
    intro i hi h
    have e : i = 7 := by omega
    subst e
    apply r_X3_lowest_2 hS
    exact ⟨fun _ => h, fun z => by omega⟩
  | succ d ih =>
    intro i hi h
    have e : 6 - d = i := by omega
    rw [lo, e] at h
    apply r_X3_lowest_2 hS
    refine ⟨fun z => by omega, fun _ => sp_holds hS (by omega) ⟨_, _, rfl, ?_⟩⟩
    by_cases hb : s.testBit i = true
    · rw [if_pos hb] at h ⊢
      exact ⟨fun _ => h, fun z => absurd z (by decide)⟩
    · rw [if_neg hb] at h ⊢
      refine ⟨fun z => absurd rfl z, fun _ => ⟨by unfold inR; omega, ?_⟩⟩
      rw [show ((i : Int) + 1) = ((i + 1 : Nat) : Int) by omega]
      exact ih (i + 1) (by omega) h
theorem sp_lowest (hS : KC S) {s : Nat} {M1 : Mem} (h : Q (S, M1, some (.inl (low s : Int)))) : Ca 28 [.inl (s : Int)] S M1 Q := by
  apply r_X3_lowest_0 hS
  exact lowest_loop hS 7 0 rfl h
/-- the tables of the class -/
def Wt (w : Nat → Nat → Bool) (n : Nat) (M1 : Mem) : Prop := ∀ i, i < n → M1 158 i = (wl (w i) n : Int)
theorem will_bit {w : Nat → Nat → Bool} {i n rest k : Nat} (h : rest < 2 ^ n) : (rest &&& wl (w i) n).testBit k = (rest.testBit k && w i k) := by
  rw [Nat.testBit_and, wl_bit]
  by_cases hk : k < n
  · simp [hk]
  · rw [big_bit h (by omega)]; simp
theorem bW_loop (hS : KC S) {w : Nat → Nat → Bool} {n s i : Nat} {M1 : Mem} (hn : n ≤ 8) (hs : s < 2 ^ n) (hi : i < n) (hb : s.testBit i = true) (hw : Wt w n M1) (ht : ∀ t, t < s → M1 159 t = mV w t) (h : Q (S, M1, some (.inl (mI w (mV w) i (del s i) (7 - i))))) : ∀ e d : Nat, i + 1 + d + e = 8 → En 27 18 [some (.inr (.inr 158)), some (.inl (s : Int)), some (.inl (i : Int)), some (.inl (del s i : Int)), some (.inl (mI w (mV w) i (del s i) d)), some (.inl ((i + 1 + d : Nat) : Int))] [] S M1 Q := by
  have p := p8 hn
  have dl := del_lt hb
  intro e
  induction e with
  | zero =>
    intro d hd
    have e : d = 7 - i := by omega
    subst e
    apply r_X3_bestWithin_18 hS
    exact ⟨fun _ => h, fun z => by omega⟩
  | succ e ih =>
    intro d hd
    have nx := ih (d + 1) (by omega)
    rw [mI] at nx
    obtain ⟨k, hk⟩ : ∃ k, k = i + 1 + d := ⟨_, rfl⟩
    rw [show i + 1 + (d + 1) = k + 1 by omega] at nx
    rw [← hk] at nx ⊢
    apply r_X3_bestWithin_18 hS
    rw [Int.toNat_natCast, Int.toNat_natCast, hw i hi, show ((k : Int) + 1) = ((k + 1 : Nat) : Int) by omega]
    refine ⟨fun z => by omega, fun _ => ⟨by omega, _, bi_andN _ _, sp_holds hS (by omega) ⟨_, _, rfl, ?_⟩⟩⟩
    rw [will_bit (by omega)]
    by_cases hc : ((del s i).testBit k && w i k) = true
    · rw [if_pos hc]
      have hc2 : (del s i).testBit k = true ∧ w i k = true := by simpa using hc
      have d2 := del_lt hc2.1
      refine ⟨fun z => absurd z (by decide), fun _ => ⟨p2k (k := k) (by omega), _, bi_xorN _ _, ?_⟩⟩
      rw [xor_del hc2.1, Int.toNat_natCast, ht _ (by omega)]
      have b := mV_b (w := w) (s := del (del s i) k) (by omega)
      refine ⟨by omega, by unfold inR; omega, by unfold inR; omega, ?_⟩
      by_cases hlt : mI w (mV w) i (del s i) d < mV w (del (del s i) k) + 1
      · rw [if_pos ⟨hc2.1, hc2.2, hlt⟩] at nx
        rw [if_pos (by omega), Int.add_comm]
        exact nx
      · rw [if_neg (fun z => hlt z.2.2)] at nx
        rw [if_neg (by omega)]
        exact nx
    · rw [if_neg hc]
      refine ⟨fun _ => ⟨by unfold inR; omega, ?_⟩, fun z => absurd rfl z⟩
      rw [if_neg (fun z => hc (by rw [z.1, z.2.1]; rfl))] at nx
      exact nx
theorem sp_bestWithin (hS : KC S) {w : Nat → Nat → Bool} {n s : Nat} {M1 : Mem} (hn : n ≤ 8) (hs : s < 2 ^ n) (h0 : s ≠ 0) (hw : Wt w n M1) (ht : ∀ t, t < s → M1 159 t = mV w t) (h : Q (S, M1, some (.inl (mV w s)))) : Ca 27 [.inr (.inr 158), .inl (s : Int)] S M1 Q := by
  have p := p8 hn
  obtain ⟨l1, l2, l3, l4⟩ := set_low s (by omega) h0
  have l5 := low_lt hn hs h0
  have dl := del_lt l1
  apply r_X3_bestWithin_0 hS
  refine sp_lowest hS ⟨_, _, rfl, by unfold inR; omega, ((del s (low s) : Nat) : Int), ?_, by omega, by unfold inR; omega, ?_⟩
  · rw [show ((s : Int) - 1) = ((s - 1 : Nat) : Int) by omega, bi_andN, l4]
  · rw [Int.toNat_natCast, ht _ dl, show ((low s : Int) + 1) = ((low s + 1 + 0 : Nat) : Int) by omega]
    rw [mV_s (by omega) h0] at h
    exact bW_loop hS hn hs l5 l1 hw ht h (7 - low s) 0 (by omega)
theorem most_in (hS : KC S) {n : Nat} (hT : Tn M 8 0 n) {r : Int} {i : Nat} (hi : i < n) (hk : ∀ M', Lm M M' → (∀ j, j < i + 1 → M' 158 j = (wl (mB M r j) n : Int)) → En 26 2 [some (.inr (.inr 158)), some (.inr (.inr 9)), some (.inl r), some (.inl ((i + 1 : Nat) : Int)), none] [] S M' Q) : ∀ (d k : Nat) (M1 : Mem), k + d = n → Lm M M1 → (∀ j, j < i → M1 158 j = (wl (mB M r j) n : Int)) → M1 158 i = (wl (mB M r i) k : Int) → En 26 13 [some (.inr (.inr 158)), some (.inr (.inr 9)), some (.inl r), some (.inl (i : Int)), some (.inl (k : Int))] [] S M1 Q := by
  have hn8 := hT.1.1
  intro d
  induction d with
  | zero =>
    intro k M1 hd hl h1 h2
    have e : k = n := by omega
    subst e
    apply r_X3_most_13 hS
    have e0 : M1 8 0 = k := by rw [hl 8 (by decide) (by decide)]; exact hT.2.1.1
    rw [e0]
    refine ⟨fun _ => ⟨by unfold inR; omega, hk M1 hl (fun j hj => ?_)⟩, fun z => by omega⟩
    by_cases hji : j = i
    · rw [hji]; exact h2
    · exact h1 j (by omega)
  | succ d ih =>
    intro k M1 hd hl h1 h2
    have e0 : M1 8 0 = n := by rw [hl 8 (by decide) (by decide)]; exact hT.2.1.1
    have ek : ((k : Int) + 1) = ((k + 1 : Nat) : Int) := by omega
    have nx : ∀ v : Int, v = (wl (mB M r i) (k + 1) : Int) → En 26 13 [some (.inr (.inr 158)), some (.inr (.inr 9)), some (.inl r), some (.inl (i : Int)), some (.inl ((k + 1 : Nat) : Int))] [] S (up2 M1 158 i v) Q := fun v hv => ih (k + 1) _ (by omega) (Lm_up8 hl i v) (fun j hj => by rw [up2_off _ _ _ _ (by omega)]; exact h1 j hj) (by rw [up2_get]; exact hv)
    apply r_X3_most_13 hS
    rw [e0, ek, Int.toNat_natCast, h2, Int.toNat_natCast]
    refine ⟨fun z => by omega, fun _ => ⟨by omega, fun z => ⟨by omega, by omega, by unfold inR; omega, nx _ ?_⟩, fun z => ?_⟩⟩
    · rw [wl, if_neg (fun q => (mB_iff.mp q).1 (by omega))]; rfl
    · refine sp_mayWed hS (Lm_Tn hl hT) hi (by omega) (by omega) (fun q => ⟨_, _, rfl, fun z => absurd z (by decide), fun _ => ⟨p2k (k := k) (by omega), ?_, by omega, by unfold inR; omega, nx _ ?_⟩⟩) (fun q => ⟨_, _, rfl, fun _ => ⟨by omega, by omega, by unfold inR; omega, nx _ ?_⟩, fun z => absurd rfl z⟩)
      · have := p2_in (v := k) (by omega)
        rw [Int.toNat_natCast]
        exact ⟨by omega, this.1⟩
      · have := p2_in (v := k) (by omega)
        rw [wl, if_pos (mB_iff.mpr ((Lm_may hl i k r).mp q)), Int.toNat_natCast, this.2.2]
      · rw [wl, if_neg (fun z => q ((Lm_may hl i k r).mpr (mB_iff.mp z)))]; rfl
theorem most_tab (hS : KC S) {n : Nat} (hT : Tn M 8 0 n) {r : Int} (h : ∀ M', Lm M M' → Wt (mB M r) n M' → (∀ t, t < 2 ^ n → M' 159 t = mV (mB M r) t) → Q (S, M', some (.inl (mV (mB M r) (2 ^ n - 1))))) : ∀ (d s : Nat) (M1 : Mem), s + d = 2 ^ n → 1 ≤ s → Lm M M1 → Wt (mB M r) n M1 → (∀ t, t < s → M1 159 t = mV (mB M r) t) → En 26 56 [some (.inr (.inr 158)), some (.inr (.inr 9)), some (.inl r), some (.inl ((2 ^ n - 1 : Nat) : Int)), some (.inl (s : Int))] [] S M1 Q := by
  have hn8 := hT.1.1
  have p := p8 hn8
  have p0 : 0 < 2 ^ n := Nat.pow_pos (by decide)
  intro d
  induction d with
  | zero =>
    intro s M1 hd h1 hl hw ht
    have e : s = 2 ^ n := by omega
    apply r_X3_most_56 hS
    refine ⟨fun _ => ⟨by omega, ?_⟩, fun z => by omega⟩
    have := h M1 hl hw (fun t q => ht t (by omega))
    rw [Int.toNat_natCast, ht _ (by omega)]
    exact this
  | succ d ih =>
    intro s M1 hd h1 hl hw ht
    apply r_X3_most_56 hS
    rw [show ((s : Int) + 1) = ((s + 1 : Nat) : Int) by omega]
    refine ⟨fun z => by omega, fun _ => ⟨fun z => by omega, fun _ => sp_bestWithin hS hn8 (by omega) (by omega) hw ht ⟨_, _, rfl, by omega, by unfold inR; omega, ?_⟩⟩⟩
    rw [Int.toNat_natCast]
    refine ih (s + 1) _ (by omega) (by omega) (Lm_up9 hl _ _) (fun i hi => by rw [up2_row _ _ _ _ (by decide)]; exact hw i hi) (fun t hq => ?_)
    rw [up2_any]
    by_cases hts : t = s
    · rw [if_pos ⟨rfl, hts⟩, hts]
    · rw [if_neg (fun z => hts z.2)]; exact ht t (by omega)
theorem most_out (hS : KC S) {n : Nat} (hT : Tn M 8 0 n) {r : Int} (h : ∀ M', Lm M M' → Wt (mB M r) n M' → (∀ t, t < 2 ^ n → M' 159 t = mV (mB M r) t) → Q (S, M', some (.inl (mV (mB M r) (2 ^ n - 1))))) : ∀ (d i : Nat) (M1 : Mem), i + d = n → Lm M M1 → (∀ j, j < i → M1 158 j = (wl (mB M r j) n : Int)) → En 26 2 [some (.inr (.inr 158)), some (.inr (.inr 9)), some (.inl r), some (.inl (i : Int)), none] [] S M1 Q := by
  have hn8 := hT.1.1
  have p0 : 0 < 2 ^ n := Nat.pow_pos (by decide)
  intro d
  induction d with
  | zero =>
    intro i M1 hd hl h1
    have e : i = n := by omega
    subst e
    apply r_X3_most_2 hS
    have e0 : M1 8 0 = i := by rw [hl 8 (by decide) (by decide)]; exact hT.2.1.1
    obtain ⟨a, b, c, d⟩ := p2m hn8
    rw [e0]
    refine ⟨fun _ => ⟨a, b, by decide, ?_⟩, fun z => by omega⟩
    rw [c]
    refine most_tab hS hT h (2 ^ i - 1) 1 _ (by omega) (Nat.le_refl 1) (Lm_up9 hl _ _) (fun j hj => by rw [up2_row _ _ _ _ (by decide)]; exact h1 j hj) (fun t ht => ?_)
    have : t = 0 := by omega
    subst this
    rw [mV_0]
    exact up2_get _ _ _ _
  | succ d ih =>
    intro i M1 hd hl h1
    apply r_X3_most_2 hS
    have e0 : M1 8 0 = n := by rw [hl 8 (by decide) (by decide)]; exact hT.2.1.1
    rw [e0, Int.toNat_natCast]
    refine ⟨fun z => by omega, fun _ => ⟨by omega, most_in hS hT (by omega) (fun M2 l2 w2 => ih (i + 1) M2 (by omega) l2 w2) n 0 _ (by omega) (Lm_up8 hl _ _) (fun j hj => by rw [up2_off _ _ _ _ (by omega)]; exact h1 j hj) (up2_get _ _ _ _)⟩⟩
theorem sp_most (hS : KC S) {n : Nat} (hT : Tn M 8 0 n) {M1 : Mem} (hl : Lm M M1) {r : Int} (h : ∀ M', Lm M M' → Wt (mB M r) n M' → (∀ t, t < 2 ^ n → M' 159 t = mV (mB M r) t) → Q (S, M', some (.inl (mV (mB M r) (2 ^ n - 1))))) : Ca 26 [.inr (.inr 158), .inr (.inr 9), .inl r] S M1 Q := by
  apply r_X3_most_0 hS
  exact most_out hS hT h n 0 M1 (by omega) hl (fun j hj => by omega)
theorem choice_loop (hS : KC S) {w : Nat → Nat → Bool} {n s i : Nat} {M1 : Mem} (hn : n ≤ 8) (hs : s < 2 ^ n) (hi : i < n) (hb : s.testBit i = true) (hw : Wt w n M1) (ht : ∀ t, t < 2 ^ n → M1 159 t = mV w t) : ∀ d k : Nat, k + d = 8 → Q (S, M1, some (.inl (cho w (mV w) i s d))) → En 30 10 [some (.inr (.inr 158)), some (.inl (i : Int)), some (.inl (s : Int)), some (.inl (del s i : Int)), some (.inl (k : Int))] [] S M1 Q := by
  have p := p8 hn
  have dl := del_lt hb
  intro d
  induction d with
  | zero =>
    intro k hd h
    apply r_X3_choiceOf_10 hS
    exact ⟨fun _ => h, fun z => by omega⟩
  | succ d ih =>
    intro k hd h
    have e7 : 7 - d = k := by omega
    rw [cho, e7] at h
    apply r_X3_choiceOf_10 hS
    rw [Int.toNat_natCast, Int.toNat_natCast, hw i hi, show ((k : Int) + 1) = ((k + 1 : Nat) : Int) by omega, Int.toNat_natCast]
    refine ⟨fun z => by omega, fun _ => ⟨by omega, _, bi_andN _ _, sp_holds hS (by omega) ⟨_, _, rfl, ?_⟩⟩⟩
    rw [will_bit (by omega)]
    by_cases hc : ((del s i).testBit k && w i k) = true
    · rw [if_pos hc]
      have hc2 : (del s i).testBit k = true ∧ w i k = true := by simpa using hc
      have d2 := del_lt hc2.1
      refine ⟨fun z => absurd z (by decide), fun _ => ⟨p2k (k := k) (by omega), _, bi_xorN _ _, ?_⟩⟩
      rw [xor_del hc2.1, Int.toNat_natCast, ht _ (by omega), ht s hs]
      have b := mV_b (w := w) (s := del (del s i) k) (by omega)
      refine ⟨by omega, by unfold inR; omega, by omega, fun z => ⟨by unfold inR; omega, ih (k + 1) (by omega) ?_⟩, fun z => ?_⟩
      · rw [if_neg (fun q => z (by have := q.2.2; omega))] at h; exact h
      · rw [if_pos ⟨hc2.1, hc2.2, by omega⟩] at h; exact h
    · rw [if_neg hc]
      refine ⟨fun _ => ⟨by unfold inR; omega, ih (k + 1) (by omega) ?_⟩, fun z => absurd rfl z⟩
      rw [if_neg (fun z => hc (by rw [z.1, z.2.1]; rfl))] at h
      exact h
theorem sp_choiceOf (hS : KC S) {w : Nat → Nat → Bool} {n s i : Nat} {M1 : Mem} (hn : n ≤ 8) (hs : s < 2 ^ n) (hi : i < n) (hb : s.testBit i = true) (hl : low s = i) (h0 : s ≠ 0) (hw : Wt w n M1) (ht : ∀ t, t < 2 ^ n → M1 159 t = mV w t) (h : Q (S, M1, some (.inl (cho w (mV w) i s (7 - i))))) : Ca 30 [.inr (.inr 158), .inl (i : Int), .inl (s : Int)] S M1 Q := by
  have p := p8 hn
  obtain ⟨l1, l2, l3, l4⟩ := set_low s (by omega) h0
  apply r_X3_choiceOf_0 hS
  refine ⟨by unfold inR; omega, ((del s i : Nat) : Int), ?_, by unfold inR; omega, ?_⟩
  · rw [show ((s : Int) - 1) = ((s - 1 : Nat) : Int) by omega, bi_andN, l4, hl]
  · rw [show ((i : Int) + 1) = ((i + 1 : Nat) : Int) by omega]
    exact choice_loop hS hn hs hi hb hw ht (7 - i) (i + 1) (by omega) h
theorem low_is {s a : Nat} (hs : s < 256) (hb : s.testBit a = true) (hlow : ∀ j, j < a → s.testBit j = false) : s ≠ 0 ∧ low s = a := by
  have h0 : s ≠ 0 := fun z => by subst z; rw [Nat.zero_testBit] at hb; cases hb
  obtain ⟨l1, l2, l3, l4⟩ := set_low s hs h0
  refine ⟨h0, ?_⟩
  by_cases q : low s < a
  · rw [hlow _ q] at l1; cases l1
  · by_cases q2 : a < low s
    · rw [l3 a (by omega) q2] at hb; cases hb
    · omega
theorem part_loop (hS : KC S) {w : Nat → Nat → Bool} {n p : Nat} {M1 : Mem} (hn : n ≤ 8) (hw : Wt w n M1) (ht : ∀ t, t < 2 ^ n → M1 159 t = mV w t) : ∀ d a s step : Nat, a + d = n → (∀ j, j < a → s.testBit j = false) → s < 2 ^ n → step ≤ a → Q (S, M1, some (.inl (pA w (mV w) n p d s))) → En 29 8 [some (.inr (.inr 158)), some (.inl (p : Int)), some (.inl (n : Int)), some (.inl (s : Int)), some (.inl (step : Int)), none, none] [] S M1 Q := by
  have p2 := p8 hn
  intro d
  induction d with
  | zero =>
    intro a s step ha hlow hs hst h
    have h0 : s = 0 := set_ext (fun k => by
      rw [Nat.zero_testBit]
      by_cases hk : k < n
      · exact hlow k (by omega)
      · exact big_bit hs (by omega))
    apply r_X3_partnerOf_8 hS
    exact ⟨fun _ => h, fun _ => ⟨fun _ => h, fun z => by omega⟩⟩
  | succ d ih =>
    intro a s step ha hlow hs hst h
    have ea : n - (d + 1) = a := by omega
    rw [pA, ea] at h
    by_cases hb : s.testBit a = true
    · rw [if_pos hb] at h
      obtain ⟨h0, hl⟩ := low_is (by omega) hb hlow
      obtain ⟨l1, l2, l3, l4⟩ := set_low s (by omega) h0
      apply r_X3_partnerOf_8 hS
      refine ⟨fun z => by omega, fun _ => ⟨fun z => by omega, fun _ => sp_lowest hS ⟨_, _, rfl, ?_⟩⟩⟩
      rw [hl]
      refine sp_choiceOf hS hn hs (by omega) hb hl h0 hw ht ⟨_, _, rfl, fun z => ⟨fun z2 => ⟨by unfold inR; omega, ((del s a : Nat) : Int), ?_, ?_⟩, fun z2 => ?_⟩, fun z => ?_⟩
      · rw [show ((s : Int) - 1) = ((s - 1 : Nat) : Int) by omega, bi_andN, l4, hl]
      · rw [if_neg (by omega), if_neg z2] at h
        rw [show ((step : Int) + 1) = ((step + 1 : Nat) : Int) by omega]
        have dl := del_lt hb
        have hlow2 : ∀ j, j < a + 1 → (del s a).testBit j = false := fun j hj => by
          rw [del_bit]
          by_cases hja : j = a
          · simp [hja]
          · rw [hlow j (by omega)]; rfl
        refine ⟨fun z3 => ⟨by unfold inR; omega, ?_⟩, fun z3 => ?_⟩
        · rw [if_pos z3] at h
          exact ih (a + 1) (del s a) (step + 1) (by omega) hlow2 (by omega) (by omega) h
        · rcases cho_in (w := w) (A := mV w) (i := a) (s := s) (7 - a) (by omega) with q | ⟨k, k8, q, kb⟩
          · exact absurd q z3
          · rw [if_neg z3] at h
            rw [q] at h ⊢
            rw [Int.toNat_natCast] at h
            refine ⟨p2k (k := k) (by omega), _, bi_xorN _ _, by unfold inR; omega, ?_⟩
            rw [Int.toNat_natCast, xor_del kb]
            have d3 := del_lt kb
            refine ih (a + 1) (del (del s a) k) (step + 1) (by omega) (fun j hj => ?_) (by omega) (by omega) h
            rw [del_bit, hlow2 j hj]; rfl
      · rw [if_neg (by omega), if_pos z2] at h; exact h
      · rw [if_pos (by omega)] at h; exact h
    · rw [if_neg hb] at h
      refine ih (a + 1) s step (by omega) (fun j hj => ?_) hs (by omega) h
      by_cases hja : j = a
      · rw [hja]; simpa using hb
      · exact hlow j (by omega)
theorem sp_partnerOf (hS : KC S) {w : Nat → Nat → Bool} {n p : Nat} {M1 : Mem} (hn : n ≤ 8) (hw : Wt w n M1) (ht : ∀ t, t < 2 ^ n → M1 159 t = mV w t) (h : Q (S, M1, some (.inl (pA w (mV w) n p n (2 ^ n - 1))))) : Ca 29 [.inr (.inr 158), .inl (p : Int), .inl (n : Int)] S M1 Q := by
  have p0 : 0 < 2 ^ n := Nat.pow_pos (by decide)
  apply r_X3_partnerOf_0 hS
  obtain ⟨a, b, c, d⟩ := p2m hn
  refine ⟨a, b, ?_⟩
  rw [c]
  exact part_loop hS hn hw ht n 0 (2 ^ n - 1) 0 (by omega) (fun j hj => by omega) (by omega) (Nat.le_refl 0) h
end Most
