/-! the reference's weddings -/
def Mr (M M1 : Mem) : Prop := ∀ q, q ≠ 184 → q ≠ 186 → M1 q = M q
theorem Mr_same {M M1 : Mem} (h : Mr M M1) : Same M M1 := fun q k hq => by rw [h q (by unfold scr at hq; omega) (by unfold scr at hq; omega)]
theorem Mr_Tn {M M1 : Mem} {n : Nat} (h : Mr M M1) (hT : Tn M 8 0 n) : Tn M1 8 0 n := Tn_same (Mr_same h) (by omega) (by decide) hT
theorem Mr_may {M M1 : Mem} (h : Mr M M1) (i k : Nat) (r : Int) : mMay M1 i k r ↔ mMay M i k r := mMay_rows (h 174 (by decide) (by decide)) (h 179 (by decide) (by decide)) (h 180 (by decide) (by decide)) i k r
theorem Mr_up6 {M M1 : Mem} (h : Mr M M1) (k : Nat) (v : Int) : Mr M (up2 M1 186 k v) := fun q q1 q2 => by rw [up2_row _ _ _ _ q2]; exact h q q1 q2
theorem Mr_up4 {M M1 : Mem} (h : Mr M M1) (k : Nat) (v : Int) : Mr M (up2 M1 184 k v) := fun q q1 q2 => by rw [up2_row _ _ _ _ q1]; exact h q q1 q2
theorem del_no {s i : Nat} (h : s.testBit i = false) : del s i = s := set_ext (fun k => by
  rw [del_bit]
  by_cases hk : k = i
  · rw [hk, h]; rfl
  · simp [hk])
section Wedd
variable {S : Shp} {M : Mem} {Q : Res → Prop}
theorem wd_k (hM : KM S) {n : Nat} (hT : Tn M 8 0 n) {r : Int} (hr : 0 ≤ r ∧ r ≤ 25) {s i : Nat} (hs : s < 2 ^ n) (hi : i < n) (hb : s.testBit i = true) (hk : ∀ M', Mr M M' → (∀ t, t < s → M' 186 t = mV (mB M r) t) → M' 186 s = mI (mB M r) (mV (mB M r)) i (del s i) (n - 1 - i) → En 195 115 [some (.inr (.inr 173)), some (.inl r), some (.inl (s : Int)), some (.inl (i : Int)), none, none, none, none] [] S M' Q) : ∀ (e d : Nat) (M1 : Mem), i + 1 + d + e = n → Mr M M1 → (∀ t, t < s → M1 186 t = mV (mB M r) t) → M1 186 s = mI (mB M r) (mV (mB M r)) i (del s i) d → En 195 57 [some (.inr (.inr 173)), some (.inl r), some (.inl (s : Int)), some (.inl (i : Int)), some (.inl (del s i : Int)), some (.inl ((i + 1 + d : Nat) : Int)), none, none] [] S M1 Q := by
  have hn8 := hT.1.1
  have p := p8 hn8
  have dl := del_lt hb
  intro e
  induction e with
  | zero =>
    intro d M1 he hl ht hc
    have ed : d = n - 1 - i := by omega
    subst ed
    apply r_X9_weddings_57 hM
    have e0 : M1 174 (0 : Int).toNat = n := by rw [hl 174 (by decide) (by decide)]; exact hT.2.1.2.1
    rw [e0]
    exact ⟨by decide, fun _ => hk M1 hl ht hc, fun z => by omega⟩
  | succ e ih =>
    intro d M1 he hl ht hc
    have nx : ∀ M2, Mr M M2 → (∀ t, t < s → M2 186 t = mV (mB M r) t) → M2 186 s = mI (mB M r) (mV (mB M r)) i (del s i) (d + 1) → En 195 57 [some (.inr (.inr 173)), some (.inl r), some (.inl (s : Int)), some (.inl (i : Int)), some (.inl (del s i : Int)), some (.inl ((i + 1 + d + 1 : Nat) : Int)), none, none] [] S M2 Q := fun M2 a b c => ih (d + 1) M2 (by omega) a b c
    obtain ⟨k, hkk⟩ : ∃ k, k = i + 1 + d := ⟨_, rfl⟩
    have dk : ∀ y, (del s i).testBit k = y ↔ s.testBit k = y := fun y => by
      rw [del_bit]
      have : k ≠ i := by omega
      simp [this]
    have mi := mI_in (w := mB M r) (A := mV (mB M r)) (i := i) (rest := del s i) (fun t ht' => mV_in _ (t + 1) t (by omega) (by omega)) d
    have nx : ∀ M2, Mr M M2 → (∀ t, t < s → M2 186 t = mV (mB M r) t) → M2 186 s = (if (del s i).testBit k = true ∧ mB M r i k = true ∧ mI (mB M r) (mV (mB M r)) i (del s i) d < mV (mB M r) (del (del s i) k) + 1 then mV (mB M r) (del (del s i) k) + 1 else mI (mB M r) (mV (mB M r)) i (del s i) d) → En 195 57 [some (.inr (.inr 173)), some (.inl r), some (.inl (s : Int)), some (.inl (i : Int)), some (.inl (del s i : Int)), some (.inl ((k + 1 : Nat) : Int)), none, none] [] S M2 Q := fun M2 a b c => by
      have := nx M2 a b (by rw [mI, ← hkk]; exact c)
      rw [← hkk] at this
      exact this
    rw [← hkk]
    have fin : ∀ (x6 s0 : Int), (if M1 186 s < s0 then s0 else M1 186 s) = (if (del s i).testBit k = true ∧ mB M r i k = true ∧ mI (mB M r) (mV (mB M r)) i (del s i) d < mV (mB M r) (del (del s i) k) + 1 then mV (mB M r) (del (del s i) k) + 1 else mI (mB M r) (mV (mB M r)) i (del s i) d) → En 195 96 [some (.inr (.inr 173)), some (.inl r), some (.inl (s : Int)), some (.inl (i : Int)), some (.inl (del s i : Int)), some (.inl (k : Int)), some (.inl x6), none] [.inl s0] S M1 Q := fun x6 s0 hv => by
      have go : ∀ v x7 : Int, v = (if M1 186 s < s0 then s0 else M1 186 s) → En 195 112 [some (.inr (.inr 173)), some (.inl r), some (.inl (s : Int)), some (.inl (i : Int)), some (.inl (del s i : Int)), some (.inl (k : Int)), some (.inl x6), some (.inl x7)] [.inl v, .inl (s : Int), .inr (.inr 187)] S M1 Q := fun v x7 hv2 => by
        apply r_X9_weddings_112 hM
        rw [Int.toNat_natCast, show ((k : Int) + 1) = ((k + 1 : Nat) : Int) by omega]
        refine ⟨by omega, by unfold inR; omega, nx _ (Mr_up6 hl _ _) (fun t ht' => by rw [up2_off _ _ _ _ (by omega)]; exact ht t ht') ?_⟩
        rw [up2_get, hv2, hv]
      apply r_X9_weddings_96 hM
      rw [Int.toNat_natCast]
      refine ⟨by omega, fun z => ⟨by omega, go _ _ ?_⟩, fun z => go _ _ ?_⟩
      · rw [if_neg (by omega)]
      · rw [if_pos z]
    have no : ¬ ((del s i).testBit k = true ∧ mB M r i k = true) → En 195 78 [some (.inr (.inr 173)), some (.inl r), some (.inl (s : Int)), some (.inl (i : Int)), some (.inl (del s i : Int)), some (.inl (k : Int)), none, none] [] S M1 Q := fun q => by
      apply r_X9_weddings_78 hM
      apply r_X9_weddings_79 hM
      refine ⟨fun _ => fin 0 0 ?_, fun z => absurd rfl z⟩
      rw [hc, if_neg (by omega), if_neg (fun z => q ⟨z.1, z.2.1⟩)]
    apply r_X9_weddings_57 hM
    have e0 : M1 174 (0 : Int).toNat = n := by rw [hl 174 (by decide) (by decide)]; exact hT.2.1.2.1
    rw [e0, Int.toNat_natCast]
    refine ⟨by decide, fun z => by omega, fun _ => ⟨by omega, _, np_and1 s k, ?_⟩⟩
    by_cases hsk : s.testBit k = true
    · rw [if_pos hsk]
      refine ⟨fun z => absurd rfl z, fun _ => sq_isMay hM (Mr_Tn hl hT) hi (by omega) hr (fun q => ⟨_, _, rfl, fun z => absurd z (by decide), fun _ => ?_⟩) (fun q => ⟨_, _, rfl, fun _ => no (fun z => q ((Mr_may hl i k r).mpr (mB_iff.mp z.2))), fun z => absurd rfl z⟩)⟩
      have hb2 := (dk true).mpr hsk
      have d2 := del_lt hb2
      have b := mV_b (w := mB M r) (s := del (del s i) k) (by omega)
      apply r_X9_weddings_79 hM
      refine ⟨fun z => absurd z (by decide), fun _ => ⟨p2k (k := k) (by omega), _, bi_not _, ?_⟩⟩
      rw [Int.toNat_natCast]
      refine ⟨_, bi_del _ _, by omega, ?_⟩
      rw [Int.toNat_natCast, ht _ (by omega)]
      refine ⟨by unfold inR; omega, fin 1 _ ?_⟩
      have hmb : mB M r i k = true := mB_iff.mpr ((Mr_may hl i k r).mp q)
      rw [hc]
      by_cases hlt : mI (mB M r) (mV (mB M r)) i (del s i) d < mV (mB M r) (del (del s i) k) + 1
      · rw [if_pos hlt, if_pos ⟨hb2, hmb, hlt⟩]
      · rw [if_neg hlt, if_neg (fun z => hlt z.2.2)]
    · rw [if_neg hsk]
      exact ⟨fun _ => no (fun z => hsk ((dk true).mp z.1)), fun z => absurd z (by decide)⟩
theorem wd_i (hM : KM S) {n : Nat} (hT : Tn M 8 0 n) {r : Int} {s : Nat} (hs : s < 2 ^ n) {M1 : Mem} (hl : Mr M M1) (hyes : ∀ i, i < n → s.testBit i = true → En 195 31 [some (.inr (.inr 173)), some (.inl r), some (.inl (s : Int)), some (.inl (i : Int)), none, none, none, none] [] S M1 Q ∨ low s ≠ i) (hno : s = 0 → En 195 31 [some (.inr (.inr 173)), some (.inl r), some (.inl (s : Int)), some (.inl (n : Int)), none, none, none, none] [] S M1 Q) : ∀ d i : Nat, i + d = n → (∀ j, j < i → s.testBit j = false) → En 195 17 [some (.inr (.inr 173)), some (.inl r), some (.inl (s : Int)), some (.inl (i : Int)), none, none, none, none] [] S M1 Q := by
  have hn8 := hT.1.1
  have p := p8 hn8
  have e0 : M1 174 (0 : Int).toNat = n := by rw [hl 174 (by decide) (by decide)]; exact hT.2.1.2.1
  intro d
  induction d with
  | zero =>
    intro i hi hlow
    have e : i = n := by omega
    subst e
    apply r_X9_weddings_17 hM
    rw [e0]
    refine ⟨by decide, fun _ => hno (set_ext (fun k => ?_)), fun z => by omega⟩
    rw [Nat.zero_testBit]
    by_cases hk : k < i
    · exact hlow k hk
    · exact big_bit hs (by omega)
  | succ d ih =>
    intro i hi hlow
    apply r_X9_weddings_17 hM
    rw [e0, Int.toNat_natCast, show ((i : Int) + 1) = ((i + 1 : Nat) : Int) by omega]
    refine ⟨by decide, fun z => by omega, fun _ => ⟨by omega, _, np_and1 s i, ?_⟩⟩
    by_cases hb : s.testBit i = true
    · rw [if_pos hb]
      refine ⟨fun _ => ?_, fun z => absurd z (by decide)⟩
      rcases hyes i (by omega) hb with q | q
      · exact q
      · exact absurd (low_is (by omega) hb hlow).2 q
    · rw [if_neg hb]
      refine ⟨fun z => absurd rfl z, fun _ => ⟨by unfold inR; omega, ih (i + 1) (by omega) (fun j hj => ?_)⟩⟩
      by_cases hji : j = i
      · rw [hji]; simpa using hb
      · exact hlow j (by omega)
theorem wd_s (hM : KM S) {n : Nat} (hT : Tn M 8 0 n) {r : Int} (hr : 0 ≤ r ∧ r ≤ 25) (h : ∀ M', Mr M M' → (∀ t, t < 2 ^ n → M' 186 t = mV (mB M r) t) → Q (S, M', some (.inl (mV (mB M r) (2 ^ n - 1))))) : ∀ (d s : Nat) (M1 : Mem), s + d = 2 ^ n → Mr M M1 → (∀ t, t < s → M1 186 t = mV (mB M r) t) → En 195 2 [some (.inr (.inr 173)), some (.inl r), some (.inl (s : Int)), none, none, none, none, none] [] S M1 Q := by
  have hn8 := hT.1.1
  have p := p8 hn8
  have p0 : 0 < 2 ^ n := Nat.pow_pos (by decide)
  obtain ⟨a1, a2, a3, a4⟩ := p2m hn8
  intro d
  induction d with
  | zero =>
    intro s M1 hd hl ht
    apply r_X9_weddings_2 hM
    have e0 : M1 174 (0 : Int).toNat = n := by rw [hl 174 (by decide) (by decide)]; exact hT.2.1.2.1
    rw [e0, a3, a4]
    rw [a3] at a2
    rw [a4] at a1
    refine ⟨by decide, a1, fun _ => ⟨by decide, a1, a2, by omega, ?_⟩, fun z => by omega⟩
    rw [Int.toNat_natCast, ht _ (by omega)]
    exact h M1 hl (fun t q => ht t (by omega))
  | succ d ih =>
    intro s M1 hd hl ht
    have nx : ∀ (i : Int) (M2 : Mem), Mr M M2 → (∀ t, t < s → M2 186 t = mV (mB M r) t) → M2 186 s = mV (mB M r) s → En 195 115 [some (.inr (.inr 173)), some (.inl r), some (.inl (s : Int)), some (.inl i), none, none, none, none] [] S M2 Q := fun i M2 l2 t2 c2 => by
      apply r_X9_weddings_115 hM
      rw [show ((s : Int) + 1) = ((s + 1 : Nat) : Int) by omega]
      refine ⟨by unfold inR; omega, ih (s + 1) M2 (by omega) l2 (fun t q => ?_)⟩
      by_cases hts : t = s
      · rw [hts]; exact c2
      · exact t2 t (by omega)
    apply r_X9_weddings_2 hM
    have e0 : M1 174 (0 : Int).toNat = n := by rw [hl 174 (by decide) (by decide)]; exact hT.2.1.2.1
    rw [e0, a4, Int.toNat_natCast]
    rw [a4] at a1
    refine ⟨by decide, a1, fun z => by omega, fun _ => ⟨by omega, ?_⟩⟩
    have l1 := Mr_up6 hl s 0
    have t1 : ∀ t, t < s → up2 M1 186 s 0 186 t = mV (mB M r) t := fun t q => by rw [up2_off _ _ _ _ (by omega)]; exact ht t q
    have e1 : up2 M1 186 s 0 174 (0 : Int).toNat = n := by rw [l1 174 (by decide) (by decide)]; exact hT.2.1.2.1
    refine wd_i hM hT (by omega) l1 (fun i hi hb => ?_) (fun h0 => ?_) n 0 (by omega) (fun j hj => by omega)
    · by_cases hlo : low s = i
      · left
        have h0 : s ≠ 0 := fun z => by subst z; rw [Nat.zero_testBit] at hb; cases hb
        have dl := del_lt hb
        apply r_X9_weddings_31 hM
        rw [e1]
        refine ⟨by decide, fun z => by omega, fun _ => ⟨p2k (k := i) (by omega), _, bi_not _, ?_⟩⟩
        rw [Int.toNat_natCast]
        refine ⟨_, bi_del _ _, by omega, by omega, by unfold inR; omega, ?_⟩
        rw [Int.toNat_natCast, Int.toNat_natCast, t1 _ dl, show ((i : Int) + 1) = ((i + 1 + 0 : Nat) : Int) by omega]
        refine wd_k hM hT hr (by omega) hi hb (fun M3 l3 t3 c3 => nx _ M3 l3 t3 ?_) (n - 1 - i) 0 _ (by omega) (Mr_up6 l1 _ _) (fun t q => by rw [up2_off _ _ _ _ (by omega)]; exact t1 t q) (up2_get _ _ _ _)
        rw [mV_n hn8 (by omega) h0, hlo]
        exact c3
      · exact Or.inr hlo
    · subst h0
      apply r_X9_weddings_31 hM
      rw [e1]
      exact ⟨by decide, fun _ => nx _ _ l1 t1 (up2_get _ _ _ _), fun z => by omega⟩
theorem sq_weddings (hM : KM S) {n : Nat} (hT : Tn M 8 0 n) {M1 : Mem} (hl : Mr M M1) {r : Int} (hr : 0 ≤ r ∧ r ≤ 25) (h : ∀ M', Mr M M' → (∀ t, t < 2 ^ n → M' 186 t = mV (mB M r) t) → Q (S, M', some (.inl (mV (mB M r) (2 ^ n - 1))))) : Ca 195 [.inr (.inr 173), .inl r] S M1 Q := by
  apply r_X9_weddings_0 hM
  exact wd_s hM hT hr h (2 ^ n) 0 M1 (by omega) hl (fun t q => by omega)
/-! match: one person behind the other -/
theorem mt_132 (hM : KM S) {x1 x2 : Int} {s a : Nat} {x5 x6 x7 : Int} {M1 : Mem} (ha : a < 8) (h : En 196 44 [some (.inr (.inr 173)), some (.inl x1), some (.inl x2), some (.inl (del s a : Int)), some (.inl ((a + 1 : Nat) : Int)), none, none, none, none] [] S M1 Q) : En 196 132 [some (.inr (.inr 173)), some (.inl x1), some (.inl x2), some (.inl (s : Int)), some (.inl (a : Int)), some (.inl x5), some (.inl x6), some (.inl x7), none] [] S M1 Q := by
  apply r_X9_match_132 hM
  refine ⟨p2k (k := a) (by omega), _, bi_not _, ?_⟩
  rw [Int.toNat_natCast, show ((a : Int) + 1) = ((a + 1 : Nat) : Int) by omega]
  exact ⟨_, bi_del _ _, by unfold inR; omega, h⟩
theorem mt_k (hM : KM S) {n : Nat} (hT : Tn M 8 0 n) {s a : Nat} {x1 x2 : Int} (hs : s < 2 ^ n) (ha : a < n) (hb : s.testBit a = true) {M1 : Mem} (hl : Mr M M1) (ht : ∀ t, t < 2 ^ n → M1 186 t = mV (mB M (M 174 2)) t) (hno : cho (mB M (M 174 2)) (mV (mB M (M 174 2))) a s (7 - a) = -4 → En 196 44 [some (.inr (.inr 173)), some (.inl x1), some (.inl x2), some (.inl (del s a : Int)), some (.inl ((a + 1 : Nat) : Int)), none, none, none, none] [] S M1 Q) (hyes : ∀ k, k < n → a < k → (del s a).testBit k = true → cho (mB M (M 174 2)) (mV (mB M (M 174 2))) a s (7 - a) = (k : Int) → En 196 44 [some (.inr (.inr 173)), some (.inl x1), some (.inl x2), some (.inl (del (del s a) k : Int)), some (.inl ((a + 1 : Nat) : Int)), none, none, none, none] [] S (up2 (up2 M1 184 a (k : Int)) 184 k (a : Int)) Q) : ∀ d k : Nat, k + d = n → a < k → cho (mB M (M 174 2)) (mV (mB M (M 174 2))) a s (8 - k) = cho (mB M (M 174 2)) (mV (mB M (M 174 2))) a s (7 - a) → En 196 70 [some (.inr (.inr 173)), some (.inl x1), some (.inl x2), some (.inl (s : Int)), some (.inl (a : Int)), some (.inl (1 : Int)), some (.inl (mV (mB M (M 174 2)) s)), some (.inl (k : Int)), none] [] S M1 Q := by
  have hn8 := hT.1.1
  have p := p8 hn8
  have e0 : M1 174 (0 : Int).toNat = n := by rw [hl 174 (by decide) (by decide)]; exact hT.2.1.2.1
  have hr : 0 ≤ M 174 2 ∧ M 174 2 ≤ 25 := hT.2.2.2.1.2
  have e2 : M1 174 (2 : Int).toNat = M 174 2 := by rw [hl 174 (by decide) (by decide)]; rfl
  have dl := del_lt hb
  intro d
  induction d with
  | zero =>
    intro k hk hak hc
    have e : k = n := by omega
    subst e
    apply r_X9_match_70 hM
    rw [e0]
    refine ⟨by decide, fun _ => mt_132 hM (by omega) (hno ?_), fun z => by omega⟩
    rw [← hc]
    exact cho_top hs (8 - k) (by omega)
  | succ d ih =>
    intro k hk hak hc
    have e8 : 8 - k = (7 - k) + 1 := by omega
    have e7 : 7 - (7 - k) = k := by omega
    have e9 : 8 - (k + 1) = 7 - k := by omega
    rw [e8, cho, e7] at hc
    have dk : (del s a).testBit k = s.testBit k := by
      rw [del_bit]
      have : k ≠ a := by omega
      simp [this]
    have no : ¬ ((del s a).testBit k = true ∧ mB M (M 174 2) a k = true ∧ mV (mB M (M 174 2)) (del (del s a) k) + 1 = mV (mB M (M 174 2)) s) → ∀ x8 : Int, En 196 130 [some (.inr (.inr 173)), some (.inl x1), some (.inl x2), some (.inl (s : Int)), some (.inl (a : Int)), some (.inl (1 : Int)), some (.inl (mV (mB M (M 174 2)) s)), some (.inl (k : Int)), some (.inl x8)] [] S M1 Q := fun q x8 => by
      apply r_X9_match_130 hM
      rw [show ((k : Int) + 1) = ((k + 1 : Nat) : Int) by omega]
      refine ⟨by unfold inR; omega, ih (k + 1) (by omega) (by omega) ?_⟩
      rw [if_neg q] at hc
      rw [e9]; exact hc
    apply r_X9_match_70 hM
    rw [e0, e2]
    refine ⟨by decide, fun z => by omega, fun _ => ⟨fun z => absurd z (by decide), fun _ => ⟨p2k (k := a) (by omega), _, bi_not _, ?_⟩⟩⟩
    rw [Int.toNat_natCast]
    refine ⟨_, bi_del _ _, p2k (k := k) (by omega), _, bi_not _, ?_⟩
    rw [Int.toNat_natCast]
    refine ⟨_, bi_del _ _, by omega, _, np_and1 s k, ?_⟩
    by_cases hsk : s.testBit k = true
    · rw [if_pos hsk]
      have hb2 : (del s a).testBit k = true := by rw [dk]; exact hsk
      have d2 := del_lt hb2
      refine ⟨fun z => absurd rfl z, fun _ => ⟨by decide, sq_isMay hM (Mr_Tn hl hT) ha (by omega) hr (fun q => ⟨_, _, rfl, fun z => absurd z (by decide), fun _ => ?_⟩) (fun q => ⟨_, _, rfl, fun _ => no (fun z => q ((Mr_may hl a k _).mpr (mB_iff.mp z.2.1))) _, fun z => absurd rfl z⟩)⟩⟩
      have hmb : mB M (M 174 2) a k = true := mB_iff.mpr ((Mr_may hl a k _).mp q)
      have b := mV_b (w := mB M (M 174 2)) (s := del (del s a) k) (by omega)
      rw [Int.toNat_natCast, ht _ (by omega)]
      refine ⟨by omega, by unfold inR; omega, fun z => no (fun y => z y.2.2) _, fun z => ⟨by omega, by omega, ?_⟩⟩
      rw [if_pos ⟨hb2, hmb, z⟩] at hc
      have fin := hyes k (by omega) hak hb2 hc.symm
      apply r_X9_match_130 hM
      refine ⟨by unfold inR; omega, ?_⟩
      have e0' : (up2 (up2 M1 184 a (k : Int)) 184 k (a : Int)) 174 (0 : Int).toNat = n := by rw [up2_row _ _ _ _ (by decide), up2_row _ _ _ _ (by decide)]; exact e0
      have da : del (del (del s a) k) a = del (del s a) k := del_no (by rw [del_bit, del_bit]; simp)
      have fin2 : ∀ x7, En 196 132 [some (.inr (.inr 173)), some (.inl x1), some (.inl x2), some (.inl ((del (del s a) k : Nat) : Int)), some (.inl (a : Int)), some (.inl (0 : Int)), some (.inl (mV (mB M (M 174 2)) s)), some (.inl x7), none] [] S (up2 (up2 M1 184 a (k : Int)) 184 k (a : Int)) Q := fun x7 => mt_132 hM (by omega) (by rw [da]; exact fin)
      apply r_X9_match_70 hM
      rw [e0']
      exact ⟨by decide, fun _ => fin2 _, fun _ => ⟨fun _ => fin2 _, fun z => absurd rfl z⟩⟩
    · rw [if_neg hsk]
      exact ⟨fun _ => no (fun z => hsk (by rw [← dk]; exact z.1)) _, fun z => absurd z (by decide)⟩
theorem mt_a (hM : KM S) {n : Nat} (hT : Tn M 8 0 n) {x1 x2 : Int} {F : Nat → Int} (h : ∀ M', Mr M M' → (∀ p, p < n → M' 184 p = F p) → En 196 44 [some (.inr (.inr 173)), some (.inl x1), some (.inl x2), some (.inl (0 : Int)), some (.inl (n : Int)), none, none, none, none] [] S M' Q) : ∀ (d a s : Nat) (M1 : Mem), a + d = n → (∀ j, j < a → s.testBit j = false) → s < 2 ^ n → Mr M M1 → (∀ t, t < 2 ^ n → M1 186 t = mV (mB M (M 174 2)) t) → (∀ j, s.testBit j = true → M1 184 j = -4) → (∀ p, p < n → (if s.testBit p = true then pA (mB M (M 174 2)) (mV (mB M (M 174 2))) n p d s else M1 184 p) = F p) → En 196 44 [some (.inr (.inr 173)), some (.inl x1), some (.inl x2), some (.inl (s : Int)), some (.inl (a : Int)), none, none, none, none] [] S M1 Q := by
  have hn8 := hT.1.1
  have p8' := p8 hn8
  intro d
  induction d with
  | zero =>
    intro a s M1 ha hlow hs hl ht h4 hF
    have h0 : s = 0 := set_ext (fun k => by
      rw [Nat.zero_testBit]
      by_cases hk : k < n
      · exact hlow k (by omega)
      · exact big_bit hs (by omega))
    have e : a = n := by omega
    subst h0; subst e
    refine h M1 hl (fun p hp => ?_)
    have := hF p hp
    rw [Nat.zero_testBit, if_neg (by decide)] at this
    exact this
  | succ d ih =>
    intro a s M1 ha hlow hs hl ht h4 hF
    have e0 : M1 174 (0 : Int).toNat = n := by rw [hl 174 (by decide) (by decide)]; exact hT.2.1.2.1
    have ea : n - (d + 1) = a := by omega
    have hlow2 : ∀ j, j < a + 1 → (del s a).testBit j = false := fun j hj => by
      rw [del_bit]
      by_cases hja : j = a
      · simp [hja]
      · rw [hlow j (by omega)]; rfl
    have dle := del_le s a
    apply r_X9_match_44 hM
    rw [e0, Int.toNat_natCast]
    refine ⟨by decide, fun z => by omega, fun _ => ⟨by omega, _, np_and1 s a, ?_⟩⟩
    by_cases hb : s.testBit a = true
    · rw [if_pos hb]
      refine ⟨fun z => absurd rfl z, fun _ => ?_⟩
      apply r_X9_match_60 hM
      rw [Int.toNat_natCast, ht s hs, show ((a : Int) + 1) = ((a + 1 : Nat) : Int) by omega]
      have pe : ∀ p, pA (mB M (M 174 2)) (mV (mB M (M 174 2))) n p (d + 1) s = (if a = p then cho (mB M (M 174 2)) (mV (mB M (M 174 2))) a s (7 - a) else if cho (mB M (M 174 2)) (mV (mB M (M 174 2))) a s (7 - a) = p then (a : Int) else pA (mB M (M 174 2)) (mV (mB M (M 174 2))) n p d (if cho (mB M (M 174 2)) (mV (mB M (M 174 2))) a s (7 - a) = -4 then del s a else del (del s a) (cho (mB M (M 174 2)) (mV (mB M (M 174 2))) a s (7 - a)).toNat)) := fun p => by rw [pA, ea, if_pos hb]
      refine ⟨by omega, by unfold inR; omega, mt_k hM hT hs (by omega) hb hl ht (fun hc => ?_) (fun k hk hak hkb hc => ?_) (n - (a + 1)) (a + 1) (by omega) (by omega) (by congr 1; omega)⟩
      · refine ih (a + 1) (del s a) M1 (by omega) hlow2 (by omega) hl ht (fun j hj => h4 j ?_) (fun p hp => ?_)
        · rw [del_bit] at hj; simp at hj; exact hj.1
        · have := hF p hp
          rw [pe p, hc] at this
          rw [del_bit, ← this]
          by_cases hpa : a = p
          · subst hpa
            rw [hb, if_pos rfl, if_pos rfl]
            simp [h4 a hb]
          · have h2 : ¬ p = a := fun z => hpa z.symm
            rw [if_neg hpa, if_neg (by omega : ¬ (-4 : Int) = (p : Int)), if_pos rfl]
            simp [h2]
      · have d2 := del_le (del s a) k
        have sk : s.testBit k = true := by rw [del_bit] at hkb; simp at hkb; exact hkb.1
        refine ih (a + 1) (del (del s a) k) _ (by omega) (fun j hj => by rw [del_bit, hlow2 j hj]; rfl) (by omega) (Mr_up4 (Mr_up4 hl _ _) _ _) (fun t q => by rw [up2_row _ _ _ _ (by decide), up2_row _ _ _ _ (by decide)]; exact ht t q) (fun j hj => ?_) (fun p hp => ?_)
        · rw [del_bit, del_bit] at hj
          simp at hj
          rw [up2_off _ _ _ _ hj.2, up2_off _ _ _ _ hj.1.2]
          exact h4 j hj.1.1
        · have := hF p hp
          rw [pe p, hc, Int.toNat_natCast, if_neg (by omega : ¬ (k : Int) = -4)] at this
          rw [del_bit, del_bit, ← this]
          by_cases hpk : p = k
          · subst hpk
            rw [up2_get, sk, if_pos rfl, if_neg (by omega : ¬ a = p), if_pos rfl]
            simp
          · rw [up2_off _ _ _ _ hpk, if_neg (by omega : ¬ (k : Int) = (p : Int))]
            by_cases hpa : p = a
            · subst hpa
              rw [up2_get, hb, if_pos rfl, if_pos rfl]
              simp
            · rw [up2_off _ _ _ _ hpa, if_neg (by omega : ¬ a = p)]
              simp [hpk, hpa]
    · rw [if_neg hb]
      refine ⟨fun _ => ?_, fun z => absurd z (by decide)⟩
      apply r_X9_match_60 hM
      have hbf : s.testBit a = false := by simpa using hb
      have nx : En 196 44 [some (.inr (.inr 173)), some (.inl x1), some (.inl x2), some (.inl (del s a : Int)), some (.inl ((a + 1 : Nat) : Int)), none, none, none, none] [] S M1 Q := by
        rw [del_no hbf]
        refine ih (a + 1) s M1 (by omega) (fun j hj => ?_) hs hl ht h4 (fun p hp => ?_)
        · by_cases hja : j = a
          · rw [hja]; exact hbf
          · exact hlow j (by omega)
        · have := hF p hp
          rw [pA, ea, if_neg hb] at this
          exact this
      refine ⟨by omega, by unfold inR; omega, ?_⟩
      apply r_X9_match_70 hM
      rw [e0]
      exact ⟨by decide, fun _ => mt_132 hM (by omega) nx, fun _ => ⟨fun _ => mt_132 hM (by omega) nx, fun z => absurd rfl z⟩⟩
theorem mt_32 (hM : KM S) {x1 x2 x3 : Int} (h : ∀ M', Mr M M' → (∀ t, M' 186 t = M 186 t) → (∀ j, j < 8 → M' 184 j = -4) → En 196 44 [some (.inr (.inr 173)), some (.inl x1), some (.inl x2), some (.inl x3), some (.inl (0 : Int)), none, none, none, none] [] S M' Q) : ∀ (d a : Nat) (M1 : Mem), a + d = 8 → Mr M M1 → (∀ t, M1 186 t = M 186 t) → (∀ j, j < a → M1 184 j = -4) → En 196 32 [some (.inr (.inr 173)), some (.inl x1), some (.inl x2), some (.inl x3), some (.inl (a : Int)), none, none, none, none] [] S M1 Q := by
  intro d
  induction d with
  | zero =>
    intro a M1 ha hl ht h4
    apply r_X9_match_32 hM
    exact ⟨fun _ => h M1 hl ht (fun j hj => h4 j (by omega)), fun z => by omega⟩
  | succ d ih =>
    intro a M1 ha hl ht h4
    apply r_X9_match_32 hM
    rw [Int.toNat_natCast, show ((a : Int) + 1) = ((a + 1 : Nat) : Int) by omega]
    refine ⟨fun z => by omega, fun _ => ⟨by omega, by unfold inR; omega, ih (a + 1) _ (by omega) (Mr_up4 hl _ _) (fun t => by rw [up2_row _ _ _ _ (by decide)]; exact ht t) (fun j hj => ?_)⟩⟩
    by_cases hja : j = a
    · rw [hja, up2_get]
    · rw [up2_off _ _ _ _ hja]; exact h4 j (by omega)
end Wedd
