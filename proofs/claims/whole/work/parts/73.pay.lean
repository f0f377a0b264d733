/-! payments: the loops -/
def pV (M : Mem) (n i : Nat) : Int := nb (mD M 0) i n
theorem pV_in {M : Mem} {n i : Nat} (hT : Tn M 8 0 n) (hi : i < n) : -7992 ≤ pV M n i ∧ pV M n i ≤ 7992 := by
  have hn8 := hT.1.1
  have := nb_in (D := mD M 0) (i := i) (n := n) (fun a b ha hb => (Tn_D hT ha hb).2) hi n (Nat.le_refl n)
  unfold pV
  omega
theorem sS_in {M : Mem} {n : Nat} (hT : Tn M 8 0 n) (p : Nat → Bool) (m : Nat) (hm : m ≤ n) : -63936 ≤ sumB p (pV M n) m ∧ sumB p (pV M n) m ≤ 63936 := by
  have hn8 := hT.1.1
  have := sumB_b (p := p) (W := pV M n) (b := 7992) (by decide) m (fun j hj => pV_in hT (by omega))
  omega
def Lp (M M1 : Mem) : Prop := ∀ q, q ≠ 166 → q ≠ 167 → M1 q = M q
theorem Lp_same {M M1 : Mem} (h : Lp M M1) : Same M M1 ∧ ∀ q, 172 ≤ q → M1 q = M q := ⟨fun q k hq => by rw [h q (by unfold scr at hq; omega) (by unfold scr at hq; omega)], fun q hq => h q (by omega) (by omega)⟩
theorem Lp_up6 {M M1 : Mem} (h : Lp M M1) (k : Nat) (v : Int) : Lp M (up2 M1 166 k v) := fun q q1 q2 => by rw [up2_row _ _ _ _ q1]; exact h q q1 q2
theorem Lp_up7 {M M1 : Mem} (h : Lp M M1) (k : Nat) (v : Int) : Lp M (up2 M1 167 k v) := fun q q1 q2 => by rw [up2_row _ _ _ _ q2]; exact h q q1 q2
section Pay
variable {S : Shp} {M : Mem} {Q : Res → Prop}
theorem mg_loop (hS : KC S) {n : Nat} (hT : Tn M 8 0 n) {s : Nat} {M1 : Mem} (hs : s < 2 ^ n) (h0 : s ≠ 0) (hl : Lp M M1) (h6 : M1 166 s = sS (pV M n) n s) (h7 : ∀ t, t < s → M1 167 t = gV (c1 (pV M n) n) t) (h : Q (S, M1, some (.inl (gV (c1 (pV M n) n) s)))) : ∀ d i : Nat, i + d = 8 → En 4 4 [some (.inr (.inr 165)), some (.inl (s : Int)), some (.inl (gmx (gV (c1 (pV M n) n)) s i)), some (.inl (i : Int))] [] S M1 Q := by
  have hn8 := hT.1.1
  have p := p8 hn8
  intro d
  induction d with
  | zero =>
    intro i hi
    have e : i = 8 := by omega
    subst e
    apply r_X0_mostGroups_4 hS
    rw [Int.toNat_natCast, h6]
    have gb := gV_b (c := c1 (pV M n) n) (s := s) (by omega)
    rw [gV_s h0] at h gb
    refine ⟨fun _ => ⟨by omega, fun z => ?_, fun z => ?_⟩, fun z => by omega⟩
    · rw [if_neg (by unfold c1; simpa using z), Int.add_zero] at h; exact h
    · rw [if_pos (by unfold c1; simpa using z)] at h gb
      exact ⟨by unfold inR; omega, h⟩
  | succ d ih =>
    intro i hi
    have nx := ih (i + 1) (by omega)
    rw [gmx] at nx
    apply r_X0_mostGroups_4 hS
    rw [Int.toNat_natCast, show ((i : Int) + 1) = ((i + 1 : Nat) : Int) by omega]
    refine ⟨fun z => by omega, fun _ => sp_holds hS (by omega) ⟨_, _, rfl, ?_⟩⟩
    by_cases hb : s.testBit i = true
    · rw [if_pos hb]
      have dl := del_lt hb
      refine ⟨fun z => absurd z (by decide), fun _ => ⟨p2k (k := i) (by omega), _, bi_xorN _ _, ?_⟩⟩
      rw [Int.toNat_natCast i, xor_del hb, Int.toNat_natCast, h7 _ dl]
      refine ⟨by omega, by unfold inR; omega, ?_⟩
      by_cases hlt : gmx (gV (c1 (pV M n) n)) s i < gV (c1 (pV M n) n) (del s i)
      · rw [if_pos hlt]; rw [if_pos ⟨hb, hlt⟩] at nx; exact nx
      · rw [if_neg hlt]; rw [if_neg (fun z => hlt z.2)] at nx; exact nx
    · rw [if_neg hb]
      rw [if_neg (fun z => hb z.1)] at nx
      exact ⟨fun _ => ⟨by unfold inR; omega, nx⟩, fun z => absurd rfl z⟩
theorem fp_59 (hS : KC S) {n : Nat} (hT : Tn M 8 0 n) (h : ∀ M', Lp M M' → Q (S, M', some (.inl ((n : Int) - gV (c1 (pV M n) n) (2 ^ n - 1))))) : ∀ (d s : Nat) (M1 : Mem), s + d = 2 ^ n → 1 ≤ s → Lp M M1 → (∀ t, t < 2 ^ n → M1 166 t = sS (pV M n) n t) → (∀ t, t < s → M1 167 t = gV (c1 (pV M n) n) t) → En 3 59 [some (.inr (.inr 165)), some (.inr (.inr 9)), some (.inl ((2 ^ n - 1 : Nat) : Int)), some (.inl (s : Int)), none, none, none] [] S M1 Q := by
  have hn8 := hT.1.1
  have p := p8 hn8
  have p0 : 0 < 2 ^ n := Nat.pow_pos (by decide)
  intro d
  induction d with
  | zero =>
    intro s M1 hd h1 hl h6 h7
    apply r_X0_fewestPayments_59 hS
    have e0 : M1 8 0 = n := by rw [hl 8 (by decide) (by decide)]; exact hT.2.1.1
    have gb := gV_b (c := c1 (pV M n) n) (s := 2 ^ n - 1) (by omega)
    rw [e0, Int.toNat_natCast, h7 _ (by omega)]
    exact ⟨fun _ => ⟨by omega, by unfold inR; omega, h M1 hl⟩, fun z => by omega⟩
  | succ d ih =>
    intro s M1 hd h1 hl h6 h7
    apply r_X0_fewestPayments_59 hS
    rw [show ((s : Int) + 1) = ((s + 1 : Nat) : Int) by omega]
    refine ⟨fun z => by omega, fun _ => ⟨fun z => by omega, fun _ => r_X0_mostGroups_0 hS (mg_loop hS hT (by omega) (by omega) hl (h6 s (by omega)) h7 ⟨_, _, rfl, by omega, by unfold inR; omega, ?_⟩ 8 0 rfl)⟩⟩
    rw [Int.toNat_natCast]
    refine ih (s + 1) _ (by omega) (by omega) (Lp_up7 hl _ _) (fun t ht => by rw [up2_row _ _ _ _ (by decide)]; exact h6 t ht) (fun t ht => ?_)
    rw [up2_any]
    by_cases hts : t = s
    · rw [if_pos ⟨rfl, hts⟩, hts]
    · rw [if_neg (fun z => hts z.2)]; exact h7 t (by omega)
theorem fp_33 (hS : KC S) {n : Nat} (hT : Tn M 8 0 n) {x2 : Int} {i : Nat} (hi : i < n) (hk : ∀ M', Lp M M' → M' 167 0 = 0 → (∀ t, t < 2 ^ (i + 1) → M' 166 t = sS (pV M n) n t) → En 3 19 [some (.inr (.inr 165)), some (.inr (.inr 9)), some (.inl x2), some (.inl ((i + 1 : Nat) : Int)), none, none, none] [] S M' Q) : ∀ (d s : Nat) (M1 : Mem), s + d = 2 ^ (i + 1) → 2 ^ i ≤ s → Lp M M1 → M1 167 0 = 0 → (∀ t, t < s → M1 166 t = sS (pV M n) n t) → En 3 33 [some (.inr (.inr 165)), some (.inr (.inr 9)), some (.inl x2), some (.inl (i : Int)), some (.inl (pV M n i)), some (.inl ((1 : Int) * 2 ^ i)), some (.inl (s : Int))] [] S M1 Q := by
  have hn8 := hT.1.1
  have p := p8 (n := i + 1) (by omega)
  have e2 : (2 : Int) * ((1 : Int) * 2 ^ i) = ((2 ^ (i + 1) : Nat) : Int) := by rw [Nat.pow_succ]; simp [Int.mul_comm]
  have e2b : inR ((2 ^ (i + 1) : Nat) : Int) := by
    obtain ⟨w, hw⟩ : ∃ w, w = 2 ^ (i + 1) := ⟨_, rfl⟩
    rw [← hw] at p ⊢; unfold inR; omega
  intro d
  induction d with
  | zero =>
    intro s M1 hd h1 hl h7 h6
    apply r_X0_fewestPayments_33 hS
    rw [e2, show ((i : Int) + 1) = ((i + 1 : Nat) : Int) by omega]
    refine ⟨e2b, fun _ => ⟨by unfold inR; omega, hk M1 hl h7 (fun t ht => h6 t (by omega))⟩, fun z => by omega⟩
  | succ d ih =>
    intro s M1 hd h1 hl h7 h6
    obtain ⟨t1, t2⟩ := top_bit i (by omega) s (by omega) h1 (by omega)
    have dl := del_lt t1
    apply r_X0_fewestPayments_33 hS
    rw [e2, show ((s : Int) + 1) = ((s + 1 : Nat) : Int) by omega]
    refine ⟨e2b, fun z => by omega, fun _ => ⟨fun z => by omega, fun _ => ⟨_, bi_xorN _ _, ?_⟩⟩⟩
    rw [xor_del t1, Int.toNat_natCast, h6 _ dl, Int.toNat_natCast, ← sS_top hi t1]
    have b := sS_in hT (fun i => s.testBit i) n (Nat.le_refl n)
    refine ⟨by omega, by unfold inR sS; omega, by omega, by unfold inR; omega, ih (s + 1) _ (by omega) (by omega) (Lp_up6 hl _ _) (by rw [up2_row _ _ _ _ (by decide)]; exact h7) (fun t ht => ?_)⟩
    rw [up2_any]
    by_cases hts : t = s
    · rw [if_pos ⟨rfl, hts⟩, hts]
    · rw [if_neg (fun z => hts z.2)]; exact h6 t (by omega)
theorem fp_19 (hS : KC S) {n : Nat} (hT : Tn M 8 0 n) (h : ∀ M', Lp M M' → Q (S, M', some (.inl ((n : Int) - gV (c1 (pV M n) n) (2 ^ n - 1))))) : ∀ (d i : Nat) (M1 : Mem), i + d = n → Lp M M1 → M1 167 0 = 0 → (∀ t, t < 2 ^ i → M1 166 t = sS (pV M n) n t) → En 3 19 [some (.inr (.inr 165)), some (.inr (.inr 9)), some (.inl ((2 ^ n - 1 : Nat) : Int)), some (.inl (i : Int)), none, none, none] [] S M1 Q := by
  have hn8 := hT.1.1
  have p0 : 0 < 2 ^ n := Nat.pow_pos (by decide)
  intro d
  induction d with
  | zero =>
    intro i M1 hd hl h7 h6
    have e : i = n := by omega
    subst e
    apply r_X0_fewestPayments_19 hS
    have e0 : M1 8 0 = i := by rw [hl 8 (by decide) (by decide)]; exact hT.2.1.1
    rw [e0]
    refine ⟨fun _ => fp_59 hS hT h (2 ^ i - 1) 1 M1 (by omega) (Nat.le_refl 1) hl h6 (fun t ht => ?_), fun z => by omega⟩
    have : t = 0 := by omega
    subst this
    exact h7
  | succ d ih =>
    intro i M1 hd hl h7 h6
    apply r_X0_fewestPayments_19 hS
    have e0 : M1 8 0 = n := by rw [hl 8 (by decide) (by decide)]; exact hT.2.1.1
    rw [e0]
    have eD : ∀ a b, a < n → b < n → tD M1 8 a b = mD M 0 a b := fun a b ha hb => by
      have : tD M1 8 a b = tD M 8 a b := by unfold tD; rw [hl _ (by decide) (by decide)]
      rw [this]; exact (Tn_D hT ha hb).1
    refine ⟨fun z => by omega, fun _ => sp_balance (t := 8) hS (by decide) e0 hn8 (by omega) (fun a b ha hb => by rw [eD a b ha hb]; exact (Tn_D hT ha hb).2) ⟨_, _, rfl, p2k (k := i) (by omega), ?_⟩⟩
    rw [nb_congr eD (by omega) n (Nat.le_refl n), Int.toNat_natCast]
    have := fp_33 (Q := Q) hS hT (x2 := ((2 ^ n - 1 : Nat) : Int)) (i := i) (by omega) (fun M' l' a' b' => ih (i + 1) M' (by omega) l' a' b') (2 ^ i) (2 ^ i) M1 (by rw [Nat.pow_succ]; omega) (Nat.le_refl _) hl h7 h6
    have e : ((2 ^ i : Nat) : Int) = (1 : Int) * 2 ^ i := by simp
    rw [e] at this
    exact this
/-! the reference's payments -/
theorem pm_60 (hM : KM S) {n : Nat} (hT : Tn M 8 0 n) {s : Nat} {x2 : Int} (hs : s < 2 ^ n) (h0 : s ≠ 0) (hk : ∀ M', Mr M M' → (∀ t, t < s + 1 → M' 186 t = gV (c2 (pV M n) n) t) → En 202 43 [some (.inr (.inr 173)), some (.inl (nzs (pV M n) n : Int)), some (.inl x2), some (.inl ((s + 1 : Nat) : Int)), none, none, none] [] S M' Q) : ∀ (d i : Nat) (M1 : Mem), i + d = n → Mr M M1 → (∀ t, t < s → M1 186 t = gV (c2 (pV M n) n) t) → M1 186 s = gmx (gV (c2 (pV M n) n)) s i → En 202 60 [some (.inr (.inr 173)), some (.inl (nzs (pV M n) n : Int)), some (.inl x2), some (.inl (s : Int)), some (.inl (sumB (fun i => s.testBit i) (pV M n) i)), some (.inl (i : Int)), none] [] S M1 Q := by
  have hn8 := hT.1.1
  have p := p8 hn8
  intro d
  induction d with
  | zero =>
    intro i M1 hd hl h6 hc
    have e : i = n := by omega
    subst e
    have gb := gV_b (c := c2 (pV M i) i) (s := s) (by omega)
    have ge := gV_n (c := c2 (pV M i) i) hn8 hs h0
    have fin : ∀ (b x4 x5 : Int), b = (if c2 (pV M i) i s = true then 1 else 0) → En 202 124 [some (.inr (.inr 173)), some (.inl (nzs (pV M i) i : Int)), some (.inl x2), some (.inl (s : Int)), some (.inl x4), some (.inl x5), none] [.inl b, .inl (M1 186 s), .inl (s : Int), .inr (.inr 187)] S M1 Q := fun b x4 x5 hb => by
      apply r_X9_payments_124 hM
      have e1 : M1 186 s + b = gV (c2 (pV M i) i) s := by rw [hc, hb, ge]
      rw [e1, Int.toNat_natCast, show ((s : Int) + 1) = ((s + 1 : Nat) : Int) by omega]
      refine ⟨by unfold inR; omega, by omega, by unfold inR; omega, hk _ (Mr_up6 hl _ _) (fun t ht => ?_)⟩
      rw [up2_any]
      by_cases hts : t = s
      · rw [if_pos ⟨rfl, hts⟩, hts]
      · rw [if_neg (fun z => hts z.2)]; exact h6 t (by omega)
    apply r_X9_payments_60 hM
    have e0 : M1 174 (0 : Int).toNat = i := by rw [hl 174 (by decide) (by decide)]; exact hT.2.1.2.1
    rw [e0, Int.toNat_natCast]
    refine ⟨by decide, fun _ => ⟨by omega, fun z => ?_, fun z => ?_⟩, fun z => by omega⟩
    · apply r_X9_payments_123 hM
      refine fin 0 _ _ ?_
      rw [if_neg (by unfold c2; simp; exact fun q => absurd q z)]
    · refine ⟨-(nzs (pV M i) i : Int) - 1, ?_, ((s ^^^ (s &&& nzs (pV M i) i) : Nat) : Int), ?_, fun w => ?_, fun w => ?_⟩
      · show (if 0 ≤ (nzs (pV M i) i : Int) ∧ (0 : Int) ≤ -1 then some ((((nzs (pV M i) i : Int).toNat ^^^ (-1 : Int).toNat : Nat)) : Int) else if (-1 : Int) = -1 then some (-(nzs (pV M i) i : Int) - 1) else none) = _
        rw [if_neg (fun h => absurd h.2 (by decide)), if_pos rfl]
      · unfold bi_and
        rw [if_pos (by omega), if_neg (by omega), Int.toNat_natCast, show (-(-(nzs (pV M i) i : Int) - 1) - 1).toNat = nzs (pV M i) i by omega]
        rfl
      · apply r_X9_payments_123 hM
        refine fin 0 _ _ ?_
        rw [if_neg (fun q => w (by have := (of_decide_eq_true q).2; omega))]
      · refine fin 1 _ _ ?_
        have q : c2 (pV M i) i s = true := decide_eq_true ⟨z, by omega⟩
        rw [if_pos q]
  | succ d ih =>
    intro i M1 hd hl h6 hc
    have nx : ∀ (v : Int) (M2 : Mem), Mr M M2 → (∀ t, t < s → M2 186 t = gV (c2 (pV M n) n) t) → M2 186 s = gmx (gV (c2 (pV M n) n)) s (i + 1) → v = sumB (fun i => s.testBit i) (pV M n) (i + 1) → En 202 106 [some (.inr (.inr 173)), some (.inl (nzs (pV M n) n : Int)), some (.inl x2), some (.inl (s : Int)), some (.inl v), some (.inl (i : Int)), none] [] S M2 Q := fun v M2 a b c e => by
      apply r_X9_payments_106 hM
      rw [show ((i : Int) + 1) = ((i + 1 : Nat) : Int) by omega, e]
      exact ⟨by unfold inR; omega, ih (i + 1) M2 (by omega) a b c⟩
    apply r_X9_payments_60 hM
    have e0 : M1 174 (0 : Int).toNat = n := by rw [hl 174 (by decide) (by decide)]; exact hT.2.1.2.1
    rw [e0, Int.toNat_natCast, Int.toNat_natCast]
    refine ⟨by decide, fun z => by omega, fun _ => ⟨by omega, _, np_and1 s i, ?_⟩⟩
    by_cases hb : s.testBit i = true
    · rw [if_pos hb]
      have dl := del_lt hb
      have eD : mD M1 0 = mD M 0 := by unfold mD; rw [hl 180 (by decide) (by decide)]
      refine ⟨fun z => absurd rfl z, fun _ => sq_netOf hM e0 hn8 (by omega) (fun a b ha hb => by rw [eD]; exact (Tn_D hT ha hb).2) ⟨_, _, rfl, ?_⟩⟩
      rw [eD]
      have ev : sumB (fun i => s.testBit i) (pV M n) i + nb (mD M 0) i n = sumB (fun i => s.testBit i) (pV M n) (i + 1) := by
        rw [sumB, if_pos hb]; rfl
      have bb := sS_in hT (fun i => s.testBit i) (i + 1) (by omega)
      rw [ev]
      refine ⟨by unfold inR; omega, p2k (k := i) (by omega), _, bi_not _, _, bi_del _ _, by omega, by omega, ?_⟩
      rw [Int.toNat_natCast, h6 _ dl, hc]
      refine ⟨fun z => ⟨by omega, ?_⟩, fun z => ?_⟩
      · apply r_X9_payments_105 hM
        rw [Int.toNat_natCast]
        refine ⟨by omega, nx _ _ (Mr_up6 hl _ _) (fun t ht => by rw [up2_off _ _ _ _ (by omega)]; exact h6 t ht) ?_ rfl⟩
        rw [up2_get, gmx, if_neg (by omega)]
      · apply r_X9_payments_105 hM
        rw [Int.toNat_natCast]
        refine ⟨by omega, nx _ _ (Mr_up6 hl _ _) (fun t ht => by rw [up2_off _ _ _ _ (by omega)]; exact h6 t ht) ?_ rfl⟩
        rw [up2_get, gmx, if_pos ⟨hb, z⟩]
    · rw [if_neg hb]
      refine ⟨fun _ => nx _ M1 hl h6 ?_ ?_, fun z => absurd z (by decide)⟩
      · rw [gmx, if_neg (fun z => hb z.1)]; exact hc
      · rw [sumB, if_neg hb, Int.add_zero]
theorem pm_43 (hM : KM S) {n : Nat} (hT : Tn M 8 0 n) (h : ∀ M', Mr M M' → Q (S, M', some (.inl (cntB (fun i => decide (pV M n i ≠ 0)) n - gV (c2 (pV M n) n) (nzs (pV M n) n))))) : ∀ (d s : Nat) (M1 : Mem), s + d = 2 ^ n → 1 ≤ s → Mr M M1 → (∀ t, t < s → M1 186 t = gV (c2 (pV M n) n) t) → En 202 43 [some (.inr (.inr 173)), some (.inl (nzs (pV M n) n : Int)), some (.inl (cntB (fun i => decide (pV M n i ≠ 0)) n)), some (.inl (s : Int)), none, none, none] [] S M1 Q := by
  have hn8 := hT.1.1
  have p := p8 hn8
  have p0 : 0 < 2 ^ n := Nat.pow_pos (by decide)
  obtain ⟨a1, a2, a3, a4⟩ := p2m hn8
  have nlt : nzs (pV M n) n < 2 ^ n := by
    have : nzs (pV M n) n = (2 ^ n - 1) &&& nzs (pV M n) n := set_ext (fun k => by
      rw [Nat.testBit_and, all_bit]
      unfold nzs
      rw [wl_bit]
      by_cases hk : k < n <;> simp [hk])
    have q := Nat.and_le_left (n := 2 ^ n - 1) (m := nzs (pV M n) n)
    omega
  intro d
  induction d with
  | zero =>
    intro s M1 hd h1 hl h6
    apply r_X9_payments_43 hM
    have e0 : M1 174 (0 : Int).toNat = n := by rw [hl 174 (by decide) (by decide)]; exact hT.2.1.2.1
    rw [e0]
    rw [a4] at a1 ⊢
    have gb := gV_b (c := c2 (pV M n) n) (s := nzs (pV M n) n) (by omega)
    have cb := cntB_in (p := fun i => decide (pV M n i ≠ 0)) n
    rw [Int.toNat_natCast, h6 _ (by omega)]
    exact ⟨by decide, a1, fun _ => ⟨by omega, by unfold inR; omega, h M1 hl⟩, fun z => by omega⟩
  | succ d ih =>
    intro s M1 hd h1 hl h6
    apply r_X9_payments_43 hM
    have e0 : M1 174 (0 : Int).toNat = n := by rw [hl 174 (by decide) (by decide)]; exact hT.2.1.2.1
    rw [e0]
    rw [a4] at a1 ⊢
    rw [Int.toNat_natCast, Int.toNat_natCast]
    exact ⟨by decide, a1, fun z => by omega, fun _ => ⟨by omega, pm_60 hM hT (by omega) (by omega) (fun M' l' t' => ih (s + 1) M' (by omega) (by omega) l' t') n 0 _ (by omega) (Mr_up6 hl _ _) (fun t ht => by rw [up2_off _ _ _ _ (by omega)]; exact h6 t ht) (up2_get _ _ _ _)⟩⟩
theorem pm_6 (hM : KM S) {n : Nat} (hT : Tn M 8 0 n) (h : ∀ M', Mr M M' → Q (S, M', some (.inl (cntB (fun i => decide (pV M n i ≠ 0)) n - gV (c2 (pV M n) n) (nzs (pV M n) n))))) : ∀ (d i : Nat), i + d = n → En 202 6 [some (.inr (.inr 173)), some (.inl (wl (fun i => decide (pV M n i ≠ 0)) i : Int)), some (.inl (cntB (fun i => decide (pV M n i ≠ 0)) i)), some (.inl (i : Int)), none, none, none] [] S M Q := by
  have hn8 := hT.1.1
  have p0 : 0 < 2 ^ n := Nat.pow_pos (by decide)
  have e0 : M 174 (0 : Int).toNat = n := hT.2.1.2.1
  intro d
  induction d with
  | zero =>
    intro i hd
    have e : i = n := by omega
    subst e
    apply r_X9_payments_6 hM
    rw [e0]
    refine ⟨by decide, fun _ => ⟨by decide, pm_43 hM hT h (2 ^ i - 1) 1 _ (by omega) (Nat.le_refl 1) (Mr_up6 (fun _ _ _ => rfl) _ _) (fun t ht => ?_)⟩, fun z => by omega⟩
    have : t = 0 := by omega
    subst this
    exact up2_get _ _ _ _
  | succ d ih =>
    intro i hd
    have nx := ih (i + 1) (by omega)
    rw [wl, cntB] at nx
    have cb := cntB_in (p := fun i => decide (pV M n i ≠ 0)) i
    have net : ∀ {Q : Res → Prop}, Q (S, M, some (.inl (pV M n i))) → Ca 199 [.inr (.inr 173), .inl (i : Int)] S M Q := fun h => sq_netOf hM e0 hn8 (by omega) (fun a b ha hb => (Tn_D hT ha hb).2) h
    apply r_X9_payments_6 hM
    rw [e0]
    refine ⟨by decide, fun z => by omega, fun _ => net ⟨_, _, rfl, fun z => ?_, fun z => ⟨p2k (k := i) (by omega), ?_⟩⟩⟩
    · rw [if_neg (by simp [z]), if_neg (by simp [z])] at nx
      apply r_X9_payments_22 hM
      refine ⟨by omega, net ⟨_, _, rfl, fun _ => ?_, fun w => absurd z w⟩⟩
      apply r_X9_payments_32 hM
      rw [Int.toNat_natCast, show ((i : Int) + 1) = ((i + 1 : Nat) : Int) by omega]
      exact ⟨by unfold inR; omega, by unfold inR; omega, nx⟩
    · rw [if_pos (by simp [z]), if_pos (by simp [z])] at nx
      obtain ⟨q1, q2, q3⟩ := p2_in (v := i) (by omega)
      apply r_X9_payments_22 hM
      rw [Int.toNat_natCast]
      refine ⟨by omega, net ⟨_, _, rfl, fun w => absurd w z, fun _ => ?_⟩⟩
      apply r_X9_payments_32 hM
      rw [Int.toNat_natCast, q3, show ((i : Int) + 1) = ((i + 1 : Nat) : Int) by omega]
      exact ⟨by unfold inR; omega, by unfold inR; omega, nx⟩
theorem sim_payments (hS : KC S) (hM : KM S) (hR : Rel M) : Sim S M 121 202 [] := by
  obtain ⟨n, hT, -⟩ := id hR
  have hn8 := hT.1.1
  have hn : M 8 0 = n := hT.2.1.1
  obtain ⟨a1, a2, a3, a4⟩ := p2m hn8
  refine Sim.query2 hR ((n : Int) - gV (c1 (pV M n) n) (2 ^ n - 1)) (fun Q h => ?_) (fun M1 s1 k1 hR1 Q h => ?_)
  · apply r_X8_payments_0 hS
    apply r_X0_fewestPayments_0 hS
    rw [hn]
    refine ⟨a1, a2, by decide, by decide, ?_⟩
    rw [a3]
    refine fp_19 hS hT (fun M' l' => ⟨_, _, rfl, h M' (Lp_same l').1 (Lp_same l').2⟩) n 0 _ (by omega) (Lp_up7 (Lp_up6 (fun _ _ _ => rfl) _ _) _ _) (up2_get _ _ _ _) (fun t ht => ?_)
    have : t = 0 := by rw [Nat.pow_zero] at ht; omega
    subst this
    rw [up2_row _ _ _ _ (by decide)]
    have e : sS (pV M n) n 0 = 0 := by
      unfold sS
      have : ∀ m, sumB (fun i => Nat.testBit 0 i) (pV M n) m = 0 := fun m => by
        induction m with
        | zero => rfl
        | succ m ih => rw [sumB, ih, Nat.zero_testBit]; rfl
      exact this n
    rw [e]
    exact up2_get _ _ _ _
  · have hT1 := Rel_n hT s1 hR1
    have e : pV M1 n = pV M n := by funext i; unfold pV mD; rw [k1 180 (by decide)]
    apply r_X9_payments_0 hM
    refine pm_6 hM hT1 (fun M' l' => ?_) n 0 (by omega)
    rw [e, ← pay_eq hn8]
    exact h M' (Mr_same l')
end Pay
