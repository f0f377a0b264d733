/-! shortest: a name of one letter, or none -/
def sP (M : Mem) (i ρ j k x : Nat) (key : Int) : Prop := (ρ.testBit 0 = true → (M 174 5).toNat.testBit x = true) ∧ (ρ.testBit 1 = true → i ≠ j ∧ (key < mK M 0 j ∨ (key = mK M 0 j ∧ i < j))) ∧ (ρ.testBit 2 = true → mSuit M (x : Int) (mf M 0 k) (M 174 2))
def k1 (M : Mem) (x : Nat) : Int := (M 180 (144 + x) + 1) * 14348907
theorem rb0 : ∀ ρ : Nat, ρ < 8 → bi_and (ρ : Int) 1 = some (if ρ.testBit 0 = true then 1 else 0) := by decide
theorem rb1 : ∀ ρ : Nat, ρ < 8 → bi_and (ρ : Int) 2 = some (if ρ.testBit 1 = true then 2 else 0) := by decide
theorem rb2 : ∀ ρ : Nat, ρ < 8 → bi_and (ρ : Int) 4 = some (if ρ.testBit 2 = true then 4 else 0) := by decide
theorem mSuit_rows {M M1 : Mem} (e4 : M1 174 = M 174) (e9 : M1 179 = M 179) (e0 : ∀ k, k < 1870 → M1 180 k = M 180 k) {a b r : Int} (ha : a < 26) (hb : b < 26) : mSuit M1 a b r ↔ mSuit M a b r := by
  unfold mSuit
  rw [e4, e9, e0 (144 + a.toNat) (by omega), e0 (144 + b.toNat) (by omega)]
section Short
variable {S : Shp} {M : Mem} {Q : Res → Prop}
theorem fw_step (hS : KC S) {n : Nat} (hT : Tn M 8 0 n) {M1 : Mem} (hl : LN M M1 n) {i j k ρ r : Nat} (hi : i < n) (hj : j < n) (hk : k < n) (hρ : ρ < 8) (hr : r < 26) (h1 : sP M i ρ j k (pord M r) (k1 M (pord M r)) → Q (S, M1, some (.inl (pord M r : Int)))) (h0 : ¬ sP M i ρ j k (pord M r) (k1 M (pord M r)) → En 138 5 [some (.inr (.inr 5)), some (.inl (i : Int)), some (.inl (ρ : Int)), some (.inl (j : Int)), some (.inl (k : Int)), some (.inl ((r : Int) + 1)), none, none, none, none] [] S M1 Q) : En 138 5 [some (.inr (.inr 5)), some (.inl (i : Int)), some (.inl (ρ : Int)), some (.inl (j : Int)), some (.inl (k : Int)), some (.inl (r : Int)), none, none, none, none] [] S M1 Q := by
  have hn8 := hT.1.1
  have hT1 : Tn M1 8 0 n := Tn_same (LN_same hl) (by omega) (by decide) hT
  have ho := Tn_ord hT hr
  have e17 : M1 17 (r : Int).toNat = ((pord M r : Nat) : Int) := by rw [hl.1 17 (by decide), Int.toNat_natCast]; unfold pord; omega
  obtain ⟨x, hx⟩ : ∃ x, x = pord M r := ⟨_, rfl⟩
  rw [← hx] at h1 h0 ho e17
  unfold sP at h1 h0
  have last : ∀ a b c : Int, (a ≠ 0 ↔ (ρ.testBit 0 = true → (M 174 5).toNat.testBit x = true)) → (b ≠ 0 ↔ (ρ.testBit 1 = true → i ≠ j ∧ (k1 M x < mK M 0 j ∨ (k1 M x = mK M 0 j ∧ i < j)))) → (c ≠ 0 ↔ (ρ.testBit 2 = true → mSuit M (x : Int) (mf M 0 k) (M 174 2))) → En 138 67 [some (.inr (.inr 5)), some (.inl (i : Int)), some (.inl (ρ : Int)), some (.inl (j : Int)), some (.inl (k : Int)), some (.inl (r : Int)), some (.inl (x : Int)), some (.inl a), some (.inl b), none] [.inl c] S M1 Q := fun a b c qa qb qc => by
    apply r_X8_firstWithRights_67 hS
    refine ⟨fun z => ?_, fun z => ⟨fun z2 => ?_, fun z2 => ⟨fun z3 => ?_, fun z3 => h1 ⟨qa.mp z, qb.mp z2, qc.mp z3⟩⟩⟩⟩
    · apply r_X8_firstWithRights_76 hS
      exact ⟨by unfold inR; omega, h0 (fun w => qa.mpr w.1 z)⟩
    · apply r_X8_firstWithRights_76 hS
      exact ⟨by unfold inR; omega, h0 (fun w => qb.mpr w.2.1 z2)⟩
    · apply r_X8_firstWithRights_76 hS
      exact ⟨by unfold inR; omega, h0 (fun w => qc.mpr w.2.2 z3)⟩
  have near : ∀ a b : Int, (a ≠ 0 ↔ (ρ.testBit 0 = true → (M 174 5).toNat.testBit x = true)) → (b ≠ 0 ↔ (ρ.testBit 1 = true → i ≠ j ∧ (k1 M x < mK M 0 j ∨ (k1 M x = mK M 0 j ∧ i < j)))) → En 138 47 [some (.inr (.inr 5)), some (.inl (i : Int)), some (.inl (ρ : Int)), some (.inl (j : Int)), some (.inl (k : Int)), some (.inl (r : Int)), some (.inl (x : Int)), some (.inl a), none, none] [.inl b] S M1 Q := fun a b qa qb => by
    apply r_X8_firstWithRights_47 hS
    refine ⟨_, rb2 ρ hρ, ?_⟩
    by_cases hb : ρ.testBit 2 = true
    · rw [if_pos hb]
      refine ⟨fun z => absurd z (by decide), fun _ => sp_first (t := 8) hS (by decide) (by omega) ⟨_, _, rfl, ?_⟩⟩
      have ef : tf M1 8 k = mf M 0 k := by
        have : tf M1 8 k = tf M 8 k := by unfold tf; rw [hl.1 9 (by decide), hl.1 10 (by decide)]
        rw [this, Tn_f hT hk]
      have e2 : M1 8 2 = M 174 2 := by rw [hl.1 8 (by decide)]; exact hT.2.2.2.1.1
      have hf := Tn_fin hT hk
      rw [ef, e2]
      have sr : mSuit M1 (x : Int) (mf M 0 k) (M 174 2) ↔ mSuit M (x : Int) (mf M 0 k) (M 174 2) := mSuit_rows (hl.1 174 (by decide)) (hl.1 179 (by decide)) (fun k _ => by rw [hl.1 180 (by decide)]) (by omega) (by omega)
      refine sp_suits hS hT1 (Or.inr (by omega)) hf (fun q => ⟨_, _, rfl, fun z => absurd z (by decide), fun _ => ?_⟩) (fun q => ⟨_, _, rfl, fun _ => ?_, fun z => absurd rfl z⟩)
      · apply r_X8_firstWithRights_64 hS
        exact last a b 1 qa qb ⟨fun _ _ => sr.mp q, fun _ => by decide⟩
      · exact last a b 0 qa qb ⟨fun z => absurd rfl z, fun z => absurd (sr.mpr (z hb)) q⟩
    · rw [if_neg hb]
      refine ⟨fun _ => ?_, fun z => absurd rfl z⟩
      apply r_X8_firstWithRights_64 hS
      exact last a b 1 qa qb ⟨fun _ z => absurd z hb, fun _ => by decide⟩
  have ahead : ∀ a : Int, (a ≠ 0 ↔ (ρ.testBit 0 = true → (M 174 5).toNat.testBit x = true)) → En 138 26 [some (.inr (.inr 5)), some (.inl (i : Int)), some (.inl (ρ : Int)), some (.inl (j : Int)), some (.inl (k : Int)), some (.inl (r : Int)), some (.inl (x : Int)), none, none, none] [.inl a] S M1 Q := fun a qa => by
    apply r_X8_firstWithRights_26 hS
    refine ⟨_, rb1 ρ hρ, ?_⟩
    by_cases hb : ρ.testBit 1 = true
    · rw [if_pos hb]
      refine ⟨fun z => absurd z (by decide), fun _ => ⟨fun z => ?_, fun z => ?_⟩⟩
      · apply r_X8_firstWithRights_46 hS
        exact near a 0 qa ⟨fun w => absurd rfl w, fun w => absurd (by omega : i = j) (w hb).1⟩
      · have e16 : M1 (8 + 8) x = M 180 (144 + x) := by
          rw [hl.1 16 (by decide)]
          have := Tn_rk hT ho.2.1
          simpa using this
        have r16 := (Tn_sok hT).2.1 x ho.2.1
        refine sp_keyOfOne (t := 8) hS (by decide) ho.2.1 (by rw [e16]; exact r16) ⟨_, _, rfl, sp_isAhead hS (by omega) ⟨_, _, rfl, ?_⟩⟩
        rw [e16]
        have ek : M1 145 j = mK M 0 j := (LN_S hT hl).2.1 j hj
        have e1 : (M 180 (144 + x) + 1) * 14348907 = k1 M x := rfl
        rw [ek, e1]
        by_cases hc : k1 M x < mK M 0 j ∨ (k1 M x = mK M 0 j ∧ i < j)
        · rw [if_pos hc]
          refine ⟨fun w => absurd w (by decide), fun _ => ?_⟩
          apply r_X8_firstWithRights_44 hS
          exact near a 1 qa ⟨fun _ _ => ⟨by omega, hc⟩, fun _ => by decide⟩
        · rw [if_neg hc]
          refine ⟨fun _ => ?_, fun w => absurd rfl w⟩
          apply r_X8_firstWithRights_46 hS
          exact near a 0 qa ⟨fun w => absurd rfl w, fun w => absurd (w hb).2 hc⟩
    · rw [if_neg hb]
      refine ⟨fun _ => ?_, fun z => absurd rfl z⟩
      apply r_X8_firstWithRights_44 hS
      exact near a 1 qa ⟨fun _ z => absurd z hb, fun _ => by decide⟩
  apply r_X8_firstWithRights_5 hS
  rw [e17]
  refine ⟨fun z => by omega, fun _ => ⟨by omega, _, rb0 ρ hρ, ?_⟩⟩
  by_cases hb : ρ.testBit 0 = true
  · rw [if_pos hb]
    have e4 : M1 8 4 = M 174 5 := by rw [hl.1 8 (by decide)]; exact hT.2.2.2.2.2.1.1
    have h05 : 0 ≤ M 174 5 := hT.2.2.2.2.2.1.2.1
    refine ⟨fun z => absurd z (by decide), fun _ => sp_isVowel (t := 8) hS (by decide) ho.2.1 (by rw [e4]; exact h05) ⟨_, _, rfl, ?_⟩⟩
    rw [e4]
    by_cases hc : (M 174 5).toNat.testBit x = true
    · rw [if_pos hc]
      refine ⟨fun w => absurd w (by decide), fun _ => ?_⟩
      apply r_X8_firstWithRights_23 hS
      exact ahead 1 ⟨fun _ _ => hc, fun _ => by decide⟩
    · rw [if_neg hc]
      exact ⟨fun _ => ahead 0 ⟨fun w => absurd rfl w, fun w => absurd (w hb) hc⟩, fun w => absurd rfl w⟩
  · rw [if_neg hb]
    refine ⟨fun _ => ?_, fun z => absurd rfl z⟩
    apply r_X8_firstWithRights_23 hS
    exact ahead 1 ⟨fun _ z => absurd z hb, fun _ => by decide⟩
theorem fw_loop (hS : KC S) {n : Nat} (hT : Tn M 8 0 n) {M1 : Mem} (hl : LN M M1 n) {i j k ρ lim : Nat} (hi : i < n) (hj : j < n) (hk : k < n) (hρ : ρ < 8) (hlim : lim ≤ 26) (hno : ∀ r, r < lim → ¬ sP M i ρ j k (pord M r) (k1 M (pord M r))) (hyes : lim < 26 → sP M i ρ j k (pord M lim) (k1 M (pord M lim)) ∧ Q (S, M1, some (.inl (pord M lim : Int)))) (hnone : lim = 26 → Q (S, M1, some (.inl (-4)))) : ∀ d r : Nat, r + d = lim → En 138 5 [some (.inr (.inr 5)), some (.inl (i : Int)), some (.inl (ρ : Int)), some (.inl (j : Int)), some (.inl (k : Int)), some (.inl (r : Int)), none, none, none, none] [] S M1 Q := by
  intro d
  induction d with
  | zero =>
    intro r hr
    have e : r = lim := by omega
    subst e
    by_cases h26 : r = 26
    · apply r_X8_firstWithRights_5 hS
      exact ⟨fun _ => hnone h26, fun z => by omega⟩
    · have := hyes (by omega)
      exact fw_step hS hT hl hi hj hk hρ (by omega) (fun _ => this.2) (fun z => absurd this.1 z)
  | succ d ih =>
    intro r hr
    refine fw_step hS hT hl hi hj hk hρ (by omega) (fun z => absurd z (hno r (by omega))) (fun _ => ?_)
    have := ih (r + 1) (by omega)
    rw [show ((r : Int) + 1) = ((r + 1 : Nat) : Int) by omega]
    exact this
/-- the least place of a letter that will do -/
theorem least_lim (P : Nat → Prop) : ∀ m : Nat, ∃ lim, lim ≤ m ∧ (∀ r, r < lim → ¬ P r) ∧ (lim < m → P lim) := by
  intro m
  induction m with
  | zero => exact ⟨0, by omega, fun r hr => by omega, fun h => by omega⟩
  | succ m ih =>
    obtain ⟨l, l1, l2, l3⟩ := ih
    by_cases hl : l < m
    · exact ⟨l, by omega, l2, fun _ => l3 hl⟩
    · have e : l = m := by omega
      subst e
      by_cases hp : P l
      · exact ⟨l, by omega, l2, fun _ => hp⟩
      · exact ⟨l + 1, by omega, fun r hr => by
          by_cases hrl : r = l
          · subst hrl; exact hp
          · exact l2 r (by omega), fun h => by omega⟩
/-! the reference: names of one to three letters -/
def Tq (M M1 : Mem) (i : Nat) : Prop := Tz M M1 ∧ ∀ k, k < 170 → k ≠ i → ¬ (8 + 6 * i ≤ k ∧ k < 14 + 6 * i) → M1 180 (1870 + k) = M 180 k
/-- the letter at place p of the name that a code tells -/
def cl (M : Mem) (m code p : Nat) : Nat := pord M (code / 26 ^ (m - 1 - p) % 26)
def Tp (M M1 : Mem) (i m code e : Nat) : Prop := Tq M M1 i ∧ M1 180 (1870 + i) = m ∧ ∀ p, m - e ≤ p → p < m → M1 180 (1878 + 6 * i + p) = (cl M m code p : Int)
def cK (M : Mem) (m code : Nat) : Int := gkeyOf (m : Int) (fun p => (cl M m code p : Int)) (fun x => M 180 (144 + x))
theorem cl_in {n : Nat} (hT : Tn M 8 0 n) (m code p : Nat) : cl M m code p < 26 := (Tn_ord hT (Nat.mod_lt _ (by decide))).2.1
theorem cK_1 {n : Nat} (hT : Tn M 8 0 n) {m : Nat} (hm : 1 ≤ m ∧ m ≤ 6) (code : Nat) : k1 M (cl M m code 0) ≤ cK M m code ∧ (m = 1 → cK M m code = k1 M (cl M m code 0)) := by
  have hs := Tn_sok hT
  have g : gok (m : Int) (fun p => (cl M m code p : Int)) := ⟨by omega, fun p _ => by have := cl_in hT m code p; dsimp only; omega⟩
  have e1 : cK M m code = gsuf (m : Int) (fun p => (cl M m code p : Int)) (fun x => M 180 (144 + x)) 6 := by unfold cK gkeyOf; rw [if_neg (by omega), gkey_6]
  have e6 : gsuf (m : Int) (fun p => (cl M m code p : Int)) (fun x => M 180 (144 + x)) 6 = gtk (m : Int) (fun p => (cl M m code p : Int)) (fun x => M 180 (144 + x)) 0 * 27 ^ 5 + gsuf (m : Int) (fun p => (cl M m code p : Int)) (fun x => M 180 (144 + x)) 5 := rfl
  have t1 : gtk (m : Int) (fun p => (cl M m code p : Int)) (fun x => M 180 (144 + x)) 0 = M 180 (144 + cl M m code 0) + 1 := (gtk_lt g hs.2 (k := 0) (by omega)).1
  have s := gsuf_in g hs.2 5
  have p : (27 : Int) ^ 5 = 14348907 := by decide
  rw [e1, e6, t1, p]
  unfold k1
  refine ⟨by omega, fun h1 => ?_⟩
  rw [gsuf_0 5 (by decide) (by omega)]
  omega
theorem Tp_mN {n : Nat} (hT : Tn M 8 0 n) {M1 : Mem} {i m code : Nat} (hi : i < n) (hm : 1 ≤ m ∧ m ≤ 3) (h : Tp M M1 i m code m) : mN M1 11 n ∧ mK M1 11 i = cK M m code ∧ (∀ j, j < n → j ≠ i → mK M1 11 j = mK M 0 j) ∧ mf M1 11 i = (cl M m code 0 : Int) := by
  have hn8 := hT.1.1
  have hs := Tn_sok hT
  obtain ⟨⟨hz, h1⟩, h2, h3⟩ := h
  have sz : ∀ j, j < n → j ≠ i → M1 180 (170 * 11 + j) = M 180 j := fun j hj hji => h1 j (by omega) hji (by omega)
  have lt : ∀ j k, j < n → k < 6 → j ≠ i → M1 180 (170 * 11 + 8 + 6 * j + k) = M 180 (8 + 6 * j + k) := fun j k hj hk hji => by
    have := h1 (8 + 6 * j + k) (by omega) (by omega) (by omega)
    rw [← this]; congr 1; omega
  have szi : M1 180 (170 * 11 + i) = m := h2
  have lti : ∀ k, k < m → M1 180 (170 * 11 + 8 + 6 * i + k) = (cl M m code k : Int) := fun k hk => h3 k (by omega) hk
  have rk : ∀ z, z < 26 → M1 180 (170 * 11 + 144 + z) = M 180 (144 + z) := fun z hz' => by
    have := h1 (144 + z) (by omega) (by omega) (by omega)
    rw [← this]; congr 1; omega
  have gi : gok (m : Int) (fun p => (cl M m code p : Int)) := ⟨by omega, fun p _ => by have := cl_in hT m code p; dsimp only; omega⟩
  refine ⟨⟨fun j hj => ?_, fun z hz' => ?_, fun z w hz' hw e => ?_⟩, ?_, fun j hj hji => ?_, ?_⟩
  · by_cases hji : j = i
    · subst hji
      rw [szi]
      refine ⟨gi.1, fun k hk => ?_⟩
      show 0 ≤ M1 180 (170 * 11 + 8 + 6 * j + k) ∧ M1 180 (170 * 11 + 8 + 6 * j + k) < 26
      rw [lti k (by omega)]
      exact gi.2 k hk
    · rw [sz j hj hji]
      have g := hs.1 j hj
      refine ⟨g.1, fun k hk => ?_⟩
      have := g.1
      show 0 ≤ M1 180 (170 * 11 + 8 + 6 * j + k) ∧ M1 180 (170 * 11 + 8 + 6 * j + k) < 26
      rw [lt j k hj (by omega) hji]
      exact g.2 k hk
  · show 0 ≤ M1 180 (170 * 11 + 144 + z) ∧ M1 180 (170 * 11 + 144 + z) < 26
    rw [rk z hz']; exact hs.2.1 z hz'
  · have e' : M1 180 (170 * 11 + 144 + z) = M1 180 (170 * 11 + 144 + w) := e
    rw [rk z hz', rk w hw] at e'
    exact hs.2.2 z w hz' hw e'
  · exact gkeyOf_congr gi szi (fun k hk => lti k (by omega)) (fun z hz' => rk z hz')
  · have g1 := (hs.1 j hj).1
    have := gkeyOf_congr (rk := fun x => M 180 (144 + x)) (hs.1 j hj) (sz j hj hji) (fun k hk => lt j k hj (by omega) hji) (fun z hz' => rk z hz')
    unfold mK
    rw [Nat.mul_zero]
    simp only [Nat.zero_add]
    exact this
  · unfold mf
    rw [szi, if_neg (by omega)]
    exact lti 0 (by omega)
theorem sq_hasAll (hM : KM S) {n : Nat} (hT : Tn M 8 0 n) {M1 : Mem} {i j k ρ m code : Nat} (hi : i < n) (hj : j < n) (hk : k < n) (hρ : ρ < 8) (hm : 1 ≤ m ∧ m ≤ 3) (h : Tp M M1 i m code m) (h1 : sP M i ρ j k (cl M m code 0) (cK M m code) → Q (S, M1, some (.inl 1))) (h0 : ¬ sP M i ρ j k (cl M m code 0) (cK M m code) → Q (S, M1, some (.inl 0))) : Ca 193 [.inr (.inr 173), .inl (i : Int), .inl (ρ : Int), .inl (j : Int), .inl (k : Int)] S M1 Q := by
  have hn8 := hT.1.1
  obtain ⟨b1, b2, b3, b4⟩ := Tp_mN hT hi hm h
  have hz := h.1.1
  have hx := cl_in hT m code 0
  obtain ⟨x, hxe⟩ : ∃ x, x = cl M m code 0 := ⟨_, rfl⟩
  rw [← hxe] at h1 h0 b4 hx
  have e174 := hz.1 174 (by decide) (by decide)
  have e179 := hz.1 179 (by decide) (by decide)
  have h05 : 0 ≤ M 174 5 := hT.2.2.2.2.2.1.2.1
  unfold sP at h1 h0
  obtain ⟨A, hA⟩ : ∃ A : Prop, A = (ρ.testBit 0 = true → (M 174 5).toNat.testBit x = true) := ⟨_, rfl⟩
  obtain ⟨B, hB⟩ : ∃ B : Prop, B = (ρ.testBit 1 = true → i ≠ j ∧ (cK M m code < mK M 0 j ∨ (cK M m code = mK M 0 j ∧ i < j))) := ⟨_, rfl⟩
  obtain ⟨C, hC⟩ : ∃ C : Prop, C = (ρ.testBit 2 = true → mSuit M (x : Int) (mf M 0 k) (M 174 2)) := ⟨_, rfl⟩
  rw [← hA, ← hB, ← hC] at h1 h0
  have last : ∀ c : Int, (c = 0 ∨ c = 1) → (c ≠ 0 ↔ A ∧ B ∧ C) → En 193 85 [some (.inr (.inr 173)), some (.inl (i : Int)), some (.inl (ρ : Int)), some (.inl (j : Int)), some (.inl (k : Int)), some (.inl (x : Int)), some (.inl c), none] [] S M1 Q := fun c c01 qc => by
    apply r_X9_hasAll_85 hM
    refine ⟨c01, ?_⟩
    rcases c01 with rfl | rfl
    · exact h0 (fun w => absurd rfl (qc.mpr w))
    · exact h1 (qc.mp (by decide))
  have near : ∀ b : Int, (b = 0 ∨ b = 1) → (b ≠ 0 ↔ A ∧ B) → En 193 36 [some (.inr (.inr 173)), some (.inl (i : Int)), some (.inl (ρ : Int)), some (.inl (j : Int)), some (.inl (k : Int)), some (.inl (x : Int)), some (.inl b), none] [] S M1 Q := fun b b01 qb => by
    apply r_X9_hasAll_36 hM
    refine ⟨_, rb2 ρ hρ, ?_⟩
    by_cases hb : ρ.testBit 2 = true
    · rw [if_pos hb]
      have emf : mf M1 0 k = mf M 0 k := by unfold mf; rw [hz.2 _ (by omega), hz.2 _ (by omega)]
      have hf := Tn_fin hT hk
      refine ⟨fun z => absurd z (by decide), fun _ => sq_first (s := 0) hM (by decide) (by omega) ⟨_, _, rfl, ?_⟩⟩
      rw [emf]
      have yes : C → b ≠ 0 → En 193 81 [some (.inr (.inr 173)), some (.inl (i : Int)), some (.inl (ρ : Int)), some (.inl (j : Int)), some (.inl (k : Int)), some (.inl (x : Int)), some (.inl b), some (.inl (mf M 0 k))] [] S M1 Q := fun c qb0 => by
        apply r_X9_hasAll_81 hM
        apply r_X9_hasAll_84 hM
        exact last 1 (Or.inr rfl) ⟨fun _ => ⟨(qb.mp qb0).1, (qb.mp qb0).2, c⟩, fun _ => by decide⟩
      have no : ¬ (A ∧ B ∧ C) → En 193 83 [some (.inr (.inr 173)), some (.inl (i : Int)), some (.inl (ρ : Int)), some (.inl (j : Int)), some (.inl (k : Int)), some (.inl (x : Int)), some (.inl b), some (.inl (mf M 0 k))] [] S M1 Q := fun q => by
        apply r_X9_hasAll_83 hM
        apply r_X9_hasAll_84 hM
        exact last 0 (Or.inl rfl) ⟨fun w => absurd rfl w, fun w => absurd w q⟩
      refine ⟨fun z => no (fun w => qb.mpr ⟨w.1, w.2.1⟩ z), fun qb0 => ⟨fun z => yes (by rw [hC]; exact fun _ => Or.inr (Or.inl z)) qb0, fun z => ?_⟩⟩
      obtain ⟨y, hy⟩ : ∃ y : Nat, mf M 0 k = (y : Int) := ⟨(mf M 0 k).toNat, by omega⟩
      rw [hy] at hC hf yes no z ⊢
      have hs := (Tn_sok hT).2
      have r1 : 0 ≤ M 180 (144 + x) ∧ M 180 (144 + x) < 26 := hs.1 x hx
      have r2 : 0 ≤ M 180 (144 + y) ∧ M 180 (144 + y) < 26 := hs.1 y (by omega)
      have hW : 0 ≤ M 174 2 ∧ M 174 2 ≤ 25 := hT.2.2.2.1.2
      have e1 : ((144 : Int) + x).toNat = 144 + x := by omega
      have e2 : ((144 : Int) + y).toNat = 144 + y := by omega
      have e3 : M1 174 (2 : Int).toNat = M 174 2 := by rw [e174]; rfl
      rw [e1, e2, e3, hz.2 (144 + x) (by omega), hz.2 (144 + y) (by omega)]
      refine ⟨by unfold inR; omega, by omega, by unfold inR; omega, by omega, by unfold inR; omega, by decide, by unfold inR; omega, by decide, sq_in hM ⟨_, _, rfl, ?_⟩⟩
      unfold mSuit at hC
      rw [Int.toNat_natCast, Int.toNat_natCast] at hC
      by_cases hd : -(M 174 2) ≤ M 180 (144 + x) - M 180 (144 + y) ∧ M 180 (144 + x) - M 180 (144 + y) ≤ M 174 2
      · rw [if_pos hd]
        refine ⟨fun w => absurd w (by decide), fun _ => sq_isQuarrel hM (by rw [e174]; exact hT.2.2.2.2.2.2.2.1) (fun w => ⟨_, _, rfl, fun _ => no (fun v => ?_), fun v => absurd v (by decide)⟩) (fun w => ⟨_, _, rfl, fun v => absurd rfl v, fun _ => yes ?_ qb0⟩)⟩
        · rw [e174, e179] at w
          have := v.2.2
          rw [hC] at this
          rcases this hb with v | v | v
          · omega
          · omega
          · exact v.2 w
        · rw [e174, e179] at w
          rw [hC]
          exact fun _ => Or.inr (Or.inr ⟨hd, w⟩)
      · rw [if_neg hd]
        refine ⟨fun _ => no (fun v => ?_), fun w => absurd rfl w⟩
        have := v.2.2
        rw [hC] at this
        rcases this hb with v | v | v
        · omega
        · omega
        · exact hd v.1
    · rw [if_neg hb]
      have c : C := by rw [hC]; exact fun w => absurd w hb
      exact ⟨fun _ => last b b01 ⟨fun w => ⟨(qb.mp w).1, (qb.mp w).2, c⟩, fun w => qb.mpr ⟨w.1, w.2.1⟩⟩, fun w => absurd rfl w⟩
  have ahead : ∀ a : Int, (a = 0 ∨ a = 1) → (a ≠ 0 ↔ A) → En 193 16 [some (.inr (.inr 173)), some (.inl (i : Int)), some (.inl (ρ : Int)), some (.inl (j : Int)), some (.inl (k : Int)), some (.inl (x : Int)), none, none] [.inl a] S M1 Q := fun a a01 qa => by
    apply r_X9_hasAll_16 hM
    refine ⟨_, rb1 ρ hρ, ?_⟩
    by_cases hb : ρ.testBit 1 = true
    · rw [if_pos hb]
      have no : ¬ (A ∧ B) → En 193 34 [some (.inr (.inr 173)), some (.inl (i : Int)), some (.inl (ρ : Int)), some (.inl (j : Int)), some (.inl (k : Int)), some (.inl (x : Int)), some (.inl a), none] [] S M1 Q := fun q => by
        apply r_X9_hasAll_34 hM
        apply r_X9_hasAll_35 hM
        exact near 0 (Or.inl rfl) ⟨fun w => absurd rfl w, fun w => absurd w q⟩
      refine ⟨fun z => absurd z (by decide), fun _ => ⟨fun z => no (fun w => qa.mpr w.1 z), fun qa0 => ⟨fun z => no (fun w => ?_), fun z => ?_⟩⟩⟩
      · have := w.2
        rw [hB] at this
        exact (this hb).1 (by omega)
      · refine sq_isAhead hM (s := 11) (by decide) hn8 b1 hi hj ⟨_, _, rfl, ?_⟩
        rw [b2, b3 j hj (by omega)]
        by_cases hc : cK M m code < mK M 0 j ∨ (cK M m code = mK M 0 j ∧ i < j)
        · rw [if_pos hc]
          refine ⟨fun w => absurd w (by decide), fun _ => ?_⟩
          apply r_X9_hasAll_35 hM
          exact near 1 (Or.inr rfl) ⟨fun _ => ⟨qa.mp qa0, by rw [hB]; exact fun _ => ⟨by omega, hc⟩⟩, fun _ => by decide⟩
        · rw [if_neg hc]
          refine ⟨fun _ => no (fun w => ?_), fun w => absurd rfl w⟩
          have := w.2
          rw [hB] at this
          exact hc (this hb).2
    · rw [if_neg hb]
      have b : B := by rw [hB]; exact fun w => absurd w hb
      exact ⟨fun _ => near a a01 ⟨fun w => ⟨qa.mp w, b⟩, fun w => qa.mpr w.1⟩, fun w => absurd rfl w⟩
  apply r_X9_hasAll_0 hM
  refine sq_first (s := 11) hM (by decide) (by omega) ⟨_, _, rfl, _, rb0 ρ hρ, ?_⟩
  rw [b4]
  by_cases hb : ρ.testBit 0 = true
  · rw [if_pos hb]
    refine ⟨fun z => absurd z (by decide), fun _ => sq_isVowel hM (by rw [e174]; exact h05) hx ⟨_, _, rfl, ?_⟩⟩
    rw [e174]
    by_cases hc : (M 174 5).toNat.testBit x = true
    · rw [if_pos hc]
      refine ⟨fun w => absurd w (by decide), fun _ => ?_⟩
      apply r_X9_hasAll_13 hM
      exact ahead 1 (Or.inr rfl) ⟨fun _ => by rw [hA]; exact fun _ => hc, fun _ => by decide⟩
    · rw [if_neg hc]
      exact ⟨fun _ => ahead 0 (Or.inl rfl) ⟨fun w => absurd rfl w, fun w => by rw [hA] at w; exact absurd (w hb) hc⟩, fun w => absurd rfl w⟩
  · rw [if_neg hb]
    refine ⟨fun _ => ?_, fun z => absurd rfl z⟩
    apply r_X9_hasAll_13 hM
    exact ahead 1 (Or.inr rfl) ⟨fun _ => by rw [hA]; exact fun w => absurd w hb, fun _ => by decide⟩
end Short
