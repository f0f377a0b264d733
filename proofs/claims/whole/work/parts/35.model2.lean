/-! THE REFERENCE: who comes ahead, slots copied, letters by rank -/
section Mod2
variable {S : Shp} {M : Mem} {Q : Res → Prop}
theorem sq_isAhead (hM : KM S) {s n i j : Nat} (hs : s < 12) (hn8 : n ≤ 8) (hN : mN M s n) (hi : i < n) (hj : j < n) (h : Q (S, M, some (.inl (if mK M s i < mK M s j ∨ (mK M s i = mK M s j ∧ i < j) then 1 else 0)))) : Ca 162 [.inr (.inr 173), .inl (s : Int), .inl (i : Int), .inl (j : Int)] S M Q := by
  have ha := hN.1 i hi
  have hb := hN.1 j hj
  have hg := gahead_iff (i := i) (j := j) ha hb hN.2
  have h1 : gahead (M 180 (170 * s + i)) (M 180 (170 * s + j)) (fun k => M 180 (170 * s + 8 + 6 * i + k)) (fun k => M 180 (170 * s + 8 + 6 * j + k)) (fun x => M 180 (170 * s + 144 + x)) i j → Q (S, M, some (.inl 1)) := fun q => by
    have this : mK M s i < mK M s j ∨ (mK M s i = mK M s j ∧ i < j) := hg.mp q
    rw [if_pos this] at h
    exact h
  have h0 : ¬ gahead (M 180 (170 * s + i)) (M 180 (170 * s + j)) (fun k => M 180 (170 * s + 8 + 6 * i + k)) (fun k => M 180 (170 * s + 8 + 6 * j + k)) (fun x => M 180 (170 * s + 144 + x)) i j → Q (S, M, some (.inl 0)) := fun q => by
    have : ¬ (mK M s i < mK M s j ∨ (mK M s i = mK M s j ∧ i < j)) := fun z => q (hg.mpr z)
    rw [if_neg this] at h
    exact h
  unfold gahead at h1 h0
  apply r_X9_isAhead_0 hM
  have e1 : ((170 : Int) * s + i).toNat = 170 * s + i := by omega
  have e2 : ((170 : Int) * s + j).toNat = 170 * s + j := by omega
  rw [e1, e2]
  simp only [inR]
  have a0 := ha.1
  have b0 := hb.1
  refine ⟨by omega, by omega, by omega, by omega, by omega, by omega, fun q => ?_, fun q => ⟨fun q2 => ?_, fun q2 => ?_⟩⟩
  · rw [if_pos (Or.inl q)] at h1 h0
    exact ⟨fun z => by omega, fun _ => ⟨fun z => h0 (by omega), fun z => ⟨fun y => h0 (by omega), fun y => h1 (by omega)⟩⟩⟩
  · rw [if_neg (by omega)] at h1 h0
    exact isAhead_loop hM hs (by omega) (by omega) ha hb 6 (by decide) h1 h0 none none rfl rfl
  · rw [if_pos (Or.inr q2)] at h1 h0
    exact ⟨fun z => h1 (by omega), fun z => by omega⟩
theorem aheadOf_loop (hM : KM S) {s n : Nat} (hs : s < 12) (hn : M 174 0 = n) (hn8 : n ≤ 8) (hN : mN M s n) {i : Nat} (hi : i < n) (h : Q (S, M, some (.inl (lcnt (mK M s) i (mK M s i) n)))) : ∀ d j, j + d = n → En 163 4 [some (.inr (.inr 173)), some (.inl (s : Int)), some (.inl (i : Int)), some (.inl (lcnt (mK M s) i (mK M s i) j)), some (.inl (j : Int))] [] S M Q := by
  have hn0 : M 174 (0 : Int).toNat = n := hn
  intro d
  induction d with
  | zero =>
    intro j hj
    have e : j = n := by omega
    subst e
    apply r_X9_aheadOf_4 hM
    rw [hn0]
    exact ⟨by decide, fun _ => h, fun q => by omega⟩
  | succ d ih =>
    intro j hj
    have hs2 := lcnt_in (K := mK M s) (i := i) (key := mK M s i) j
    have ej : ((j : Int) + 1) = ((j + 1 : Nat) : Int) := by omega
    have ih := ih (j + 1) (by omega)
    rw [lcnt] at ih
    apply r_X9_aheadOf_4 hM
    rw [hn0]
    simp only [inR]
    refine ⟨by decide, fun q => by omega, fun _ => ⟨fun q => ⟨by omega, by omega, ?_⟩, fun q => sq_isAhead hM hs hn8 hN (by omega) hi ⟨_, _, rfl, ?_⟩⟩⟩
    · have hb : ¬ lbefD (mK M s) i (mK M s i) j = true := fun z => (lbefD_iff.mp z).1 (by omega)
      rw [if_neg hb] at ih
      rw [ej]; exact ih
    · by_cases hb : lbefD (mK M s) i (mK M s i) j = true
      · rw [if_pos hb] at ih
        have hb2 := lbefD_iff.mp hb
        rw [if_pos (by omega)]
        exact ⟨fun z => absurd z (by decide), fun _ => ⟨by omega, by omega, by rw [ej]; exact ih⟩⟩
      · rw [if_neg hb] at ih
        have hb2 : ¬ (mK M s j < mK M s i ∨ (mK M s j = mK M s i ∧ j < i)) := fun z => hb (lbefD_iff.mpr ⟨by omega, by omega⟩)
        rw [if_neg hb2]
        exact ⟨fun _ => ⟨by omega, by omega, by rw [ej]; exact ih⟩, fun z => absurd rfl z⟩
theorem sq_aheadOf (hM : KM S) {s n : Nat} (hs : s < 12) (hn : M 174 0 = n) (hn8 : n ≤ 8) (hN : mN M s n) {i : Nat} (hi : i < n) (h : Q (S, M, some (.inl (lcnt (mK M s) i (mK M s i) n)))) : Ca 163 [.inr (.inr 173), .inl (s : Int), .inl (i : Int)] S M Q := by
  apply r_X9_aheadOf_0 hM
  exact aheadOf_loop hM hs hn hn8 hN hi h n 0 (by omega)
/-- slot a has been copied into slot b -/
def mCp (M M' : Mem) (a b : Nat) : Prop := (∀ q, q ≠ 180 → M' q = M q) ∧ (∀ k, k < 170 → M' 180 (170 * b + k) = M 180 (170 * a + k)) ∧ ∀ k, (k < 170 * b ∨ 170 * b + 170 ≤ k) → M' 180 k = M 180 k
theorem copies_loop (hM : KM S) {a b : Nat} (ha : a < 12) (hb : b < 12) (hab : a ≠ b) (h : ∀ M', mCp M M' a b → Q (S, M', none)) : ∀ d k (M1 : Mem), k + d = 170 → (∀ q, q ≠ 180 → M1 q = M q) → (∀ x, x < k → M1 180 (170 * b + x) = M 180 (170 * a + x)) → (∀ x, (x < 170 * b ∨ 170 * b + 170 ≤ x) → M1 180 x = M 180 x) → En 170 2 [some (.inr (.inr 173)), some (.inl (a : Int)), some (.inl (b : Int)), some (.inl (k : Int))] [] S M1 Q := by
  intro d
  induction d with
  | zero =>
    intro k M1 hk h1 h2 h3
    apply r_X9_copies_2 hM
    exact ⟨fun _ => h M1 ⟨h1, fun x hx => h2 x (by omega), h3⟩, fun q => by omega⟩
  | succ d ih =>
    intro k M1 hk h1 h2 h3
    apply r_X9_copies_2 hM
    have e1 : ((170 : Int) * b + k).toNat = 170 * b + k := by omega
    have e2 : ((170 : Int) * a + k).toNat = 170 * a + k := by omega
    rw [e1, e2, show ((k : Int) + 1) = ((k + 1 : Nat) : Int) by omega]
    simp only [inR]
    refine ⟨fun q => by omega, fun _ => ⟨by omega, by omega, by omega, by omega, by omega, by omega, by omega, ih (k + 1) _ (by omega) (fun q hq => by rw [up2_ne _ _ _ _ q hq]; exact h1 q hq) (fun x hx => ?_) (fun x hx => ?_)⟩⟩
    · rw [up2_at]
      by_cases hxk : x = k
      · rw [if_pos (by omega), hxk]
        exact h3 _ (by omega)
      · rw [if_neg (by omega)]; exact h2 x (by omega)
    · rw [up2_at, if_neg (by omega)]; exact h3 x hx
theorem sq_copies (hM : KM S) {a b : Nat} (ha : a < 12) (hb : b < 12) (hab : a ≠ b) (h : ∀ M', mCp M M' a b → Q (S, M', none)) : Ca 170 [.inr (.inr 173), .inl (a : Int), .inl (b : Int)] S M Q := by
  apply r_X9_copies_0 hM
  exact copies_loop hM ha hb hab h 170 0 M rfl (fun _ _ => rfl) (fun x hx => absurd hx (by omega)) (fun _ _ => rfl)
theorem letterOf_loop (hM : KM S) {s x : Nat} {r : Int} (hs : s < 12) (hx : x < 26) (hxr : M 180 (170 * s + 144 + x) = r) (hinj : ∀ y, y < x → M 180 (170 * s + 144 + y) ≠ r) (h : Q (S, M, some (.inl (x : Int)))) : ∀ d y, y + d = x → En 167 2 [some (.inr (.inr 173)), some (.inl (s : Int)), some (.inl r), some (.inl (y : Int))] [] S M Q := by
  intro d
  induction d with
  | zero =>
    intro y hy
    have e : y = x := by omega
    subst e
    apply r_X9_letterOf_2 hM
    have e1 : (((170 : Int) * s + 144) + y).toNat = 170 * s + 144 + y := by omega
    rw [e1]
    simp only [inR]
    exact ⟨by omega, by omega, by omega, by omega, fun _ => h, fun q => absurd hxr q⟩
  | succ d ih =>
    intro y hy
    apply r_X9_letterOf_2 hM
    have e1 : (((170 : Int) * s + 144) + y).toNat = 170 * s + 144 + y := by omega
    rw [e1, show ((y : Int) + 1) = ((y + 1 : Nat) : Int) by omega]
    simp only [inR]
    exact ⟨by omega, by omega, by omega, by omega, fun q => absurd q (hinj y (by omega)), fun _ => ⟨by omega, ih (y + 1) (by omega)⟩⟩
theorem sq_letterOf (hM : KM S) {s x : Nat} {r : Int} (hs : s < 12) (hx : x < 26) (hg : gal (fun x => M 180 (170 * s + 144 + x))) (hxr : M 180 (170 * s + 144 + x) = r) (h : Q (S, M, some (.inl (x : Int)))) : Ca 167 [.inr (.inr 173), .inl (s : Int), .inl r] S M Q := by
  apply r_X9_letterOf_0 hM
  refine letterOf_loop hM hs hx hxr (fun y hy q => ?_) h x 0 (by omega)
  have := hg.2 y x (by omega) hx (by dsimp only; rw [q, hxr])
  omega
theorem sq_isOffice (hM : KM S) {s i : Nat} (hs : s < 12) (hi : i < 8) (h0 : 0 ≤ M 174 5) (hf : mf M s i = -4 ∨ (0 ≤ mf M s i ∧ mf M s i < 26)) (h : Q (S, M, some (.inl (if mf M s i < 0 ∨ (M 174 5).toNat.testBit (mf M s i).toNat = true then 1 else 0)))) : Ca 161 [.inr (.inr 173), .inl (s : Int), .inl (i : Int)] S M Q := by
  apply r_X9_isOffice_0 hM
  refine sq_first hM hs hi ⟨_, _, rfl, fun q => ?_, fun q => sq_first hM hs hi ⟨_, _, rfl, ?_⟩⟩
  · rw [if_pos (Or.inl q)] at h; exact h
  · have e : mf M s i = (((mf M s i).toNat : Nat) : Int) := by omega
    rw [e]
    refine sq_isVowel hM h0 (by omega) ⟨_, _, rfl, fun q2 => ?_, fun q2 => ?_⟩
    · by_cases hb : (M 174 5).toNat.testBit (mf M s i).toNat = true
      · rw [if_pos hb] at q2; cases q2
      · rw [if_neg (by rintro (z | z); omega; exact hb z)] at h; exact h
    · by_cases hb : (M 174 5).toNat.testBit (mf M s i).toNat = true
      · rw [if_pos (Or.inr hb)] at h; exact h
      · rw [if_neg hb] at q2; exact absurd rfl q2
end Mod2
