/-! THE REFERENCE's MORNING: one behind the other; each gets what the line says -/
def cntB (p : Nat → Bool) : Nat → Int
  | 0 => 0
  | j + 1 => cntB p j + (if p j then 1 else 0)
def sumB (p : Nat → Bool) (W : Nat → Int) : Nat → Int
  | 0 => 0
  | j + 1 => sumB p W j + (if p j then W j else 0)
theorem lcnt_B (K : Nat → Int) (i : Nat) (key : Int) : ∀ m, lcnt K i key m = cntB (lbefD K i key) m := by
  intro m
  induction m with
  | zero => rfl
  | succ m ih => rw [lcnt, cntB, ih]
theorem lsum_B (K W : Nat → Int) (i : Nat) (key : Int) : ∀ m, lsum K W i key m = sumB (lbefD K i key) W m := by
  intro m
  induction m with
  | zero => rfl
  | succ m ih => rw [lsum, sumB, ih]
theorem cntB_le {p q : Nat → Bool} : ∀ m, (∀ k, k < m → p k = true → q k = true) → cntB p m ≤ cntB q m := by
  intro m
  induction m with
  | zero => intro _; exact Int.le_refl 0
  | succ m ih =>
    intro h
    have h1 := ih (fun k hk => h k (by omega))
    have h2 := h m (by omega)
    rw [cntB, cntB]
    by_cases hp : p m = true
    · rw [if_pos hp, if_pos (h2 hp)]; omega
    · rw [if_neg hp]; split <;> omega
theorem cntB_lt {p q : Nat → Bool} {i : Nat} (hp : p i = false) (hq : q i = true) : ∀ m, i < m → (∀ k, k < m → p k = true → q k = true) → cntB p m < cntB q m := by
  intro m
  induction m with
  | zero => intro hi; omega
  | succ m ih =>
    intro hi h
    have h2 := h m (by omega)
    rw [cntB, cntB]
    by_cases him : i = m
    · subst him
      have h1 := cntB_le (p := p) (q := q) i (fun k hk => h k (by omega))
      rw [if_neg (by rw [hp]; decide), if_pos hq]; omega
    · have h1 := ih (by omega) (fun k hk => h k (by omega))
      by_cases hpm : p m = true
      · rw [if_pos hpm, if_pos (h2 hpm)]; omega
      · rw [if_neg hpm]; split <;> omega
theorem cntB_all : ∀ m : Nat, cntB (fun _ => true) m = m := by
  intro m
  induction m with
  | zero => rfl
  | succ m ih => rw [cntB, ih, if_pos rfl]; omega
theorem sumB_congr {p q : Nat → Bool} {W V : Nat → Int} : ∀ m, (∀ k, k < m → p k = q k ∧ W k = V k) → sumB p W m = sumB q V m := by
  intro m
  induction m with
  | zero => intro _; rfl
  | succ m ih =>
    intro h
    rw [sumB, sumB, ih (fun k hk => h k (by omega)), (h m (by omega)).1, (h m (by omega)).2]
/-- adding one more to those who are counted -/
theorem sumB_one {p q : Nat → Bool} {W : Nat → Int} {i : Nat} (hp : p i = false) (hq : q i = true) : ∀ m, i < m → (∀ k, k < m → k ≠ i → p k = q k) → sumB q W m = sumB p W m + W i := by
  intro m
  induction m with
  | zero => intro hi; omega
  | succ m ih =>
    intro hi h
    rw [sumB, sumB]
    by_cases him : i = m
    · subst him
      have h1 := sumB_congr (p := p) (q := q) (W := W) (V := W) i (fun k hk => ⟨h k (by omega) (by omega), rfl⟩)
      rw [h1, if_pos hq, if_neg (by rw [hp]; decide)]; omega
    · have h1 := ih (by omega) (fun k hk => h k (by omega))
      rw [h1, h m (by omega) (fun z => him z.symm)]; omega
/-- the place of one in the line -/
def lpos (K : Nat → Int) (n i : Nat) : Int := lcnt K i (K i) n
theorem lbef_self {K : Nat → Int} {i j : Nat} : lbefD K i (K i) j = true ↔ (K j < K i ∨ (K j = K i ∧ j < i)) := by
  rw [lbefD_iff]
  constructor
  · rintro ⟨h1, h2⟩; omega
  · intro h; exact ⟨fun q => by subst q; omega, by omega⟩
theorem lpos_lt {K : Nat → Int} {n i j : Nat} (hj : j < n) (h : K j < K i ∨ (K j = K i ∧ j < i)) : lpos K n j < lpos K n i := by
  unfold lpos
  rw [lcnt_B, lcnt_B]
  refine cntB_lt (i := j) ?_ (lbef_self.mpr h) n hj (fun k _ hk => ?_)
  · rw [Bool.eq_false_iff]; exact fun z => by have := lbef_self.mp z; omega
  · have := lbef_self.mp hk
    exact lbef_self.mpr (by omega)
theorem lpos_iff {K : Nat → Int} {n i j : Nat} (hi : i < n) (hj : j < n) : lpos K n j < lpos K n i ↔ (K j < K i ∨ (K j = K i ∧ j < i)) := by
  refine ⟨fun h => ?_, lpos_lt hj⟩
  by_cases hc : K j < K i ∨ (K j = K i ∧ j < i)
  · exact hc
  · by_cases he : i = j
    · subst he; omega
    · have := lpos_lt (K := K) (n := n) (i := j) (j := i) hi (by omega); omega
theorem lpos_inj {K : Nat → Int} {n i j : Nat} (hi : i < n) (hj : j < n) (h : lpos K n i = lpos K n j) : i = j := by
  by_cases he : i = j
  · exact he
  · rcases (show (K j < K i ∨ (K j = K i ∧ j < i)) ∨ (K i < K j ∨ (K i = K j ∧ i < j)) by omega) with q | q
    · have := lpos_lt (n := n) hj q; omega
    · have := lpos_lt (n := n) hi q; omega
theorem lpos_in {K : Nat → Int} {n i : Nat} (hi : i < n) : 0 ≤ lpos K n i ∧ lpos K n i < n := by
  unfold lpos
  refine ⟨(lcnt_in n).1, ?_⟩
  rw [lcnt_B, ← cntB_all n]
  refine cntB_lt (i := i) ?_ rfl n hi (fun _ _ _ => rfl)
  rw [Bool.eq_false_iff]; exact fun z => by have := lbef_self.mp z; omega
/-- who has been served when place p's search has come to i -/
def mpr (K : Nat → Int) (n : Nat) (p i : Nat) (j : Nat) : Bool := decide (lpos K n j < p) || (decide (lpos K n j = p) && decide (j < i))
theorem mpr_iff {K : Nat → Int} {n p i j : Nat} : mpr K n p i j = true ↔ (lpos K n j < p ∨ (lpos K n j = p ∧ j < i)) := by
  unfold mpr
  simp only [Bool.or_eq_true, Bool.and_eq_true, decide_eq_true_eq]
theorem mpr_eq {K : Nat → Int} {n p i p' i' j : Nat} (h : (lpos K n j < p ∨ (lpos K n j = p ∧ j < i)) ↔ (lpos K n j < p' ∨ (lpos K n j = p' ∧ j < i'))) : mpr K n p i j = mpr K n p' i' j := by
  rw [Bool.eq_iff_iff, mpr_iff, mpr_iff]; exact h
def mleft (goods A : Int) : Int := if A ≤ goods then goods - A else 0
theorem mleft_get {w goods A : Int} (hw : 0 ≤ w) (hA : 0 ≤ A) (hg : 0 ≤ goods) : (if w < mleft goods A then w else mleft goods A) = lget w (goods - A) ∧ mleft goods A - (if w < mleft goods A then w else mleft goods A) = mleft goods (A + w) := by
  unfold mleft lget
  grind
theorem sumB_in {p : Nat → Bool} {W : Nat → Int} : ∀ {m : Nat}, (∀ j, j < m → 0 ≤ W j ∧ W j ≤ 9) → 0 ≤ sumB p W m ∧ sumB p W m ≤ 9 * m := by
  intro m
  induction m with
  | zero => intro _; exact ⟨Int.le_refl 0, Int.le_refl 0⟩
  | succ m ih =>
    intro h
    have h1 := ih (fun j hj => h j (by omega))
    have h2 := h m (by omega)
    rw [sumB]
    split <;> omega
theorem sumB_01 {p : Nat → Bool} {V : Nat → Int} : ∀ {m : Nat}, (∀ j, j < m → 0 ≤ V j ∧ V j ≤ 1) → 0 ≤ sumB p V m ∧ sumB p V m ≤ m := by
  intro m
  induction m with
  | zero => intro _; exact ⟨Int.le_refl 0, Int.le_refl 0⟩
  | succ m ih =>
    intro h
    have h1 := ih (fun j hj => h j (by omega))
    have h2 := h m (by omega)
    rw [sumB]
    split <;> omega
/-- what j gets, and whether it is all he wants -/
def mget (K W : Nat → Int) (goods : Int) (n j : Nat) : Int := lget (W j) (goods - lsum K W j (K j) n)
def mful (K W : Nat → Int) (goods : Int) (n j : Nat) : Int := if mget K W goods n j = W j then 1 else 0
theorem lfull_B (K W : Nat → Int) (goods : Int) (n : Nat) : ∀ m, lfull K W goods n m = sumB (fun _ => true) (mful K W goods n) m := by
  intro m
  induction m with
  | zero => rfl
  | succ m ih => rw [lfull, sumB, ih, if_pos rfl]; rfl
/-- the sum of those before one is the sum of those served before him -/
theorem mpr_sum {K W : Nat → Int} {n p i : Nat} (hi : i < n) (hp : lpos K n i = p) : sumB (mpr K n p i) W n = lsum K W i (K i) n := by
  rw [lsum_B]
  refine sumB_congr n (fun j hj => ⟨?_, rfl⟩)
  rw [Bool.eq_iff_iff, mpr_iff, lbef_self, ← lpos_iff hi hj]
  constructor
  · rintro (q | ⟨q, q2⟩)
    · omega
    · have := lpos_inj (K := K) (n := n) hi hj (by omega); omega
  · intro q; exact Or.inl (by omega)
section Morn
variable {S : Shp} {M : Mem} {Q : Res → Prop}
theorem mK_same {M M1 : Mem} (h : M1 180 = M 180) (s : Nat) : mK M1 s = mK M s := by
  funext i
  unfold mK
  rw [h]
theorem mN_same {M M1 : Mem} (h : M1 180 = M 180) {s n : Nat} (hN : mN M s n) : mN M1 s n := by
  unfold mN
  rw [h]
  exact hN
/-- what the reference's morning must find -/
def mBnd (M : Mem) (n : Nat) : Prop := M 174 0 = n ∧ n ≤ 8 ∧ (0 ≤ M 174 1 ∧ M 174 1 ≤ 99) ∧ ∀ i, i < n → 0 ≤ M 175 i ∧ M 175 i ≤ 9
/-- the morning's state while it goes on -/
def mInv (M M1 : Mem) (K : Nat → Int) (n p i : Nat) (left full : Int) : Prop := (∀ q, q ≠ 183 → M1 q = M q) ∧ left = mleft (M 174 1) (sumB (mpr K n p i) (M 175) n) ∧ full = sumB (mpr K n p i) (mful K (M 175) (M 174 1) n) n ∧ ∀ j, j < n → mpr K n p i j = true → M1 183 j = mget K (M 175) (M 174 1) n j
theorem mInv_next {M M1 : Mem} {K : Nat → Int} {n p i p' i' : Nat} {left full : Int} (h : mInv M M1 K n p i left full) (he : ∀ j, j < n → ((lpos K n j < p ∨ (lpos K n j = p ∧ j < i)) ↔ (lpos K n j < p' ∨ (lpos K n j = p' ∧ j < i')))) : mInv M M1 K n p' i' left full := by
  obtain ⟨h1, h2, h3, h4⟩ := h
  have e : ∀ V : Nat → Int, sumB (mpr K n p i) V n = sumB (mpr K n p' i') V n := fun V => sumB_congr n (fun j hj => ⟨mpr_eq (he j hj), rfl⟩)
  exact ⟨h1, by rw [h2, e], by rw [h3, e], fun j hj hp => h4 j hj (by rw [mpr_eq (he j hj)]; exact hp)⟩
theorem morning_in (hM : KM S) {s n : Nat} (hs : s < 12) (hB : mBnd M n) (hN : mN M s n) {p : Nat} (hp : p < n) (hk : ∀ M1 left full, mInv M M1 (mK M s) n (p + 1) 0 left full → En 164 9 [some (.inr (.inr 173)), some (.inl (s : Int)), some (.inl left), some (.inl full), some (.inl ((p + 1 : Nat) : Int)), none] [] S M1 Q) : ∀ d i (M1 : Mem) (left full : Int), i + d = n → mInv M M1 (mK M s) n p i left full → En 164 17 [some (.inr (.inr 173)), some (.inl (s : Int)), some (.inl left), some (.inl full), some (.inl (p : Int)), some (.inl (i : Int))] [] S M1 Q := by
  obtain ⟨hn, hn8, hg, hw⟩ := hB
  intro d
  induction d with
  | zero =>
    intro i M1 left full hi hI
    have e : i = n := by omega
    subst e
    apply r_X9_morning_17 hM
    have e0 : M1 174 (0 : Int).toNat = i := by rw [hI.1 174 (by decide)]; exact hn
    rw [e0, show ((p : Int) + 1) = ((p + 1 : Nat) : Int) by omega]
    exact ⟨by decide, fun _ => ⟨⟨by omega, by omega⟩, hk M1 left full (mInv_next hI (fun j hj => by omega))⟩, fun q => by omega⟩
  | succ d ih =>
    intro i M1 left full hi hI
    have e180 : M1 180 = M 180 := hI.1 180 (by decide)
    have e0 : M1 174 (0 : Int).toNat = n := by rw [hI.1 174 (by decide)]; exact hn
    have ei : ((i : Int) + 1) = ((i + 1 : Nat) : Int) := by omega
    have hpos := lpos_in (K := mK M s) (n := n) (i := i) (by omega)
    obtain ⟨h1, h2, h3, h4⟩ := id hI
    have hwi := hw i (by omega)
    have hsum := sumB_in (p := mpr (mK M s) n p i) (W := M 175) (m := n) hw
    have hful := sumB_01 (p := mpr (mK M s) n p i) (V := mful (mK M s) (M 175) (M 174 1) n) (m := n) (fun j _ => by unfold mful; split <;> decide)
    have e175 : M1 175 = M 175 := h1 175 (by decide)
    apply r_X9_morning_17 hM
    rw [e0]
    refine ⟨by decide, fun q => by omega, fun _ => sq_aheadOf hM hs (by rw [h1 174 (by decide)]; exact hn) hn8 (mN_same e180 hN) (by omega) ⟨_, _, rfl, ?_⟩⟩
    rw [mK_same e180 s, Int.toNat_natCast, e175, ei]
    have ep : lcnt (mK M s) i (mK M s i) n = lpos (mK M s) n i := rfl
    rw [ep]
    refine ⟨fun q => ⟨⟨by omega, by omega⟩, ih (i + 1) M1 left full (by omega) (mInv_next hI (fun j hj => ?_))⟩, fun q => ⟨by omega, ?_⟩⟩
    · by_cases hji : j = i
      · subst hji; omega
      · omega
    · have hA := mpr_sum (W := M 175) (p := p) (i := i) (n := n) (by omega) q
      have hget := mleft_get (w := M 175 i) (goods := M 174 1) (A := sumB (mpr (mK M s) n p i) (M 175) n) hwi.1 hsum.1 hg.1
      rw [← h2] at hget
      have hnp : mpr (mK M s) n p i i = false := by rw [Bool.eq_false_iff]; exact fun z => by have := mpr_iff.mp z; omega
      have hnq : mpr (mK M s) n p (i + 1) i = true := mpr_iff.mpr (Or.inr ⟨q, by omega⟩)
      have hoth : ∀ k, k < n → k ≠ i → mpr (mK M s) n p i k = mpr (mK M s) n p (i + 1) k := fun k hk hki => mpr_eq (by omega)
      have hA2 := sumB_one (W := M 175) hnp hnq n (by omega) hoth
      have hF2 := sumB_one (W := mful (mK M s) (M 175) (M 174 1) n) hnp hnq n (by omega) hoth
      have hgi : lget (M 175 i) (M 174 1 - sumB (mpr (mK M s) n p i) (M 175) n) = mget (mK M s) (M 175) (M 174 1) n i := by unfold mget; rw [hA]
      rw [hgi] at hget
      have hle : 0 ≤ left ∧ left ≤ 99 := by rw [h2]; unfold mleft; split <;> omega
      have step : ∀ g : Int, g = (if M 175 i < left then M 175 i else left) → (0 ≤ (i : Int) ∧ (i : Int) < 8) ∧ (0 ≤ (i : Int) ∧ (i : Int) < 8) ∧ (inR (left - ((up2 M1 183 i g) 183 i))) ∧ (0 ≤ (i : Int) ∧ (i : Int) < 8) ∧ (0 ≤ (i : Int) ∧ (i : Int) < 16) ∧ ((((up2 M1 183 i g) 183 i) ≠ ((up2 M1 183 i g) 175 i) → (inR (full + (0 : Int))) ∧ (inR ((i + 1 : Nat) : Int)) ∧ En 164 17 [some (.inr (.inr 173)), some (.inl (s : Int)), some (.inl (left - ((up2 M1 183 i g) 183 i))), some (.inl (full + (0 : Int))), some (.inl (p : Int)), some (.inl ((i + 1 : Nat) : Int))] [] S (up2 M1 183 i g) Q) ∧ (((up2 M1 183 i g) 183 i) = ((up2 M1 183 i g) 175 i) → (inR (full + (1 : Int))) ∧ (inR ((i + 1 : Nat) : Int)) ∧ En 164 17 [some (.inr (.inr 173)), some (.inl (s : Int)), some (.inl (left - ((up2 M1 183 i g) 183 i))), some (.inl (full + (1 : Int))), some (.inl (p : Int)), some (.inl ((i + 1 : Nat) : Int))] [] S (up2 M1 183 i g) Q)) := by
        intro g hg2
        have u1 : up2 M1 183 i g 183 i = g := by rw [up2_at, if_pos rfl]
        have u2 : up2 M1 183 i g 175 i = M 175 i := by rw [up2_ne _ _ _ _ 175 (by decide), e175]
        rw [u1, u2]
        have hgm : g = mget (mK M s) (M 175) (M 174 1) n i := by rw [hg2]; exact hget.1
        have hl2 : left - g = mleft (M 174 1) (sumB (mpr (mK M s) n p (i + 1)) (M 175) n) := by rw [hg2, hget.2, hA2]
        have hgb : 0 ≤ g ∧ g ≤ 9 := by rw [hgm]; exact lget_in hwi
        have hI2 : ∀ f : Int, f = full + mful (mK M s) (M 175) (M 174 1) n i → mInv M (up2 M1 183 i g) (mK M s) n p (i + 1) (left - g) f := fun f hf => by
          refine ⟨fun q hq => by rw [up2_ne _ _ _ _ q hq]; exact h1 q hq, hl2, by rw [hF2, hf, h3], fun j hj hm => ?_⟩
          rw [up2_at]
          by_cases hji : j = i
          · rw [if_pos hji, hgm, hji]
          · rw [if_neg hji]
            exact h4 j hj (by rw [hoth j hj hji]; exact hm)
        refine ⟨by omega, by omega, ⟨by omega, by omega⟩, by omega, by omega, fun z => ⟨⟨by omega, by omega⟩, ⟨by omega, by omega⟩, ih (i + 1) _ _ _ (by omega) (hI2 _ ?_)⟩, fun z => ⟨⟨by omega, by omega⟩, ⟨by omega, by omega⟩, ih (i + 1) _ _ _ (by omega) (hI2 _ ?_)⟩⟩
        · unfold mful; rw [if_neg (by rw [← hgm]; exact z)]
        · unfold mful; rw [if_pos (by rw [← hgm]; exact z)]
      refine ⟨fun z => ?_, fun z => ⟨by omega, ?_⟩⟩
      · have := step left (by rw [if_neg (by omega)])
        exact this
      · have := step (M 175 i) (by rw [if_pos z])
        exact this
theorem morning_out (hM : KM S) {s n : Nat} (hs : s < 12) (hB : mBnd M n) (hN : mN M s n) (h : ∀ M', (∀ q, q ≠ 183 → M' q = M q) → (∀ i, i < n → M' 183 i = mget (mK M s) (M 175) (M 174 1) n i) → Q (S, M', some (.inl (lfull (mK M s) (M 175) (M 174 1) n n)))) : ∀ d p (M1 : Mem) (left full : Int), p + d = n → mInv M M1 (mK M s) n p 0 left full → En 164 9 [some (.inr (.inr 173)), some (.inl (s : Int)), some (.inl left), some (.inl full), some (.inl (p : Int)), none] [] S M1 Q := by
  intro d
  induction d with
  | zero =>
    intro p M1 left full hp hI
    have e : p = n := by omega
    subst e
    have e0 : M1 174 (0 : Int).toNat = p := by rw [hI.1 174 (by decide)]; exact hB.1
    apply r_X9_morning_9 hM
    rw [e0]
    have hall : ∀ j, j < p → mpr (mK M s) p p 0 j = true := fun j hj => mpr_iff.mpr (Or.inl (lpos_in hj).2)
    refine ⟨by decide, fun _ => ?_, fun q => by omega⟩
    have := h M1 hI.1 (fun i hi => hI.2.2.2 i hi (hall i hi))
    rw [lfull_B, sumB_congr (q := mpr (mK M s) p p 0) (V := mful (mK M s) (M 175) (M 174 1) p) p (fun j hj => ⟨(hall j hj).symm, rfl⟩), ← hI.2.2.1] at this
    exact this
  | succ d ih =>
    intro p M1 left full hp hI
    have e0 : M1 174 (0 : Int).toNat = n := by rw [hI.1 174 (by decide)]; exact hB.1
    apply r_X9_morning_9 hM
    rw [e0]
    exact ⟨by decide, fun q => by omega, fun _ => morning_in hM hs hB hN (by omega) (fun M2 l2 f2 h2 => ih (p + 1) M2 l2 f2 (by omega) h2) n 0 M1 left full (by omega) hI⟩
theorem sq_morning (hM : KM S) {s n : Nat} (hs : s < 12) (hB : mBnd M n) (hN : mN M s n) (h : ∀ M', (∀ q, q ≠ 183 → M' q = M q) → (∀ i, i < n → M' 183 i = mget (mK M s) (M 175) (M 174 1) n i) → Q (S, M', some (.inl (lfull (mK M s) (M 175) (M 174 1) n n)))) : Ca 164 [.inr (.inr 173), .inl (s : Int)] S M Q := by
  apply r_X9_morning_0 hM
  have h0 : ∀ j, j < n → mpr (mK M s) n 0 0 j = false := fun j hj => by
    rw [Bool.eq_false_iff]; exact fun z => by have := mpr_iff.mp z; have := lpos_in (K := mK M s) hj; omega
  have hz : ∀ V : Nat → Int, sumB (mpr (mK M s) n 0 0) V n = 0 := fun V => by
    rw [sumB_congr (q := fun _ => false) (V := V) n (fun j hj => ⟨h0 j hj, rfl⟩)]
    induction n with
    | zero => rfl
    | succ n ih => clear ih; exact (by
        have : ∀ m, sumB (fun _ => false) V m = 0 := fun m => by
          induction m with
          | zero => rfl
          | succ m ih => rw [sumB, ih]; rfl
        exact this _)
  refine ⟨by decide, morning_out hM hs hB hN h n 0 M _ _ (by omega) ⟨fun _ _ => rfl, ?_, (hz _).symm, fun j hj z => by rw [h0 j hj] at z; cases z⟩⟩
  rw [hz]
  unfold mleft
  rw [if_pos hB.2.2.1.1, Int.sub_zero]
  rfl
end Morn
