/-! bridges; price, net, enter -/
theorem gtl_congr {sz sz' : Int} {lt lt' : Nat → Int} (hs : sz' = sz) (hl : ∀ k : Nat, (k : Int) < sz → k < 6 → lt' k = lt k) (k : Nat) : gtl sz' lt' k = gtl sz lt k := by
  unfold gtl
  rw [hs]
  by_cases h : (k : Int) < sz ∧ k < 6
  · rw [if_pos h, if_pos h, hl k h.1 h.2]
  · rw [if_neg h, if_neg h]
theorem gtl_in {sz : Int} {lt : Nat → Int} (h : gok sz lt) (k : Nat) : gtl sz lt k = -4 ∨ (0 ≤ gtl sz lt k ∧ gtl sz lt k < 26) := by
  unfold gtl
  split
  · rename_i q; exact Or.inr (h.2 k q.1)
  · exact Or.inl rfl
theorem gkeyOf_congr {sz sz' : Int} {lt lt' rk rk' : Nat → Int} (h : gok sz lt) (hs : sz' = sz) (hl : ∀ k : Nat, (k : Int) < sz → lt' k = lt k) (hr : ∀ x, x < 26 → rk' x = rk x) : gkeyOf sz' lt' rk' = gkeyOf sz lt rk := by
  have e : ∀ k, gkey sz' lt' rk' k = gkey sz lt rk k := fun k => by
    induction k with
    | zero => rfl
    | succ k ih =>
      rw [gkey, gkey, ih]
      have e1 : gtl sz' lt' k = gtl sz lt k := gtl_congr hs (fun k q _ => hl k q) k
      have : gtk sz' lt' rk' k = gtk sz lt rk k := by
        unfold gtk
        rw [e1]
        rcases gtl_in h k with q | q
        · rw [if_pos q, if_pos q]
        · rw [if_neg (by omega), if_neg (by omega), hr _ (by omega)]
      rw [this]
  unfold gkeyOf
  rw [e, hs]
theorem Tn_gok {M : Mem} {t s n : Nat} (h : Tn M t s n) {i : Nat} (hi : i < n) : gok (M 180 (170 * s + i)) (fun k => M 180 (170 * s + 8 + 6 * i + k)) := by
  refine ⟨(h.1.2.1 i hi).2, fun k hk => ?_⟩
  have : 0 ≤ M 180 (170 * s + (8 + 6 * i + k)) ∧ M 180 (170 * s + (8 + 6 * i + k)) < 26 := (h.1.2.2.1 i k hi hk).2
  have e : 170 * s + (8 + 6 * i + k) = 170 * s + 8 + 6 * i + k := by omega
  rw [e] at this
  exact this
theorem Tn_gal {M : Mem} {t s n : Nat} (h : Tn M t s n) : gal (fun x => M 180 (170 * s + 144 + x)) := by
  have := h.1.2.2.2.2.2.2.2.2.2.1
  have e : (fun x => M 180 (170 * s + 144 + x)) = (fun x => M 180 (170 * s + (144 + x))) := by funext x; rw [Nat.add_assoc]
  rw [e]; exact this
theorem Tn_rk {M : Mem} {t s n : Nat} (h : Tn M t s n) {x : Nat} (hx : x < 26) : M (t + 8) x = M 180 (170 * s + 144 + x) := by
  have := h.1.2.2.2.2.2.2.2.2.1 x hx
  rw [Nat.add_assoc]; exact this
theorem Tn_mN {M : Mem} {t s n : Nat} (h : Tn M t s n) : mN M s n := ⟨fun _ hi => Tn_gok h hi, Tn_gal h⟩
theorem Tn_sz {M : Mem} {t s n : Nat} (h : Tn M t s n) {i : Nat} (hi : i < n) : M (t + 1) i = M 180 (170 * s + i) := (h.1.2.1 i hi).1
theorem Tn_lt {M : Mem} {t s n : Nat} (h : Tn M t s n) {i k : Nat} (hi : i < n) (hk : (k : Int) < M 180 (170 * s + i)) : M (t + 2) (6 * i + k) = M 180 (170 * s + 8 + 6 * i + k) := by
  have : M (t + 2) (6 * i + k) = M 180 (170 * s + (8 + 6 * i + k)) := (h.1.2.2.1 i k hi hk).1
  have e : 170 * s + (8 + 6 * i + k) = 170 * s + 8 + 6 * i + k := by omega
  rw [e] at this
  exact this
theorem Tn_tl {M : Mem} {t s n : Nat} (h : Tn M t s n) {i : Nat} (hi : i < n) (k : Nat) : tl M t i k = gtl (M 180 (170 * s + i)) (fun k => M 180 (170 * s + 8 + 6 * i + k)) k :=
  gtl_congr (lt' := fun k => M (t + 2) (6 * i + k)) (Tn_sz h hi) (fun _ hk _ => Tn_lt h hi hk) k
theorem Tn_key {M : Mem} {t s n : Nat} (h : Tn M t s n) {i : Nat} (hi : i < n) : tkeyOf M t i = mK M s i := by
  rw [tkeyOf_g]
  exact gkeyOf_congr (Tn_gok h hi) (Tn_sz h hi) (fun k hk => Tn_lt h hi hk) (fun x hx => Tn_rk h hx)
theorem Tn_names {M : Mem} {t s n : Nat} (h : Tn M t s n) : tNames M t n := by
  refine ⟨h.1.1, fun i k hi => ?_, fun x hx => ?_⟩
  · rw [Tn_tl h hi]; exact gtl_in (Tn_gok h hi) k
  · rw [Tn_rk h hx]; exact (Tn_gal h).1 x hx
theorem Tn_bnd {M : Mem} {t s n : Nat} (h : Tn M t s n) : mBnd M n := ⟨h.2.1.2.1, h.1.1, h.2.2.1.2, fun i hi => (h.2.2.2.2.2.2.1 i hi).2⟩
theorem Tn_f {M : Mem} {t s n : Nat} (h : Tn M t s n) {i : Nat} (hi : i < n) : tf M t i = mf M s i := by
  have h0 := (Tn_gok h hi).1
  unfold tf mf
  rw [Tn_sz h hi]
  by_cases hz : M 180 (170 * s + i) = 0
  · rw [if_neg (by omega), if_pos hz]
  · rw [if_pos (by omega), if_neg hz]
    have := Tn_lt h hi (k := 0) (by omega)
    simpa using this
theorem Tn_fin {M : Mem} {t s n : Nat} (h : Tn M t s n) {i : Nat} (hi : i < n) : mf M s i = -4 ∨ (0 ≤ mf M s i ∧ mf M s i < 26) := by
  have h0 := Tn_gok h hi
  unfold mf
  split
  · exact Or.inl rfl
  · right
    have h1 := h0.1
    have := h0.2 0 (by omega)
    simpa using this
theorem lbefD_congr {K K' : Nat → Int} {i : Nat} {key : Int} {j : Nat} (h : K' j = K j) : lbefD K' i key j = lbefD K i key j := by unfold lbefD; rw [h]
theorem lsum_congr {K K' W W' : Nat → Int} {i : Nat} {key : Int} : ∀ m, (∀ j, j < m → K' j = K j ∧ W' j = W j) → lsum K' W' i key m = lsum K W i key m := by
  intro m
  induction m with
  | zero => intro _; rfl
  | succ m ih =>
    intro h
    rw [lsum, lsum, ih (fun j hj => h j (by omega)), lbefD_congr (h m (by omega)).1, (h m (by omega)).2]
theorem lcnt_congr {K K' : Nat → Int} {i : Nat} {key : Int} : ∀ m, (∀ j, j < m → K' j = K j) → lcnt K' i key m = lcnt K i key m := by
  intro m
  induction m with
  | zero => intro _; rfl
  | succ m ih =>
    intro h
    rw [lcnt, lcnt, ih (fun j hj => h j (by omega)), lbefD_congr (h m (by omega))]
theorem lfull_congr {K K' W W' : Nat → Int} {g g' : Int} {n : Nat} (hg : g' = g) (hn : ∀ j, j < n → K' j = K j ∧ W' j = W j) : ∀ m, m ≤ n → lfull K' W' g' n m = lfull K W g n m := by
  intro m
  induction m with
  | zero => intro _; rfl
  | succ m ih =>
    intro h
    rw [lfull, lfull, ih (by omega), lsum_congr n hn, (hn m (by omega)).1, (hn m (by omega)).2, hg]
/-- the line as the reference has it -/
theorem LN_S {M M' : Mem} {s n : Nat} (h : Tn M 8 s n) (hl : LN M M' n) : LnS M' n ∧ (∀ i, i < n → M' 145 i = mK M s i) ∧ (∀ i, i < n → M' 149 i = M 175 i) ∧ M' 146 1 = M 174 1 ∧ M' 146 3 = M 174 3 := by
  obtain ⟨l1, l2, l3⟩ := hl
  have e0 : M' 146 0 = M 8 0 := l2 0 (by decide) 0 (by decide)
  have e1 : M' 146 1 = M 8 1 := l2 0 (by decide) 1 (by decide)
  have e3 : M' 146 3 = M 8 3 := l2 0 (by decide) 3 (by decide)
  have g0 : M 8 0 = n := h.2.1.1
  have g1 : M 8 1 = M 174 1 := h.2.2.1.1
  have g3 : M 8 3 = M 174 3 := h.2.2.2.2.1.1
  have b1 : 0 ≤ M 174 1 ∧ M 174 1 ≤ 99 := h.2.2.1.2
  have b3 : 0 ≤ M 174 3 ∧ M 174 3 ≤ 9 := h.2.2.2.2.1.2
  have n8 := h.1.1
  have w : ∀ i, i < n → M' 149 i = M 175 i := fun i hi => by
    have a : M' 149 i = M 11 i := l2 3 (by decide) i (Nat.lt_of_lt_of_le hi n8)
    have b : M 11 i = M 175 i := (h.2.2.2.2.2.2.1 i hi).1
    rw [a, b]
  refine ⟨⟨by rw [e0]; exact g0, n8, by rw [e1, g1]; exact b1, by rw [e3, g3]; exact b3, fun i hi => by rw [w i hi]; exact (h.2.2.2.2.2.2.1 i hi).2⟩, fun i hi => by rw [l3 i hi]; exact Tn_key h hi, w, e1.trans g1, e3.trans g3⟩
theorem LN_same {M M' : Mem} {n : Nat} (hl : LN M M' n) : Same M M' := fun q k hq => by
  have : q < 145 ∨ 156 < q := by unfold scr at hq; omega
  rw [hl.1 q this]
/-- letters in which two names differ -/
def pn (a b : Nat → Int) : Nat → Int
  | 0 => 0
  | k + 1 => pn a b k + (if a k = b k then 0 else 1)
theorem pn_in {a b : Nat → Int} : ∀ k : Nat, 0 ≤ pn a b k ∧ pn a b k ≤ k := by
  intro k
  induction k with
  | zero => exact ⟨Int.le_refl 0, Int.le_refl 0⟩
  | succ k ih => rw [pn]; split <;> omega
theorem pn_congr {a a' b b' : Nat → Int} : ∀ m, (∀ k, k < m → a' k = a k ∧ b' k = b k) → pn a' b' m = pn a b m := by
  intro m
  induction m with
  | zero => intro _; rfl
  | succ m ih => intro h; rw [pn, pn, ih (fun k hk => h k (by omega)), (h m (by omega)).1, (h m (by omega)).2]
theorem pn_mul {a b : Nat → Int} {c : Int} (hc : 0 ≤ c ∧ c ≤ 9) : 0 ≤ pn a b 6 * c ∧ pn a b 6 * c ≤ 54 := by
  have := pn_in (a := a) (b := b) 6
  constructor
  · exact Int.mul_nonneg this.1 hc.1
  · calc pn a b 6 * c ≤ 6 * 9 := Int.mul_le_mul this.2 hc.2 hc.1 (by decide)
      _ = 54 := rfl
section Ops5
variable {S : Shp} {M : Mem} {Q : Res → Prop}
theorem priceW_loop (hS : KC S) {i : Nat} (hi : i < 8) (hc : 0 ≤ M 8 3 ∧ M 8 3 ≤ 9) (h : Q (S, M, some (.inl (pn (gtl (M 4 11) (M 171)) (tl M 8 i) 6 * M 8 3)))) : ∀ d k, k + d = 6 → En 137 4 [some (.inr (.inr 5)), some (.inl (i : Int)), some (.inl (pn (gtl (M 4 11) (M 171)) (tl M 8 i) k)), some (.inl (k : Int)), none] [] S M Q := by
  intro d
  induction d with
  | zero =>
    intro k hk
    have e : k = 6 := by omega
    subst e
    apply r_X8_priceOfWord_4 hS
    refine ⟨fun _ => ⟨?_, h⟩, fun z => by omega⟩
    have := pn_mul (a := gtl (M 4 11) (M 171)) (b := tl M 8 i) hc
    unfold inR; omega
  | succ d ih =>
    intro k hk
    apply r_X8_priceOfWord_4 hS
    have b := pn_in (a := gtl (M 4 11) (M 171)) (b := tl M 8 i) k
    have ek : ((k : Int) + 1) = ((k + 1 : Nat) : Int) := by omega
    have nx := ih (k + 1) (by omega)
    rw [pn] at nx
    rw [Int.toNat_natCast]
    refine ⟨fun z => by omega, fun _ => ⟨fun q => sp_letterOf (t := 8) hS (by decide) hi ⟨_, _, rfl, ?_⟩, fun q => ⟨by omega, sp_letterOf (t := 8) hS (by decide) hi ⟨_, _, rfl, ?_⟩⟩⟩⟩
    · have e : gtl (M 4 11) (M 171) k = -4 := by unfold gtl; rw [if_neg (by omega)]
      rw [e] at nx
      refine ⟨fun w => ⟨by unfold inR; omega, ?_⟩, fun w => ⟨by unfold inR; omega, by unfold inR; omega, ?_⟩⟩
      · rw [if_pos w] at nx; rw [ek]; simpa using nx
      · rw [if_neg w] at nx; rw [ek]; exact nx
    · have e : gtl (M 4 11) (M 171) k = M 171 k := by unfold gtl; rw [if_pos ⟨q, by omega⟩]
      rw [e] at nx
      refine ⟨fun w => ⟨by unfold inR; omega, ?_⟩, fun w => ⟨by unfold inR; omega, by unfold inR; omega, ?_⟩⟩
      · rw [if_pos w] at nx; rw [ek]; simpa using nx
      · rw [if_neg w] at nx; rw [ek]; exact nx
theorem sp_priceOfWord (hS : KC S) {i : Nat} (hi : i < 8) (hc : 0 ≤ M 8 3 ∧ M 8 3 ≤ 9) (h : Q (S, M, some (.inl (pn (gtl (M 4 11) (M 171)) (tl M 8 i) 6 * M 8 3)))) : Ca 137 [.inr (.inr 5), .inl (i : Int)] S M Q := by
  apply r_X8_priceOfWord_0 hS
  exact priceW_loop hS hi hc h 6 0 rfl
/-- the reference's name of a person -/
def mL (M : Mem) (s i : Nat) : Nat → Int := gtl (M 180 (170 * s + i)) (fun k => M 180 (170 * s + 8 + 6 * i + k))
theorem priceM_loop (hM : KM S) {i : Nat} (hi : i < 8) (hc : 0 ≤ M 174 3 ∧ M 174 3 ≤ 9) (hg : gok (M 180 (170 * 0 + i)) (fun k => M 180 (170 * 0 + 8 + 6 * i + k))) (hw : gok (M 172 12) (M 181)) (h : Q (S, M, some (.inl (pn (gtl (M 172 12) (M 181)) (mL M 0 i) 6 * M 174 3)))) : ∀ d k, k + d = 6 → En 174 4 [some (.inr (.inr 173)), some (.inl (i : Int)), some (.inl (pn (gtl (M 172 12) (M 181)) (mL M 0 i) k)), some (.inl (k : Int)), none] [] S M Q := by
  intro d
  induction d with
  | zero =>
    intro k hk
    have e : k = 6 := by omega
    subst e
    apply r_X9_priceOf_4 hM
    refine ⟨fun _ => ⟨by decide, ?_, h⟩, fun z => by omega⟩
    have := pn_mul (a := gtl (M 172 12) (M 181)) (b := mL M 0 i) hc
    have e : M 174 (3 : Int).toNat = M 174 3 := rfl
    rw [e]
    unfold inR; omega
  | succ d ih =>
    intro k hk
    apply r_X9_priceOf_4 hM
    have b := pn_in (a := gtl (M 172 12) (M 181)) (b := mL M 0 i) k
    have ek : ((k : Int) + 1) = ((k + 1 : Nat) : Int) := by omega
    have nx := ih (k + 1) (by omega)
    rw [pn] at nx
    rw [Int.toNat_natCast]
    have hg1 : 0 ≤ M 180 i ∧ M 180 i ≤ 6 := by simpa using hg.1
    have hl : mL M 0 i k = if (k : Int) < M 180 i then M 180 (8 + 6 * i + k) else -4 := by
      unfold mL gtl
      simp only [Nat.mul_zero, Nat.zero_add]
      by_cases q : (k : Int) < M 180 i
      · rw [if_pos ⟨q, by omega⟩, if_pos q]
      · rw [if_neg (by omega), if_neg q]
    have hwk : gtl (M 172 12) (M 181) k = if (k : Int) < M 172 12 then M 181 k else -4 := by
      unfold gtl
      by_cases q : (k : Int) < M 172 12
      · rw [if_pos ⟨q, by omega⟩, if_pos q]
      · rw [if_neg (by omega), if_neg q]
    rw [hl, hwk] at nx
    have one : ∀ s0, (if (if (k : Int) < M 172 12 then M 181 k else -4) = (if (k : Int) < M 180 i then M 180 (8 + 6 * i + k) else -4) then (0 : Int) else 1) = 1 → En 174 56 [some (.inr (.inr 173)), some (.inl (i : Int)), some (.inl (pn (gtl (M 172 12) (M 181)) (mL M 0 i) k)), some (.inl (k : Int)), some (.inl s0)] [.inl (1 : Int), .inl (pn (gtl (M 172 12) (M 181)) (mL M 0 i) k)] S M Q := fun s0 z => by
      apply r_X9_priceOf_56 hM
      rw [z] at nx
      refine ⟨by unfold inR; omega, by unfold inR; omega, ?_⟩
      rw [ek]; exact nx
    have nul : ∀ s0, (if (if (k : Int) < M 172 12 then M 181 k else -4) = (if (k : Int) < M 180 i then M 180 (8 + 6 * i + k) else -4) then (0 : Int) else 1) = 0 → En 174 56 [some (.inr (.inr 173)), some (.inl (i : Int)), some (.inl (pn (gtl (M 172 12) (M 181)) (mL M 0 i) k)), some (.inl (k : Int)), some (.inl s0)] [.inl (0 : Int), .inl (pn (gtl (M 172 12) (M 181)) (mL M 0 i) k)] S M Q := fun s0 z => by
      apply r_X9_priceOf_56 hM
      rw [z] at nx
      refine ⟨by unfold inR; omega, by unfold inR; omega, ?_⟩
      rw [ek]; exact nx
    have e8 : (((8 : Int) + 6 * i) + k).toNat = 8 + 6 * i + k := by omega
    have lo : (k : Int) < M 180 i → 0 ≤ M 180 (8 + 6 * i + k) := fun q => by
      have := (hg.2 k (by simpa using q)).1
      simpa using this
    have no : ¬ ((k : Int) < M 172 12 ∧ (k : Int) < M 180 i) → En 174 19 [some (.inr (.inr 173)), some (.inl (i : Int)), some (.inl (pn (gtl (M 172 12) (M 181)) (mL M 0 i) k)), some (.inl (k : Int)), none] [] S M Q := fun q => by
      apply r_X9_priceOf_19 hM
      apply r_X9_priceOf_20 hM
      rw [Int.toNat_natCast]
      refine ⟨fun _ => ⟨fun a => ?_, fun a => ⟨by omega, fun c => ?_, fun c => ?_⟩⟩, fun z => absurd rfl z⟩
      · apply r_X9_priceOf_53 hM
        refine one _ ?_
        have := (hw.2 k a).1
        rw [if_pos a, if_neg (by omega : ¬ (k : Int) < M 180 i), if_neg (by omega)]
      · refine nul _ ?_
        rw [if_neg (by omega : ¬ (k : Int) < M 172 12), if_neg (by omega : ¬ (k : Int) < M 180 i), if_pos rfl]
      · apply r_X9_priceOf_53 hM
        refine one _ ?_
        have := lo c
        rw [if_neg (by omega : ¬ (k : Int) < M 172 12), if_pos c, if_neg (by omega)]
    refine ⟨fun z => by omega, fun _ => ⟨fun q => no (by omega), fun q => ⟨by omega, fun q2 => no (by omega), fun q2 => ?_⟩⟩⟩
    apply r_X9_priceOf_20 hM
    rw [Int.toNat_natCast, e8]
    simp only [inR]
    refine ⟨fun z => absurd z (by decide), fun _ => ⟨by omega, by omega, by omega, by omega, by omega, fun z => one _ ?_, fun z => nul _ ?_⟩⟩
    · rw [Int.toNat_natCast] at z; rw [if_pos q]; simp only [if_pos q2]; rw [if_neg z]
    · rw [Int.toNat_natCast] at z; rw [if_pos q]; simp only [if_pos q2]; rw [if_pos z]
theorem sq_priceOf (hM : KM S) {i : Nat} (hi : i < 8) (hc : 0 ≤ M 174 3 ∧ M 174 3 ≤ 9) (hg : gok (M 180 (170 * 0 + i)) (fun k => M 180 (170 * 0 + 8 + 6 * i + k))) (hw : gok (M 172 12) (M 181)) (h : Q (S, M, some (.inl (pn (gtl (M 172 12) (M 181)) (mL M 0 i) 6 * M 174 3)))) : Ca 174 [.inr (.inr 173), .inl (i : Int)] S M Q := by
  apply r_X9_priceOf_0 hM
  exact priceM_loop hM hi hc hg hw h 6 0 rfl
theorem Word_gok {M : Mem} (h : Word M) : gok (M 172 12) (M 181) ∧ ∀ k, gtl (M 4 11) (M 171) k = gtl (M 172 12) (M 181) k := by
  obtain ⟨l, l1, l2, l3, l4⟩ := h
  refine ⟨⟨by rw [l3]; omega, fun k hk => (l4 k (by omega)).2⟩, fun k => gtl_congr (l2.trans l3.symm) (fun k hk _ => (l4 k (by omega)).1) k⟩
theorem sim_price (hS : KC S) (hM : KM S) (hR : Rel M) (p : Int) : Sim S M 104 175 [.inl p] := by
  obtain ⟨n, hT, -, -, -, hW, -⟩ := id hR
  have hn8 := hT.1.1
  have hn : M 8 0 = n := hT.2.1.1
  by_cases hp : 0 ≤ p ∧ p ≤ (n : Int) - 1
  · obtain ⟨i, rfl, hi⟩ := int_nat hp
    have hc : M 8 3 = M 174 3 := hT.2.2.2.2.1.1
    have hc2 : 0 ≤ M 174 3 ∧ M 174 3 ≤ 9 := hT.2.2.2.2.1.2
    refine Sim.query hR (pn (gtl (M 172 12) (M 181)) (mL M 0 i) 6 * M 174 3) (fun Q h => ?_) (fun M1 s1 hR1 Q h => ?_)
    · apply r_X8_price_0 hS
      refine sp_isPerson hS hn ⟨_, _, rfl, ?_⟩
      rw [if_pos hp]
      refine ⟨fun z => absurd z (by decide), fun _ => sp_priceOfWord hS (by omega) (by rw [hc]; exact hc2) ⟨_, _, rfl, ?_⟩⟩
      rw [pn_congr 6 (fun k _ => ⟨(Word_gok hW).2 k, Tn_tl hT hi k⟩), hc]
      exact h M (Same.refl M)
    · obtain ⟨n', hT1, -, -, -, hW1, -⟩ := hR1
      have e0 : M1 174 0 = M 174 0 := s1 174 0 (by unfold scr; omega)
      have hn1 : M1 174 0 = n := e0.trans hT.2.1.2.1
      have en : n' = n := by have := hT1.2.1.2.1; omega
      subst en
      apply r_X9_price_0 hM
      refine sq_isPerson hM hn1 hn8 ⟨_, _, rfl, ?_⟩
      rw [if_pos hp]
      refine ⟨fun z => absurd z (by decide), fun _ => sq_priceOf hM (by omega) hT1.2.2.2.2.1.2 (Tn_gok hT1 hi) (Word_gok hW1).1 ⟨_, _, rfl, ?_⟩⟩
      have e3 : M1 174 3 = M 174 3 := s1 174 3 (by unfold scr; omega)
      have e12 : M1 172 12 = M 172 12 := s1 172 12 (by unfold scr; omega)
      have e181 : ∀ k, M1 181 k = M 181 k := fun k => s1 181 k (by unfold scr; omega)
      have eL : ∀ k, mL M1 0 i k = mL M 0 i k := fun k => gtl_congr (s1 180 _ (by unfold scr; omega)) (fun k _ _ => s1 180 _ (by unfold scr; omega)) k
      rw [pn_congr 6 (fun k _ => ⟨gtl_congr e12 (fun k _ _ => e181 k) k, eL k⟩), e3]
      exact h M1 (Same.refl M1)
  · refine Sim.query hR (-1) (fun Q h => ?_) (fun M1 s1 hR1 Q h => ?_)
    · apply r_X8_price_0 hS
      refine sp_isPerson hS hn ⟨_, _, rfl, ?_⟩
      rw [if_neg hp]
      exact ⟨fun _ => h M (Same.refl M), fun z => absurd rfl z⟩
    · apply r_X9_price_0 hM
      refine sq_isPerson hM ((s1 174 0 (by unfold scr; omega)).trans hT.2.1.2.1) hn8 ⟨_, _, rfl, ?_⟩
      rw [if_neg hp]
      exact ⟨fun _ => h M1 (Same.refl M1), fun z => absurd rfl z⟩
end Ops5
