/-! THE LINE made anew; the best first letter -/
theorem tl_cp {M M' : Mem} {t t' : Nat} (h1 : ∀ i, i < 8 → M' (t' + 1) i = M (t + 1) i) (h2 : ∀ i, i < 48 → M' (t' + 2) i = M (t + 2) i) {i k : Nat} (hi : i < 8) : tl M' t' i k = tl M t i k := by
  unfold tl
  rw [h1 i hi]
  by_cases h : (k : Int) < M (t + 1) i ∧ k < 6
  · rw [if_pos h, if_pos h, h2 _ (by omega)]
  · rw [if_neg h, if_neg h]
theorem tNames_cp {M M' : Mem} {t t' n : Nat} (h1 : ∀ i, i < 8 → M' (t' + 1) i = M (t + 1) i) (h2 : ∀ i, i < 48 → M' (t' + 2) i = M (t + 2) i) (h8 : ∀ i, i < 26 → M' (t' + 8) i = M (t + 8) i) (hN : tNames M t n) : tNames M' t' n :=
  ⟨hN.1, fun i k hi => by rw [tl_cp h1 h2 (by have := hN.1; omega)]; exact hN.2.1 i k hi, fun x hx => by rw [h8 x hx]; exact hN.2.2 x hx⟩
theorem tkeyOf_cp {M M' : Mem} {t t' n : Nat} (h1 : ∀ i, i < 8 → M' (t' + 1) i = M (t + 1) i) (h2 : ∀ i, i < 48 → M' (t' + 2) i = M (t + 2) i) (h8 : ∀ i, i < 26 → M' (t' + 8) i = M (t + 8) i) (hN : tNames M t n) {i : Nat} (hi' : i < n) : tkeyOf M' t' i = tkeyOf M t i := by
  have hi : i < 8 := by have := hN.1; omega
  have hk : ∀ k, tk M' t' i k = tk M t i k := fun k => by
    unfold tk
    rw [tl_cp h1 h2 hi]
    rcases hN.2.1 i k hi' with h | h
    · rw [if_pos h, if_pos h]
    · rw [if_neg (by omega), if_neg (by omega), h8 _ (by omega)]
  have hkey : ∀ k, tkey M' t' i k = tkey M t i k := fun k => by
    induction k with
    | zero => rfl
    | succ k ih => rw [tkey, tkey, ih, hk]
  unfold tkeyOf
  rw [h1 i hi, hkey]
theorem tf_cp {M M' : Mem} {t t' : Nat} (h1 : ∀ i, i < 8 → M' (t' + 1) i = M (t + 1) i) (h2 : ∀ i, i < 48 → M' (t' + 2) i = M (t + 2) i) {i : Nat} (hi : i < 8) : tf M' t' i = tf M t i := by
  unfold tf
  rw [h1 i hi, h2 _ (by omega)]
section Line2
variable {S : Shp} {M : Mem} {Q : Res → Prop}
theorem sort_loop (hS : KC S) {n : Nat} (hn : M 146 0 = n) (hN : tNames M 146 n) (h : ∀ M', (∀ q, q ≠ 145 → M' q = M q) → (∀ i, i < n → M' 145 i = tkeyOf M 146 i) → Q (S, M', none)) : ∀ d k (M1 : Mem), k + d = n → (∀ q, q ≠ 145 → M1 q = M q) → (∀ i, i < k → M1 145 i = tkeyOf M 146 i) → En 14 2 [some (.inr (.inr 145)), some (.inl (k : Int))] [] S M1 Q := by
  intro d
  induction d with
  | zero =>
    intro k M1 hk h1 h2
    apply r_X2_sort_2 hS
    rw [h1 146 (by decide), hn]
    exact ⟨fun _ => h M1 h1 (fun i hi => h2 i (by omega)), fun q => by omega⟩
  | succ d ih =>
    intro k M1 hk h1 h2
    have c1 : ∀ i, i < 8 → M1 (146 + 1) i = M (146 + 1) i := fun i _ => by rw [h1 _ (by decide)]
    have c2 : ∀ i, i < 48 → M1 (146 + 2) i = M (146 + 2) i := fun i _ => by rw [h1 _ (by decide)]
    have c8 : ∀ i, i < 26 → M1 (146 + 8) i = M (146 + 8) i := fun i _ => by rw [h1 _ (by decide)]
    have hn8 := hN.1
    apply r_X2_sort_2 hS
    rw [h1 146 (by decide), hn]
    refine ⟨fun q => by omega, fun _ => sp_keyOf hS (by decide) (tNames_cp c1 c2 c8 hN) (by omega) ⟨_, _, rfl, by omega, by show inR _; exact ⟨by omega, by omega⟩, ?_⟩⟩
    rw [Int.toNat_natCast, show ((k : Int) + 1) = ((k + 1 : Nat) : Int) by omega, tkeyOf_cp c1 c2 c8 hN (by omega)]
    refine ih (k + 1) _ (by omega) (fun q hq => by rw [up2_ne _ _ _ _ q hq]; exact h1 q hq) (fun i hi => ?_)
    rw [up2_at]
    by_cases hik : i = k
    · rw [if_pos hik, hik]
    · rw [if_neg hik]; exact h2 i (by omega)
theorem sp_sort (hS : KC S) {n : Nat} (hn : M 146 0 = n) (hN : tNames M 146 n) (h : ∀ M', (∀ q, q ≠ 145 → M' q = M q) → (∀ i, i < n → M' 145 i = tkeyOf M 146 i) → Q (S, M', none)) : Ca 14 [.inr (.inr 145)] S M Q := by
  apply r_X2_sort_0 hS
  exact sort_loop hS hn hN h n 0 M (by omega) (fun _ _ => rfl) (fun i hi => absurd hi (by omega))
/-- the line is as the town is now -/
def LN (M M' : Mem) (n : Nat) : Prop := (∀ q, q < 145 ∨ 156 < q → M' q = M q) ∧ (∀ j, j ≤ 10 → ∀ k, k < tlen j → M' (146 + j) k = M (8 + j) k) ∧ ∀ i, i < n → M' 145 i = tkeyOf M 8 i
theorem sp_load (hS : KC S) {n : Nat} (hn : M 8 0 = n) (hN : tNames M 8 n) (h : ∀ M', LN M M' n → Q (S, M', none)) : Ca 13 [.inr (.inr 145), .inr (.inr 9)] S M Q := by
  apply r_X2_load_0 hS
  refine sp_copyFrom (t := 146) (o := 8) hS (by decide) (by decide) (by decide) (fun M1 hc => ⟨_, rfl, ?_⟩)
  have c1 : ∀ i, i < 8 → M1 (146 + 1) i = M (8 + 1) i := fun i hi => hc.2 1 (by decide) i hi
  have c2 : ∀ i, i < 48 → M1 (146 + 2) i = M (8 + 2) i := fun i hi => hc.2 2 (by decide) i hi
  have c8 : ∀ i, i < 26 → M1 (146 + 8) i = M (8 + 8) i := fun i hi => hc.2 8 (by decide) i hi
  refine sp_sort hS (n := n) (by rw [← hn]; exact hc.2 0 (by decide) 0 (by decide)) (tNames_cp c1 c2 c8 hN) (fun M2 h1 h2 => ⟨_, rfl, h M2 ⟨fun q hq => ?_, fun j hj k hk => ?_, fun i hi => ?_⟩⟩)
  · rw [h1 q (by omega)]; exact hc.1 q (by omega)
  · rw [h1 _ (by omega)]; exact hc.2 j hj k hk
  · rw [h2 i hi]; exact tkeyOf_cp c1 c2 c8 hN (by omega)
theorem sp_lineNow (hS : KC S) {n : Nat} (hn : M 8 0 = n) (hN : tNames M 8 n) (h : ∀ M', LN M M' n → Q (S, M', some (.inr (.inr 145)))) : Ca 136 [.inr (.inr 5)] S M Q := by
  apply r_X8_lineNow_0 hS
  exact sp_load hS hn hN (fun M' hM => ⟨_, rfl, h M' hM⟩)
/-- the key by another first letter -/
def lkx (K rk : Nat → Int) (i x : Nat) : Int := K i % 14348907 + (rk x + 1) * 14348907
theorem sp_keyWithFirst (hS : KC S) {i x : Nat} (hi : i < 8) (hx : x < 26) (hK : 0 ≤ M 145 i) (hr : 0 ≤ M 154 x ∧ M 154 x < 26) (h : Q (S, M, some (.inl (lkx (M 145) (M 154) i x)))) : Ca 21 [.inr (.inr 145), .inl (i : Int), .inl (x : Int)] S M Q := by
  apply r_X2_keyWithFirst_0 hS
  simp only [Int.toNat_natCast]
  refine ⟨by omega, ⟨hK, by decide⟩, sp_keyOfOne (t := 146) hS (by decide) hx hr ⟨_, _, rfl, ?_, h⟩⟩
  show inR _
  have e : M (146 + 8) x = M 154 x := rfl
  rw [e]
  exact ⟨by omega, by omega⟩
/-- what one gains by a first letter -/
def lgain (K W rk : Nat → Int) (goods cost : Int) (n i : Nat) (fi : Int) (x : Nat) : Int := lget (W i) (goods - lsum K W i (lkx K rk i x) n) - (if (x : Int) = fi then 0 else cost)
theorem lgain_in {K W rk : Nat → Int} {goods cost : Int} {n i : Nat} {fi : Int} {x : Nat} (hw : 0 ≤ W i ∧ W i ≤ 9) (hc : 0 ≤ cost ∧ cost ≤ 9) : -9 ≤ lgain K W rk goods cost n i fi x ∧ lgain K W rk goods cost n i fi x ≤ 9 := by
  have := lget_in (l := goods - lsum K W i (lkx K rk i x) n) hw
  unfold lgain
  split <;> omega
theorem sp_gainBy (hS : KC S) {n : Nat} (hn : LnS M n) {i x : Nat} (hi : i < n) (hx : x < 26) (hK : 0 ≤ M 145 i) (hr : 0 ≤ M 154 x ∧ M 154 x < 26) (h : Q (S, M, some (.inl (lgain (M 145) (M 149) (M 154) (M 146 1) (M 146 3) n i (tf M 146 i) x)))) : Ca 22 [.inr (.inr 145), .inl (i : Int), .inl (x : Int)] S M Q := by
  have h8 := hn.2.1
  apply r_X2_gainBy_0 hS
  refine sp_keyWithFirst hS (by omega) hx hK hr ⟨_, _, rfl, sp_getsBy hS hn hi ⟨_, _, rfl, sp_first (t := 146) hS (by decide) (by omega) ⟨_, _, rfl, ?_⟩⟩⟩
  have hg := lget_in (w := M 149 i) (l := M 146 1 - lsum (M 145) (M 149) i (lkx (M 145) (M 154) i x) n) (hn.2.2.2.2 i hi)
  have hc := hn.2.2.2.1
  unfold lgain at h
  refine ⟨fun q => ⟨⟨by omega, by omega⟩, ?_⟩, fun q => ?_⟩
  · rw [if_neg q] at h; exact h
  · rw [if_pos q, Int.sub_zero] at h; exact h
/-- of the letters of ranks 0 to r the first of greatest gain, and it -/
def lbest (g : Nat → Int) (ord : Nat → Nat) : Nat → Nat × Int
  | 0 => (ord 0, g (ord 0))
  | r + 1 => if (lbest g ord r).2 < g (ord (r + 1)) then (ord (r + 1), g (ord (r + 1))) else lbest g ord r
theorem lbest_at {g : Nat → Int} {ord : Nat → Nat} : ∀ r, (lbest g ord r).2 = g (lbest g ord r).1 := by
  intro r
  induction r with
  | zero => rfl
  | succ r ih => rw [lbest]; split <;> simp_all
theorem lbest_in {g : Nat → Int} {ord : Nat → Nat} {B : Nat} (h : ∀ r, r < 26 → ord r < B) : ∀ r, r < 26 → (lbest g ord r).1 < B := by
  intro r
  induction r with
  | zero => intro hr; exact h 0 hr
  | succ r ih => intro hr; rw [lbest]; split; exact h _ hr; exact ih (by omega)
/-- the gains of one in the line as it is -/
def lg (M : Mem) (n i : Nat) : Nat → Int := lgain (M 145) (M 149) (M 154) (M 146 1) (M 146 3) n i (tf M 146 i)
def lord (M : Mem) : Nat → Nat := fun r => (M 155 r).toNat
theorem bestFirst_loop (hS : KC S) {n : Nat} (hn : LnS M n) {i : Nat} (hi : i < n) (hK : 0 ≤ M 145 i) (hr : ∀ x, x < 26 → 0 ≤ M 154 x ∧ M 154 x < 26) (ho : ∀ r, r < 26 → 0 ≤ M 155 r ∧ M 155 r < 26) (h : Q (S, M, some (.inl ((lbest (lg M n i) (lord M) 25).1 : Int)))) : ∀ d r, r + d = 25 → En 23 13 [some (.inr (.inr 145)), some (.inl (i : Int)), some (.inl ((lbest (lg M n i) (lord M) r).1 : Int)), some (.inl (lbest (lg M n i) (lord M) r).2), some (.inl ((r + 1 : Nat) : Int)), none, none] [] S M Q := by
  intro d
  induction d with
  | zero =>
    intro r hr'
    have e : r = 25 := by omega
    subst e
    apply r_X2_bestFirst_13 hS
    exact ⟨fun _ => h, fun q => by omega⟩
  | succ d ih =>
    intro r hr'
    have ih := ih (r + 1) (by omega)
    rw [lbest] at ih
    have ho1 := ho (r + 1) (by omega)
    have e1 : M 155 (r + 1) = ((lord M (r + 1) : Nat) : Int) := by unfold lord; omega
    have hb := lbest_in (g := lg M n i) (ord := lord M) (B := 26) (fun r hr => by have := ho r hr; unfold lord; omega) r (by omega)
    apply r_X2_bestFirst_13 hS
    rw [Int.toNat_natCast, e1]
    refine ⟨fun q => by omega, fun _ => ⟨by omega, sp_gainBy hS hn hi (by omega) hK (hr _ (by omega)) ⟨_, _, rfl, fun q => ⟨⟨by omega, by omega⟩, ?_⟩, fun q => ⟨⟨by omega, by omega⟩, ?_⟩⟩⟩⟩
    · rw [if_neg (by show ¬ _ < lg M n i (lord M (r + 1)); exact Int.not_lt.mpr q)] at ih
      exact ih
    · rw [if_pos (by show _ < lg M n i (lord M (r + 1)); exact q)] at ih
      exact ih
theorem sp_bestFirst (hS : KC S) {n : Nat} (hn : LnS M n) {i : Nat} (hi : i < n) (hK : 0 ≤ M 145 i) (hr : ∀ x, x < 26 → 0 ≤ M 154 x ∧ M 154 x < 26) (ho : ∀ r, r < 26 → 0 ≤ M 155 r ∧ M 155 r < 26) (h : Q (S, M, some (.inl ((lbest (lg M n i) (lord M) 25).1 : Int)))) : Ca 23 [.inr (.inr 145), .inl (i : Int)] S M Q := by
  apply r_X2_bestFirst_0 hS
  have ho1 := ho 0 (by omega)
  have hl0 : lord M 0 < 26 := by unfold lord; omega
  have e1 : M 155 (0 : Int).toNat = ((lord M 0 : Nat) : Int) := by unfold lord; show M 155 0 = _; omega
  rw [e1]
  refine ⟨by decide, sp_gainBy hS hn hi (by omega) hK (hr _ (by omega)) ⟨_, _, rfl, ?_⟩⟩
  exact bestFirst_loop hS hn hi hK hr ho h 25 0 rfl
end Line2
