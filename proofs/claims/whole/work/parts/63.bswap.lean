/-! bestSwap: two letters change places -/
def nkr (σ rk : Nat → Int) (i : Nat) : Int := gkeyOf (σ i) (fun k => σ (8 + 6 * i + k)) rk
def bV (M : Mem) (n x y : Nat) : Int := lfull (nkr (M 180) (swp (fun z => M 180 (144 + z)) x y)) (M 175) (M 174 1) n n
def bstep (V : Nat → Nat → Int) (u x y : Nat) (st : Int × Int) : Int × Int := if u.testBit x = true ∧ u.testBit y = true ∧ st.1 < V x y then (V x y, 26 * (x : Int) + (y : Int)) else st
def bsI (V : Nat → Nat → Int) (u x : Nat) : Nat → Int × Int → Int × Int
  | 0, st => st
  | d + 1, st => bsI V u x d (bstep V u x (25 - d) st)
def bsO (V : Nat → Nat → Int) (u : Nat) : Nat → Int × Int → Int × Int
  | 0, st => st
  | d + 1, st => bsO V u d (bsI V u (25 - d) d st)
def bAns (p : Int) (st : Int × Int) : Int := if st.2 < 0 then st.2 else if p = 0 then st.2 else st.1
def b4 (st : Int × Int) : Prop := st.2 = -4 ∨ 0 ≤ st.2
theorem bstep_4 {V : Nat → Nat → Int} {u x y : Nat} {st : Int × Int} (h : b4 st) : b4 (bstep V u x y st) := by
  unfold bstep
  split
  · exact Or.inr (by show 0 ≤ 26 * (x : Int) + (y : Int); omega)
  · exact h
/-- the letters that are first ones -/
def us (M : Mem) : Nat → Nat
  | 0 => 0
  | m + 1 => us M m ||| (if M 180 m = 0 then 0 else 2 ^ (f0 M m).toNat)
theorem p2_in {v : Nat} (h : v < 31) : 0 ≤ (1 : Int) * 2 ^ v ∧ inR ((1 : Int) * 2 ^ v) ∧ ((1 : Int) * 2 ^ v).toNat = 2 ^ v := by
  have e : (1 : Int) * 2 ^ v = ((2 ^ v : Nat) : Int) := by simp
  have b : 2 ^ v ≤ 2 ^ 30 := Nat.pow_le_pow_right (by decide) (by omega)
  rw [e]
  have c : (2 : Nat) ^ 30 = 1073741824 := by decide
  obtain ⟨w, hw⟩ : ∃ w, w = 2 ^ v := ⟨_, rfl⟩
  rw [← hw] at b ⊢
  exact ⟨by omega, by unfold inR; omega, Int.toNat_natCast _⟩
theorem swp_swp (r : Nat → Int) (x y z : Nat) : swp (swp r x y) x y z = r z := by
  unfold swp
  grind
/-- the line's names, by an alphabet -/
def Lq (M M1 : Mem) (rk : Nat → Int) (n : Nat) : Prop := (∀ q, q < 145 ∨ 156 < q → M1 q = M q) ∧ LnS M1 n ∧ (∀ i, i < n → M1 147 i = M 180 i) ∧ (∀ (i k : Nat), i < n → (k : Int) < M 180 i → M1 148 (6 * i + k) = M 180 (8 + 6 * i + k)) ∧ (∀ i, i < n → M1 149 i = M 175 i) ∧ M1 146 1 = M 174 1 ∧ (∀ x, x < 26 → M1 154 x = rk x)
theorem Lq_key {M M1 : Mem} {rk : Nat → Int} {n : Nat} (hs : sok (M 180) n) (h : Lq M M1 rk n) {i : Nat} (hi : i < n) : tkeyOf M1 146 i = nkr (M 180) rk i := by
  rw [tkeyOf_g]
  exact gkeyOf_congr (hs.1 i hi) (h.2.2.1 i hi) (fun k hk => h.2.2.2.1 i k hi hk) (fun x hx => h.2.2.2.2.2.2 x hx)
theorem Lq_names {M M1 : Mem} {rk : Nat → Int} {n : Nat} (hs : sok (M 180) n) (hg : gal rk) (h : Lq M M1 rk n) : tNames M1 146 n := by
  refine ⟨h.2.1.2.1, fun i k hi => ?_, fun x hx => ?_⟩
  · have e : tl M1 146 i k = gtl (M 180 i) (fun k => M 180 (8 + 6 * i + k)) k := gtl_congr (lt' := fun k => M1 (146 + 2) (6 * i + k)) (h.2.2.1 i hi) (fun k hk _ => h.2.2.2.1 i k hi hk) k
    rw [e]
    exact gtl_in (hs.1 i hi) k
  · have e : M1 (146 + 8) x = rk x := h.2.2.2.2.2.2 x hx
    rw [e]; exact hg.1 x hx
theorem Lq_keep {M M1 M2 : Mem} {rk rk2 : Nat → Int} {n : Nat} (h : Lq M M1 rk n) (h2 : ∀ q, q ≠ 145 → q ≠ 154 → q ≠ 155 → M2 q = M1 q) (h3 : ∀ x, x < 26 → M2 154 x = rk2 x) : Lq M M2 rk2 n := by
  obtain ⟨a0, a1, a3, a4, a5, a6, a7⟩ := h
  refine ⟨fun q hq => by rw [h2 q (by omega) (by omega) (by omega)]; exact a0 q hq, ?_, fun j hj => by rw [h2 147 (by decide) (by decide) (by decide)]; exact a3 j hj, fun j k hj hk => by rw [h2 148 (by decide) (by decide) (by decide)]; exact a4 j k hj hk, fun j hj => by rw [h2 149 (by decide) (by decide) (by decide)]; exact a5 j hj, by rw [h2 146 (by decide) (by decide) (by decide)]; exact a6, h3⟩
  unfold LnS
  rw [h2 146 (by decide) (by decide) (by decide), h2 149 (by decide) (by decide) (by decide)]
  exact a1
section BSwap
variable {S : Shp} {M : Mem} {Q : Res → Prop}
theorem sp_exch (hS : KC S) {x y : Nat} (hx : x < 26) (hy : y < 26) (hr : ∀ z, z < 26 → 0 ≤ M 154 z ∧ M 154 z < 26) (h : ∀ M', (∀ q, q ≠ 154 → q ≠ 155 → M' q = M q) → (∀ z, M' 154 z = swp (M 154) x y z) → Q (S, M', none)) : Ca 70 [.inr (.inr 147), .inl (x : Int), .inl (y : Int)] S M Q := by
  refine sp_exchange (t := 146) hS (by decide) hx hy hr (h _ (fun q q1 q2 => ?_) (fun z => ?_))
  · show up2 (up2 (up2 (up2 M 154 x (M 154 y)) 155 (M 154 y).toNat (x : Int)) 154 y (M 154 x)) 155 (M 154 x).toNat (y : Int) q = M q
    rw [up2_row _ _ _ _ q2, up2_row _ _ _ _ q1, up2_row _ _ _ _ q2, up2_row _ _ _ _ q1]
  · show up2 (up2 (up2 (up2 M 154 x (M 154 y)) 155 (M 154 y).toNat (x : Int)) 154 y (M 154 x)) 155 (M 154 x).toNat (y : Int) 154 z = swp (M 154) x y z
    rw [up2_row _ _ _ _ (by decide), up2_any, up2_row _ _ _ _ (by decide), up2_any]
    unfold swp
    simp
theorem sp_cfie (hS : KC S) {n : Nat} (hT : Tn M 8 0 n) {M1 : Mem} (hl : Lq M M1 (fun z => M 180 (144 + z)) n) {x y : Nat} (hx : x < 26) (hy : y < 26) (h : ∀ M', Lq M M' (fun z => M 180 (144 + z)) n → Q (S, M', some (.inl (bV M n x y)))) : Ca 20 [.inr (.inr 145), .inl (x : Int), .inl (y : Int)] S M1 Q := by
  have hs := Tn_sok hT
  have hg2 := swp_gal hs.2 hx hy
  apply r_X2_countFullIfExchanged_0 hS
  refine sp_exch hS hx hy (fun z hz => by rw [hl.2.2.2.2.2.2 z hz]; exact hs.2.1 z hz) (fun M2 g1 g2 => ⟨_, rfl, ?_⟩)
  have l2 : Lq M M2 (swp (fun z => M 180 (144 + z)) x y) n := Lq_keep hl (fun q _ q2 q3 => g1 q q2 q3) (fun z hz => by
    rw [g2 z]
    unfold swp
    rw [hl.2.2.2.2.2.2 x hx, hl.2.2.2.2.2.2 y hy, hl.2.2.2.2.2.2 z hz])
  refine sp_sort hS l2.2.1.1 (Lq_names hs hg2 l2) (fun M3 s1 s2 => ⟨_, rfl, ?_⟩)
  have l3 : Lq M M3 (swp (fun z => M 180 (144 + z)) x y) n := Lq_keep l2 (fun q q1 _ _ => s1 q q1) (fun z hz => by rw [s1 154 (by decide)]; exact l2.2.2.2.2.2.2 z hz)
  refine sp_countFull hS l3.2.1 ⟨_, _, rfl, ?_⟩
  rw [lfull_congr (K := nkr (M 180) (swp (fun z => M 180 (144 + z)) x y)) (W := M 175) l3.2.2.2.2.2.1 (fun j hj => ⟨(s2 j hj).trans (Lq_key hs l2 hj), l3.2.2.2.2.1 j hj⟩) n (Nat.le_refl n)]
  refine sp_exch hS hx hy (fun z hz => by rw [l3.2.2.2.2.2.2 z hz]; exact hg2.1 z hz) (fun M4 g3 g4 => ⟨_, rfl, ?_⟩)
  have l4 : Lq M M4 (fun z => M 180 (144 + z)) n := Lq_keep l3 (fun q _ q2 q3 => g3 q q2 q3) (fun z hz => by
    rw [g4 z, ← swp_swp (fun z => M 180 (144 + z)) x y z]
    unfold swp
    rw [l3.2.2.2.2.2.2 x hx, l3.2.2.2.2.2.2 y hy, l3.2.2.2.2.2.2 z hz]
    rfl)
  refine sp_sort hS l4.2.1.1 (Lq_names hs hs.2 l4) (fun M5 s3 s4 => ⟨_, rfl, h M5 ?_⟩)
  exact Lq_keep l4 (fun q q1 _ _ => s3 q q1) (fun z hz => by rw [s3 154 (by decide)]; exact l4.2.2.2.2.2.2 z hz)
theorem bswC_in (hS : KC S) {n : Nat} (hT : Tn M 8 0 n) {p : Int} {u x : Nat} (hx : x < 26) : ∀ (d y : Nat) (M1 : Mem) (st : Int × Int), y + d = 26 → Lq M M1 (fun z => M 180 (144 + z)) n → (∀ M', Lq M M' (fun z => M 180 (144 + z)) n → En 123 19 [some (.inr (.inr 5)), some (.inl p), some (.inl (bsI (bV M n) u x d st).1), some (.inl (bsI (bV M n) u x d st).2), some (.inl (u : Int)), some (.inl ((x + 1 : Nat) : Int)), none, none] [] S M' Q) → En 123 26 [some (.inr (.inr 5)), some (.inl p), some (.inl st.1), some (.inl st.2), some (.inl (u : Int)), some (.inl (x : Int)), some (.inl (y : Int)), none] [] S M1 Q := by
  intro d
  induction d with
  | zero =>
    intro y M1 st hy hl h
    apply r_X8_bestSwap_26 hS
    exact ⟨fun _ => ⟨by unfold inR; omega, h M1 hl⟩, fun z => by omega⟩
  | succ d ih =>
    intro y M1 st hy hl h
    have ey : 25 - d = y := by omega
    have ek : ((y : Int) + 1) = ((y + 1 : Nat) : Int) := by omega
    have go : ∀ (M2 : Mem) (a b : Int), Lq M M2 (fun z => M 180 (144 + z)) n → bstep (bV M n) u x y st = (a, b) → inR ((y + 1 : Nat) : Int) ∧ En 123 26 [some (.inr (.inr 5)), some (.inl p), some (.inl a), some (.inl b), some (.inl (u : Int)), some (.inl (x : Int)), some (.inl ((y + 1 : Nat) : Int)), none] [] S M2 Q := fun M2 a b l2 e => by
      refine ⟨by unfold inR; omega, ih (y + 1) M2 (a, b) (by omega) l2 (fun M' l' => ?_)⟩
      have := h M' l'
      rw [bsI, ey, e] at this
      exact this
    apply r_X8_bestSwap_26 hS
    rw [ek]
    refine ⟨fun z => by omega, fun _ => sp_holds hS (by omega) ⟨_, _, rfl, ?_⟩⟩
    by_cases hb : u.testBit x = true
    · rw [if_pos hb]
      refine ⟨fun z => absurd z (by decide), fun _ => sp_holds hS (by omega) ⟨_, _, rfl, ?_⟩⟩
      by_cases hb2 : u.testBit y = true
      · rw [if_pos hb2]
        refine ⟨fun z => absurd z (by decide), fun _ => sp_cfie hS hT hl hx (by omega) (fun M3 l3 => ⟨_, _, rfl, fun z => go M3 _ _ l3 ?_, fun z => ⟨by unfold inR; omega, by unfold inR; omega, go M3 _ _ l3 ?_⟩⟩)⟩
        · unfold bstep; rw [if_neg (by omega)]
        · unfold bstep; rw [if_pos ⟨hb, hb2, z⟩]
      · rw [if_neg hb2]
        exact ⟨fun _ => go M1 _ _ hl (by unfold bstep; rw [if_neg (fun z => hb2 z.2.1)]), fun z => absurd rfl z⟩
    · rw [if_neg hb]
      exact ⟨fun _ => go M1 _ _ hl (by unfold bstep; rw [if_neg (fun z => hb z.1)]), fun z => absurd rfl z⟩
theorem bsI_4 {V : Nat → Nat → Int} {u x : Nat} : ∀ (d : Nat) (st : Int × Int), b4 st → b4 (bsI V u x d st) := by
  intro d
  induction d with
  | zero => intro st h; exact h
  | succ d ih => intro st h; rw [bsI]; exact ih _ (bstep_4 h)
theorem bswC_out (hS : KC S) {n : Nat} (hT : Tn M 8 0 n) {p : Int} {u : Nat} : ∀ (d x : Nat) (M1 : Mem) (st : Int × Int), x + d = 26 → b4 st → Lq M M1 (fun z => M 180 (144 + z)) n → (∀ M', Lq M M' (fun z => M 180 (144 + z)) n → Q (S, M', some (.inl (bAns p (bsO (bV M n) u d st))))) → En 123 19 [some (.inr (.inr 5)), some (.inl p), some (.inl st.1), some (.inl st.2), some (.inl (u : Int)), some (.inl (x : Int)), none, none] [] S M1 Q := by
  intro d
  induction d with
  | zero =>
    intro x M1 st hx h4 hl h
    apply r_X8_bestSwap_19 hS
    have := h M1 hl
    rw [bsO] at this
    unfold bAns at this
    refine ⟨fun _ => ⟨fun z => ?_, fun z => ?_⟩, fun z => by omega⟩
    · rw [if_pos (by omega)] at this; exact this
    · have q : 0 ≤ st.2 := by rcases h4 with w | w; exact absurd w z; exact w
      rw [if_neg (by omega)] at this
      refine ⟨fun w => ?_, fun w => ?_⟩
      · rw [if_neg w] at this; exact this
      · rw [if_pos w] at this; exact this
  | succ d ih =>
    intro x M1 st hx h4 hl h
    have ex : 25 - d = x := by omega
    apply r_X8_bestSwap_19 hS
    rw [show ((x : Int) + 1) = ((x + 1 : Nat) : Int) by omega]
    refine ⟨fun z => by omega, fun _ => ⟨by unfold inR; omega, bswC_in hS hT (by omega) d (x + 1) M1 st (by omega) hl (fun M' l' => ?_)⟩⟩
    refine ih (x + 1) M' _ (by omega) (bsI_4 d st h4) l' (fun M2 l2 => ?_)
    have := h M2 l2
    rw [bsO, ex] at this
    exact this
theorem fL_loop (hS : KC S) {n : Nat} (hT : Tn M 8 0 n) {M1 : Mem} (e8 : M1 8 = M 8) (e9 : M1 9 = M 9) (e10 : M1 10 = M 10) (h : Q (S, M1, some (.inl (us M n : Int)))) : ∀ (d m : Nat), m + d = n → En 78 4 [some (.inr (.inr 9)), some (.inl (us M m : Int)), some (.inl (m : Int))] [] S M1 Q := by
  have hn8 := hT.1.1
  have hs := Tn_sok hT
  have hn : M1 8 0 = n := by rw [e8]; exact hT.2.1.1
  obtain ⟨t0, t1, t2, -⟩ := Tn_TT hT
  intro d
  induction d with
  | zero =>
    intro m hm
    have e : m = n := by omega
    subst e
    refine r_X7_firstLetters_4 (t := 8) hS (by decide) ?_
    rw [hn]
    exact ⟨fun _ => h, fun z => by omega⟩
  | succ d ih =>
    intro m hm
    have ek : ((m : Int) + 1) = ((m + 1 : Nat) : Int) := by omega
    have nx := ih (m + 1) (by omega)
    rw [us] at nx
    refine r_X7_firstLetters_4 (t := 8) hS (by decide) ?_
    rw [hn, ek]
    have es : M1 (8 + 1) m = M 180 m := by rw [e9]; exact (t1 m (by omega)).1
    have hz0 := (t1 m (by omega)).2
    refine ⟨fun z => by omega, fun _ => sp_isNameless (t := 8) hS (by decide) (by omega) ⟨_, _, rfl, ?_⟩⟩
    rw [es]
    by_cases hz : M 180 m = 0
    · rw [if_pos hz] at nx ⊢
      refine ⟨fun z => absurd z (by decide), fun _ => ⟨by omega, by unfold inR; omega, ?_⟩⟩
      rw [Int.toNat_natCast]
      exact nx
    · rw [if_neg hz] at nx ⊢
      refine ⟨fun _ => sp_first (t := 8) hS (by decide) (by omega) ⟨_, _, rfl, ?_⟩, fun z => absurd rfl z⟩
      have ef : tf M1 8 m = f0 M m := by
        unfold tf f0
        rw [es, if_pos (by omega), e10]
        exact (t2 m 0 (by omega) (by omega)).1
      have hf := f0_ok hs m (by omega) hz
      obtain ⟨p1, p2, p3⟩ := p2_in (v := (f0 M m).toNat) (by omega)
      rw [ef]
      refine ⟨⟨by decide, hf.1, by omega, p2⟩, ⟨by omega, p1⟩, by unfold inR; omega, ?_⟩
      rw [p3, Int.toNat_natCast]
      exact nx
/-- the reference's rows, the slot that is tried aside -/
def Tz (M M1 : Mem) : Prop := (∀ q, q ≠ 180 → q ≠ 183 → M1 q = M q) ∧ (∀ k, k < 1870 → M1 180 k = M 180 k)
theorem Tz_same {M M1 : Mem} (h : Tz M M1) : Same M M1 := fun q k hq => by
  unfold scr at hq
  by_cases h0 : q = 180
  · subst h0; exact h.2 k (by omega)
  · rw [h.1 q h0 (by omega)]
theorem bswM_one (hM : KM S) {n : Nat} (hT : Tn M 8 0 n) {M1 : Mem} (hz : Tz M M1) {x y : Nat} (hx : x < 26) (hy : y < 26) (h : ∀ M', Tz M M' → Q (S, M', some (.inl (bV M n x y)))) : Ca 170 [.inr (.inr 173), .inl (0 : Int), .inl (11 : Int)] S M1 (fun r => ∃ M10 : Mem, r = (S, M10, none) ∧ Ca 185 [.inr (.inr 173), .inl (11 : Int), .inl (x : Int), .inl (y : Int)] S M10 (fun r => ∃ M11 : Mem, r = (S, M11, none) ∧ Ca 164 [.inr (.inr 173), .inl (11 : Int)] S M11 Q)) := by
  have hn8 := hT.1.1
  have hs := Tn_sok hT
  have hg2 := swp_gal hs.2 hx hy
  refine sq_copies hM (a := 0) (b := 11) (by decide) (by decide) (by decide) (fun M2 c2 => ⟨_, rfl, ?_⟩)
  refine sq_swaps hM (s := 11) (by decide) hx hy (fun M3 g1 g2 g3 => ⟨_, rfl, ?_⟩)
  obtain ⟨c1, c3, c4⟩ := c2
  have R : ∀ q, q ≠ 180 → M3 q = M1 q := fun q hq => by rw [g1 q hq, c1 q hq]
  have z3 : Tz M M3 := ⟨fun q q1 q2 => by rw [R q q1]; exact hz.1 q q1 q2, fun k hk => by rw [g3 k (by omega), c4 k (by omega)]; exact hz.2 k hk⟩
  have sz : ∀ k, k < 144 → M3 180 (170 * 11 + k) = M 180 k := fun k hk => by
    rw [g3 _ (by omega), c3 k (by omega), Nat.mul_zero, Nat.zero_add]; exact hz.2 k (by omega)
  have lt : ∀ i k, i < n → k < 6 → M3 180 (170 * 11 + 8 + 6 * i + k) = M 180 (8 + 6 * i + k) := fun i k hi hk => by
    have := sz (8 + 6 * i + k) (by omega)
    rw [← this]; congr 1; omega
  have rk : ∀ z, z < 26 → M3 180 (170 * 11 + 144 + z) = swp (fun z => M 180 (144 + z)) x y z := fun z hz' => by
    rw [g2 z hz']
    have e : ∀ w, w < 26 → M2 180 (170 * 11 + 144 + w) = M 180 (144 + w) := fun w hw => by
      have := c3 (144 + w) (by omega)
      rw [Nat.mul_zero, Nat.zero_add, hz.2 _ (by omega)] at this
      rw [← this]; congr 1; omega
    unfold swp
    simp only [e x hx, e y hy, e z hz']
  have bd : mBnd M3 n := by
    have := Tn_bnd hT
    unfold mBnd
    rw [z3.1 174 (by decide) (by decide), z3.1 175 (by decide) (by decide)]
    exact this
  have mn : mN M3 11 n := by
    refine ⟨fun i hi => ?_, ?_⟩
    · have g := hs.1 i hi
      rw [sz i (by omega)]
      refine ⟨g.1, fun k hk => ?_⟩
      have := g.1
      show 0 ≤ M3 180 (170 * 11 + 8 + 6 * i + k) ∧ M3 180 (170 * 11 + 8 + 6 * i + k) < 26
      rw [lt i k hi (by omega)]
      exact g.2 k hk
    · refine ⟨fun z hz' => ?_, fun z w hz' hw e => ?_⟩
      · show 0 ≤ M3 180 (170 * 11 + 144 + z) ∧ M3 180 (170 * 11 + 144 + z) < 26
        rw [rk z hz']; exact hg2.1 z hz'
      · have e' : M3 180 (170 * 11 + 144 + z) = M3 180 (170 * 11 + 144 + w) := e
        rw [rk z hz', rk w hw] at e'
        exact hg2.2 z w hz' hw e'
  refine sq_morning hM (s := 11) (by decide) bd mn (fun M4 m1 _ => ?_)
  have z4 : Tz M M4 := ⟨fun q q1 q2 => by rw [m1 q q2]; exact z3.1 q q1 q2, fun k hk => by rw [m1 180 (by decide)]; exact z3.2 k hk⟩
  have ek : ∀ i, i < n → mK M3 11 i = nkr (M 180) (swp (fun z => M 180 (144 + z)) x y) i := fun i hi => by
    have g1 := (hs.1 i hi).1
    exact gkeyOf_congr (hs.1 i hi) (sz i (by omega)) (fun k hk => lt i k hi (by omega)) (fun z hz' => rk z hz')
  rw [lfull_congr (K := nkr (M 180) (swp (fun z => M 180 (144 + z)) x y)) (W := M 175) (g := M 174 1) (by rw [z3.1 174 (by decide) (by decide)]) (fun j hj => ⟨ek j hj, by rw [z3.1 175 (by decide) (by decide)]⟩) n (Nat.le_refl n)]
  exact h M4 z4
theorem bswM_in (hM : KM S) {n : Nat} (hT : Tn M 8 0 n) {p : Int} {u x : Nat} (hx : x < 26) : ∀ (d y : Nat) (M1 : Mem) (st : Int × Int), y + d = 26 → Tz M M1 → (∀ M', Tz M M' → En 208 44 [some (.inr (.inr 173)), some (.inl p), some (.inl (bsI (bV M n) u x d st).1), some (.inl (bsI (bV M n) u x d st).2), some (.inl (u : Int)), some (.inl ((x + 1 : Nat) : Int)), none, none] [] S M' Q) → En 208 51 [some (.inr (.inr 173)), some (.inl p), some (.inl st.1), some (.inl st.2), some (.inl (u : Int)), some (.inl (x : Int)), some (.inl (y : Int)), none] [] S M1 Q := by
  intro d
  induction d with
  | zero =>
    intro y M1 st hy hl h
    apply r_X9_bestSwap_51 hM
    exact ⟨fun _ => ⟨by unfold inR; omega, h M1 hl⟩, fun z => by omega⟩
  | succ d ih =>
    intro y M1 st hy hl h
    have ey : 25 - d = y := by omega
    have ek : ((y : Int) + 1) = ((y + 1 : Nat) : Int) := by omega
    have go : ∀ (M2 : Mem) (a b : Int), Tz M M2 → bstep (bV M n) u x y st = (a, b) → inR ((y + 1 : Nat) : Int) ∧ En 208 51 [some (.inr (.inr 173)), some (.inl p), some (.inl a), some (.inl b), some (.inl (u : Int)), some (.inl (x : Int)), some (.inl ((y + 1 : Nat) : Int)), none] [] S M2 Q := fun M2 a b l2 e => by
      refine ⟨by unfold inR; omega, ih (y + 1) M2 (a, b) (by omega) l2 (fun M' l' => ?_)⟩
      have := h M' l'
      rw [bsI, ey, e] at this
      exact this
    apply r_X9_bestSwap_51 hM
    rw [ek, Int.toNat_natCast, Int.toNat_natCast]
    refine ⟨fun z => by omega, fun _ => ⟨by omega, _, np_and1 u x, ?_⟩⟩
    by_cases hb : u.testBit x = true
    · rw [if_pos hb]
      refine ⟨fun z => absurd rfl z, fun _ => ⟨by omega, _, np_and1 u y, ?_⟩⟩
      by_cases hb2 : u.testBit y = true
      · rw [if_pos hb2]
        refine ⟨fun z => absurd rfl z, fun _ => bswM_one hM hT hl hx (by omega) (fun M3 l3 => ⟨_, _, rfl, fun z => ⟨fun _ => go M3 _ _ l3 ?_, fun w => by omega⟩, fun z => ⟨by unfold inR; omega, by unfold inR; omega, fun w => by omega, fun _ => go M3 _ _ l3 ?_⟩⟩)⟩
        · unfold bstep; rw [if_neg (by omega)]
        · unfold bstep; rw [if_pos ⟨hb, hb2, z⟩]
      · rw [if_neg hb2]
        exact ⟨fun _ => go M1 _ _ hl (by unfold bstep; rw [if_neg (fun z => hb2 z.2.1)]), fun z => absurd z (by decide)⟩
    · rw [if_neg hb]
      exact ⟨fun _ => go M1 _ _ hl (by unfold bstep; rw [if_neg (fun z => hb z.1)]), fun z => absurd z (by decide)⟩
theorem bswM_out (hM : KM S) {n : Nat} (hT : Tn M 8 0 n) {p : Int} {u : Nat} : ∀ (d x : Nat) (M1 : Mem) (st : Int × Int), x + d = 26 → Tz M M1 → (∀ M', Tz M M' → Q (S, M', some (.inl (bAns p (bsO (bV M n) u d st))))) → En 208 44 [some (.inr (.inr 173)), some (.inl p), some (.inl st.1), some (.inl st.2), some (.inl (u : Int)), some (.inl (x : Int)), none, none] [] S M1 Q := by
  intro d
  induction d with
  | zero =>
    intro x M1 st hx hl h
    apply r_X9_bestSwap_44 hM
    have := h M1 hl
    rw [bsO] at this
    unfold bAns at this
    refine ⟨fun _ => ⟨fun z => ?_, fun z => ?_⟩, fun z => by omega⟩
    · rw [if_pos z] at this; exact this
    · rw [if_neg (by omega)] at this
      refine ⟨fun w => ?_, fun w => ?_⟩
      · rw [if_neg w] at this; exact this
      · rw [if_pos w] at this; exact this
  | succ d ih =>
    intro x M1 st hx hl h
    have ex : 25 - d = x := by omega
    apply r_X9_bestSwap_44 hM
    rw [show ((x : Int) + 1) = ((x + 1 : Nat) : Int) by omega]
    refine ⟨fun z => by omega, fun _ => ⟨by unfold inR; omega, bswM_in hM hT (by omega) d (x + 1) M1 st (by omega) hl (fun M' l' => ?_)⟩⟩
    refine ih (x + 1) M' _ (by omega) l' (fun M2 l2 => ?_)
    have := h M2 l2
    rw [bsO, ex] at this
    exact this
theorem bswM_us (hM : KM S) {n : Nat} (hT : Tn M 8 0 n) {M1 : Mem} (hz : Tz M M1) {p v w : Int} (h : En 208 44 [some (.inr (.inr 173)), some (.inl p), some (.inl v), some (.inl w), some (.inl (us M n : Int)), some (.inl (0 : Int)), none, none] [] S M1 Q) : ∀ (d m : Nat), m + d = n → En 208 18 [some (.inr (.inr 173)), some (.inl p), some (.inl v), some (.inl w), some (.inl (us M m : Int)), some (.inl (m : Int)), none, none] [] S M1 Q := by
  have hn8 := hT.1.1
  have hs := Tn_sok hT
  have hn : M1 174 (0 : Int).toNat = n := by rw [hz.1 174 (by decide) (by decide)]; exact hT.2.1.2.1
  intro d
  induction d with
  | zero =>
    intro m hm
    have e : m = n := by omega
    subst e
    apply r_X9_bestSwap_18 hM
    rw [hn]
    exact ⟨by decide, fun _ => h, fun z => by omega⟩
  | succ d ih =>
    intro m hm
    have ek : ((m : Int) + 1) = ((m + 1 : Nat) : Int) := by omega
    have nx := ih (m + 1) (by omega)
    rw [us] at nx
    apply r_X9_bestSwap_18 hM
    rw [hn, ek]
    have emf : mf M1 0 m = if M 180 m = 0 then -4 else f0 M m := by
      unfold mf f0
      rw [hz.2 _ (by omega), hz.2 _ (by omega)]
      simp
    refine ⟨by decide, fun z => by omega, fun _ => sq_first (s := 0) hM (by decide) (by omega) ⟨_, _, rfl, ?_⟩⟩
    rw [emf]
    by_cases hz' : M 180 m = 0
    · rw [if_pos hz'] at nx ⊢
      refine ⟨fun z => absurd z (by decide), fun _ => ⟨by omega, by unfold inR; omega, ?_⟩⟩
      rw [Int.toNat_natCast]
      exact nx
    · rw [if_neg hz'] at nx ⊢
      have hf := f0_ok hs m (by omega) hz'
      obtain ⟨p1, p2, p3⟩ := p2_in (v := (f0 M m).toNat) (by omega)
      refine ⟨fun _ => sq_first (s := 0) hM (by decide) (by omega) ⟨_, _, rfl, ?_⟩, fun z => by omega⟩
      rw [emf, if_neg hz']
      refine ⟨⟨by decide, hf.1, by omega, p2⟩, ⟨by omega, p1⟩, by unfold inR; omega, ?_⟩
      rw [p3, Int.toNat_natCast]
      exact nx
theorem sim_bestSwap (hS : KC S) (hM : KM S) (hR : Rel M) (p : Int) : Sim S M 123 208 [.inl p] := by
  obtain ⟨n, hT, -⟩ := id hR
  have hn8 := hT.1.1
  have hn : M 8 0 = n := hT.2.1.1
  by_cases hp : 0 ≤ p ∧ p ≤ 1
  · refine Sim.query2 hR (bAns p (bsO (bV M n) (us M n) 26 (lfull (mK M 0) (M 175) (M 174 1) n n, -4))) (fun Q h => ?_) (fun M1 s1 k1 hR1 Q h => ?_)
    · apply r_X8_bestSwap_0 hS
      refine ⟨fun z => by omega, fun _ => ⟨fun _ => sp_lineNow hS hn (Tn_names hT) (fun M1 hl => ⟨_, rfl, ?_⟩), fun z => by omega⟩⟩
      have l := Lr_LN hT hl
      obtain ⟨c1, c2, c3, c4, -⟩ := LN_S hT hl
      refine sp_countFull hS c1 ⟨_, _, rfl, ?_⟩
      rw [lfull_congr c4 (fun j hj => ⟨c2 j hj, c3 j hj⟩) n (Nat.le_refl n)]
      refine r_X7_firstLetters_0 (t := 8) hS (by decide) (fL_loop hS hT (l.1 8 (by decide)) (l.1 9 (by decide)) (l.1 10 (by decide)) ⟨_, _, rfl, ?_⟩ n 0 (by omega))
      refine bswC_out hS hT 26 0 M1 (lfull (mK M 0) (M 175) (M 174 1) n n, -4) rfl (Or.inl rfl) ⟨l.1, l.2.1, l.2.2.2.1, fun i k hi hk => ?_, l.2.2.2.2.2.1, l.2.2.2.2.2.2.1.1, l.2.2.2.2.2.2.2.1⟩ (fun M' l' => h M' (fun q k hq => by
        have : q < 145 ∨ 156 < q := by unfold scr at hq; omega
        rw [l'.1 q this]) (fun q hq => l'.1 q (by omega)))
      rw [l.2.2.2.2.1 i k hi hk]
      exact congrFun (fl_id (fun k => M 180 (8 + 6 * i + k))) k
    · have hT1 := Rel_n hT s1 hR1
      have e180 := k1 180 (by decide)
      have e174 := k1 174 (by decide)
      have e175 := k1 175 (by decide)
      have eV : bV M1 n = bV M n := by funext x y; unfold bV; rw [e180, e174, e175]
      have eu : ∀ m, us M1 m = us M m := fun m => by
        induction m with
        | zero => rfl
        | succ m ih => rw [us, us, ih, e180, f0_row k1]
      apply r_X9_bestSwap_0 hM
      refine sq_in hM ⟨_, _, rfl, ?_⟩
      rw [if_pos hp]
      refine ⟨fun _ => sq_morning hM (s := 0) (by decide) (Tn_bnd hT1) (Tn_mN hT1) (fun M2 g1 _ => ⟨_, _, rfl, ?_⟩), fun z => absurd z (by decide)⟩
      have z2 : Tz M1 M2 := ⟨fun q _ q2 => g1 q q2, fun k _ => by rw [g1 180 (by decide)]⟩
      rw [e174, e175, mK_same e180 0]
      refine bswM_us hM hT1 z2 ?_ n 0 (by omega)
      refine bswM_out hM hT1 26 0 M2 (lfull (mK M 0) (M 175) (M 174 1) n n, -4) rfl z2 (fun M' z' => ?_)
      rw [eV, eu]
      exact h M' (Tz_same z')
  · refine Sim.query2 hR (-1) (fun Q h => ?_) (fun M1 s1 k1 hR1 Q h => ?_)
    · apply r_X8_bestSwap_0 hS
      exact ⟨fun z => h M (Same.refl M) (fun _ _ => rfl), fun _ => ⟨fun z => by omega, fun z => h M (Same.refl M) (fun _ _ => rfl)⟩⟩
    · apply r_X9_bestSwap_0 hM
      refine sq_in hM ⟨_, _, rfl, ?_⟩
      rw [if_neg hp]
      exact ⟨fun z => absurd rfl z, fun _ => h M1 (Same.refl M1)⟩
end BSwap
