/-! FIRST LETTERS CHANGED: the line's copy against the slot that is tried -/
def fl (lt : Nat → Int) (x : Int) : Nat → Int := fun k => if k = 0 then x else lt k
/-- the key of i by first letters f -/
def nk (σ f : Nat → Int) (i : Nat) : Int := gkeyOf (σ i) (fl (fun k => σ (8 + 6 * i + k)) (f i)) (fun x => σ (144 + x))
/-- first letters that are right -/
def fok (σ f : Nat → Int) (n : Nat) : Prop := ∀ i, i < n → σ i ≠ 0 → 0 ≤ f i ∧ f i < 26
def fset (f : Nat → Int) (i : Nat) (x : Int) : Nat → Int := fun j => if j = i then x else f j
theorem fl_gok {sz : Int} {lt : Nat → Int} (h : gok sz lt) {x : Int} (hx : sz ≠ 0 → 0 ≤ x ∧ x < 26) : gok sz (fl lt x) := by
  refine ⟨h.1, fun k hk => ?_⟩
  have h0 := h.1
  unfold fl
  split
  · exact hx (by omega)
  · exact h.2 k hk
theorem gtk_fl {sz : Int} {lt rk : Nat → Int} {x : Int} {k : Nat} (hk : k ≠ 0) : gtk sz (fl lt x) rk k = gtk sz lt rk k := by
  have e : gtl sz (fl lt x) k = gtl sz lt k := by unfold gtl fl; rw [if_neg hk]
  unfold gtk; rw [e]
theorem gsuf_fl {sz : Int} {lt rk : Nat → Int} {x : Int} : ∀ d, d ≤ 5 → gsuf sz (fl lt x) rk d = gsuf sz lt rk d := by
  intro d
  induction d with
  | zero => intro _; rfl
  | succ d ih => intro h; rw [gsuf, gsuf, gtk_fl (by omega), ih (by omega)]
theorem gkey_fl {sz : Int} {lt rk : Nat → Int} (h : gok sz lt) (ha : gal rk) (hz : sz ≠ 0) {x : Int} (hx : 0 ≤ x ∧ x < 26) : gkeyOf sz (fl lt x) rk = gkeyOf sz lt rk % 14348907 + (rk x.toNat + 1) * 14348907 := by
  have h0 := h.1
  have e1 : gkeyOf sz (fl lt x) rk = gsuf sz (fl lt x) rk 6 := by unfold gkeyOf; rw [if_neg hz, gkey_6]
  have e2 : gkeyOf sz lt rk = gsuf sz lt rk 6 := by unfold gkeyOf; rw [if_neg hz, gkey_6]
  have g := fl_gok h (x := x) (fun _ => hx)
  have t1 : gtk sz (fl lt x) rk 0 = rk x.toNat + 1 := (gtk_lt g ha (k := 0) (by omega)).1
  have s := gsuf_in h ha 5
  have p : (27 : Int) ^ 5 = 14348907 := by decide
  have e6 : ∀ l, gsuf sz l rk 6 = gtk sz l rk 0 * 27 ^ 5 + gsuf sz l rk 5 := fun _ => rfl
  rw [e1, e2, e6, e6, gsuf_fl 5 (by decide), t1, p]
  rw [p] at s
  omega
theorem fl_fl (lt : Nat → Int) (a b : Int) : fl (fl lt a) b = fl lt b := by
  funext k
  unfold fl
  split <;> rfl
theorem fl_id (lt : Nat → Int) : fl lt (lt 0) = lt := by
  funext k
  unfold fl
  split
  · rename_i h; rw [h]
  · rfl
theorem fset_at (f : Nat → Int) (i : Nat) (x : Int) : fset f i x i = x := if_pos rfl
theorem fset_ne (f : Nat → Int) (x : Int) {i j : Nat} (h : j ≠ i) : fset f i x j = f j := if_neg h
theorem fset_fset (f : Nat → Int) (i : Nat) (x y : Int) : fset (fset f i x) i y = fset f i y := by
  funext j
  unfold fset
  split <;> rfl
theorem fset_id (f : Nat → Int) (i : Nat) : fset f i (f i) = f := by
  funext j
  unfold fset
  split
  · rename_i h; rw [h]
  · rfl
theorem nk_ne {σ f : Nat → Int} {x : Int} {i j : Nat} (h : j ≠ i) : nk σ (fset f i x) j = nk σ f j := by unfold nk; rw [fset_ne f x h]
theorem fok_set {σ f : Nat → Int} {n i : Nat} {x : Int} (h : fok σ f n) (hx : 0 ≤ x ∧ x < 26) : fok σ (fset f i x) n := fun j hj hz => by
  by_cases hji : j = i
  · subst hji; rw [fset_at]; exact hx
  · rw [fset_ne f x hji]; exact h j hj hz
/-- names and alphabet of the reference's first slot -/
def sok (σ : Nat → Int) (n : Nat) : Prop := (∀ i, i < n → gok (σ i) (fun k => σ (8 + 6 * i + k))) ∧ gal (fun x => σ (144 + x))
theorem Tn_sok {M : Mem} {n : Nat} (h : Tn M 8 0 n) : sok (M 180) n := ⟨fun i hi => by simpa using Tn_gok h hi, by simpa using Tn_gal h⟩
theorem nk_lkx {σ f : Nat → Int} {n i x : Nat} (hs : sok σ n) (hf : fok σ f n) (hi : i < n) (hz : σ i ≠ 0) (hx : x < 26) : nk σ (fset f i (x : Int)) i = lkx (nk σ f) (fun x => σ (144 + x)) i x := by
  have g := fl_gok (hs.1 i hi) (x := f i) (fun _ => hf i hi hz)
  have := gkey_fl g hs.2 hz (x := (x : Int)) (by omega)
  rw [fl_fl, Int.toNat_natCast] at this
  unfold lkx nk
  rw [fset_at]
  exact this
theorem nk_in {σ f : Nat → Int} {n i : Nat} (hs : sok σ n) (hf : fok σ f n) (hi : i < n) : 0 ≤ nk σ f i := (gkeyOf_in (fl_gok (hs.1 i hi) (x := f i) (fun hz => hf i hi hz)) hs.2).1
/-- the letters of ranks, and what one gains by a letter -/
def pord (M : Mem) : Nat → Nat := fun r => (M 17 r).toNat
def pg (M : Mem) (f : Nat → Int) (n i : Nat) (x : Nat) : Int := lget (M 175 i) (M 174 1 - lsum (nk (M 180) (fset f i (x : Int))) (M 175) i (nk (M 180) (fset f i (x : Int)) i) n) - (if (x : Int) = f i then 0 else M 174 3)
theorem lsum_skip {K K' W : Nat → Int} {i : Nat} {key : Int} : ∀ m, (∀ j, j < m → j ≠ i → K' j = K j) → lsum K' W i key m = lsum K W i key m := by
  intro m
  induction m with
  | zero => intro _; rfl
  | succ m ih =>
    intro h
    rw [lsum, lsum, ih (fun j hj => h j (by omega))]
    by_cases hm : m = i
    · have a : lbefD K' i key m = false := by unfold lbefD; simp [hm]
      have b : lbefD K i key m = false := by unfold lbefD; simp [hm]
      rw [a, b]
    · rw [lbefD_congr (h m (by omega) hm)]
theorem lbest_congr {g g' : Nat → Int} {o o' : Nat → Nat} (hg : ∀ x, x < 26 → g x = g' x) (ho : ∀ r, r < 26 → o r = o' r ∧ o r < 26) : ∀ r, r < 26 → lbest g o r = lbest g' o' r := by
  intro r
  induction r with
  | zero => intro _; have := ho 0 (by decide); rw [lbest, lbest, ← this.1, hg _ this.2]
  | succ r ih => intro h; have := ho (r + 1) h; rw [lbest, lbest, ih (by omega), ← this.1, hg _ this.2]
theorem Tn_ord {M : Mem} {n : Nat} (h : Tn M 8 0 n) {r : Nat} (hr : r < 26) : (0 ≤ M 17 r ∧ M 17 r < 26) ∧ pord M r < 26 ∧ M 180 (144 + pord M r) = r := by
  obtain ⟨t0, t1, t2, t3, t4, t5, t6, t7, t8, t9, t10⟩ := Tn_TT h
  have a := t10 r hr
  have b := t8 (M 17 r).toNat (by omega)
  refine ⟨⟨a.1, a.2.1⟩, by unfold pord; omega, ?_⟩
  unfold pord
  rw [← b]
  exact a.2.2
/-! the slot that is tried: slot 0 with other first letters -/
def Tr (M M1 : Mem) (f : Nat → Int) : Prop := (∀ q, q ≠ 180 → q ≠ 183 → q ≠ 172 → M1 q = M q) ∧ (∀ k, k ≠ 24 → M1 172 k = M 172 k) ∧ (∀ k, k < 1870 → M1 180 k = M 180 k) ∧ (∀ k, k < 170 → (k < 8 ∨ 56 ≤ k) → M1 180 (1870 + k) = M 180 k) ∧ (∀ i k, i < 8 → k < 6 → M1 180 (1878 + 6 * i + k) = fl (fun k => M 180 (8 + 6 * i + k)) (f i) k)
theorem Tr_same {M M1 : Mem} {f : Nat → Int} (h : Tr M M1 f) : Same M M1 := fun q k hq => by
  unfold scr at hq
  by_cases h0 : q = 180
  · subst h0; exact h.2.2.1 k (by omega)
  · by_cases h2 : q = 172
    · subst h2; exact h.2.1 k (by omega)
    · rw [h.1 q h0 (by omega) h2]
theorem Tr_up {M M1 : Mem} {f : Nat → Int} (h : Tr M M1 f) {i : Nat} (hi : i < 8) (x : Int) : Tr M (up2 M1 180 (1878 + 6 * i) x) (fset f i x) := by
  obtain ⟨h1, h2, h3, h4, h5⟩ := h
  refine ⟨fun q q1 q2 q3 => by rw [up2_row _ _ _ _ q1]; exact h1 q q1 q2 q3, fun k hk => by rw [up2_row _ _ _ _ (by decide)]; exact h2 k hk, fun k hk => by rw [up2_any, if_neg (by omega)]; exact h3 k hk, fun k hk hk2 => by rw [up2_any, if_neg (by omega)]; exact h4 k hk hk2, fun j k hj hk => ?_⟩
  rw [up2_any]
  by_cases hji : j = i
  · subst hji
    rw [fset_at]
    by_cases hk0 : k = 0
    · subst hk0; rw [if_pos ⟨rfl, rfl⟩]; rfl
    · rw [if_neg (by omega), h5 j k hj hk]
      unfold fl
      rw [if_neg hk0, if_neg hk0]
  · rw [if_neg (by omega), fset_ne f x hji]; exact h5 j k hj hk
theorem Tr_g {M M1 M2 : Mem} {f : Nat → Int} (h : Tr M M1 f) (h2 : ∀ q, q ≠ 183 → M2 q = M1 q) : Tr M M2 f := by
  obtain ⟨a1, a2, a3, a4, a5⟩ := h
  have e0 := h2 180 (by decide)
  have e2 := h2 172 (by decide)
  exact ⟨fun q q1 q2 q3 => by rw [h2 q q2]; exact a1 q q1 q2 q3, fun k hk => by rw [e2]; exact a2 k hk, fun k hk => by rw [e0]; exact a3 k hk, fun k hk hk2 => by rw [e0]; exact a4 k hk hk2, fun j k hj hk => by rw [e0]; exact a5 j k hj hk⟩
theorem Tr_w {M M1 : Mem} {f : Nat → Int} (h : Tr M M1 f) (v : Int) : Tr M (up2 M1 172 24 v) f := by
  obtain ⟨a1, a2, a3, a4, a5⟩ := h
  exact ⟨fun q q1 q2 q3 => by rw [up2_row _ _ _ _ q3]; exact a1 q q1 q2 q3, fun k hk => by rw [up2_off _ _ _ _ hk]; exact a2 k hk, fun k hk => by rw [up2_row _ _ _ _ (by decide)]; exact a3 k hk, fun k hk hk2 => by rw [up2_row _ _ _ _ (by decide)]; exact a4 k hk hk2, fun j k hj hk => by rw [up2_row _ _ _ _ (by decide)]; exact a5 j k hj hk⟩
/-- first letters as they are -/
def f0 (M : Mem) : Nat → Int := fun i => M 180 (8 + 6 * i)
theorem Tr_cp {M M1 : Mem} (h : mCp M M1 0 11) : Tr M M1 (f0 M) := by
  obtain ⟨h1, h2, h3⟩ := h
  refine ⟨fun q q1 _ _ => h1 q q1, fun k _ => by rw [h1 172 (by decide)], fun k hk => h3 k (by omega), fun k hk _ => by simpa using h2 k hk, fun i k hi hk => ?_⟩
  have := h2 (8 + 6 * i + k) (by omega)
  have e : (170 * 11 + (8 + 6 * i + k)) = 1878 + 6 * i + k := by omega
  rw [e] at this
  rw [this, Nat.mul_zero, Nat.zero_add]
  exact (congrFun (fl_id (fun k => M 180 (8 + 6 * i + k))) k).symm
theorem Tr_sz {M M1 : Mem} {f : Nat → Int} (h : Tr M M1 f) {i : Nat} (hi : i < 8) : M1 180 (170 * 11 + i) = M 180 i := h.2.2.2.1 i (by omega) (by omega)
theorem Tr_lt {M M1 : Mem} {f : Nat → Int} (h : Tr M M1 f) {i k : Nat} (hi : i < 8) (hk : k < 6) : M1 180 (170 * 11 + 8 + 6 * i + k) = fl (fun k => M 180 (8 + 6 * i + k)) (f i) k := h.2.2.2.2 i k hi hk
theorem Tr_rk {M M1 : Mem} {f : Nat → Int} (h : Tr M M1 f) {x : Nat} (hx : x < 26) : M1 180 (170 * 11 + 144 + x) = M 180 (144 + x) := by
  have := h.2.2.2.1 (144 + x) (by omega) (by omega)
  rw [← this]
  congr 1
  omega
theorem Tr_mN {M M1 : Mem} {f : Nat → Int} {n : Nat} (hn : n ≤ 8) (hs : sok (M 180) n) (hf : fok (M 180) f n) (h : Tr M M1 f) : mN M1 11 n := by
  refine ⟨fun i hi => ?_, ?_⟩
  · have g := fl_gok (hs.1 i hi) (x := f i) (fun hz => hf i hi hz)
    rw [Tr_sz h (by omega)]
    refine ⟨g.1, fun k hk => ?_⟩
    have := g.1
    show 0 ≤ M1 180 (170 * 11 + 8 + 6 * i + k) ∧ M1 180 (170 * 11 + 8 + 6 * i + k) < 26
    rw [Tr_lt h (by omega) (by omega)]
    exact g.2 k hk
  · refine ⟨fun x hx => ?_, fun x y hx hy e => ?_⟩
    · show 0 ≤ M1 180 (170 * 11 + 144 + x) ∧ M1 180 (170 * 11 + 144 + x) < 26
      rw [Tr_rk h hx]; exact hs.2.1 x hx
    · have e' : M1 180 (170 * 11 + 144 + x) = M1 180 (170 * 11 + 144 + y) := e
      rw [Tr_rk h hx, Tr_rk h hy] at e'
      exact hs.2.2 x y hx hy e'
theorem Tr_mK {M M1 : Mem} {f : Nat → Int} {n : Nat} (hn : n ≤ 8) (hs : sok (M 180) n) (hf : fok (M 180) f n) (h : Tr M M1 f) {i : Nat} (hi : i < n) : mK M1 11 i = nk (M 180) f i := by
  have g := fl_gok (hs.1 i hi) (x := f i) (fun hz => hf i hi hz)
  have g1 := g.1
  exact gkeyOf_congr g (Tr_sz h (by omega)) (fun k hk => Tr_lt h (by omega) (by omega)) (fun x hx => Tr_rk h hx)
theorem Tr_mf {M M1 : Mem} {f : Nat → Int} (h : Tr M M1 f) {i : Nat} (hi : i < 8) : mf M1 11 i = if M 180 i = 0 then -4 else f i := by
  unfold mf
  rw [Tr_sz h hi]
  have : M1 180 (170 * 11 + 8 + 6 * i) = f i := Tr_lt h hi (k := 0) (by decide)
  rw [this]
theorem Tr_bnd {M M1 : Mem} {f : Nat → Int} {n : Nat} (hT : Tn M 8 0 n) (h : Tr M M1 f) : mBnd M1 n := by
  have := Tn_bnd hT
  unfold mBnd
  rw [h.1 174 (by decide) (by decide) (by decide), h.1 175 (by decide) (by decide) (by decide)]
  exact this
section Tried
variable {S : Shp} {M : Mem} {Q : Res → Prop}
theorem pg_in {n : Nat} (hT : Tn M 8 0 n) {f : Nat → Int} {i : Nat} (hi : i < n) (x : Nat) : -9 ≤ pg M f n i x ∧ pg M f n i x ≤ 9 := by
  have hw : 0 ≤ M 175 i ∧ M 175 i ≤ 9 := (Tn_bnd hT).2.2.2 i hi
  have hc : 0 ≤ M 174 3 ∧ M 174 3 ≤ 9 := hT.2.2.2.2.1.2
  have := lget_in (l := M 174 1 - lsum (nk (M 180) (fset f i (x : Int))) (M 175) i (nk (M 180) (fset f i (x : Int)) i) n) hw
  unfold pg
  split <;> omega
theorem bF_loop (hM : KM S) {n : Nat} (hT : Tn M 8 0 n) {f : Nat → Int} (hf : fok (M 180) f n) {i : Nat} (hi : i < n) (h : ∀ M', Tr M M' f → M' 172 24 = (lbest (pg M f n i) (pord M) 25).2 → Q (S, M', some (.inl ((lbest (pg M f n i) (pord M) 25).1 : Int)))) : ∀ (d r : Nat) (Mr : Mem) (x3 y : Int), r + d = 26 → (0 ≤ y ∧ y < 26) → Tr M Mr (fset f i y) → ((r = 0 ∧ x3 = -4) ∨ (∃ r', r = r' + 1 ∧ x3 = ((lbest (pg M f n i) (pord M) r').1 : Int) ∧ Mr 172 24 = (lbest (pg M f n i) (pord M) r').2)) → En 189 9 [some (.inr (.inr 173)), some (.inl (i : Int)), some (.inl (f i)), some (.inl x3), some (.inl (r : Int)), none, none] [] S Mr Q := by
  have hn8 := hT.1.1
  have hs := Tn_sok hT
  have e1 : ((1878 : Int) + (6 : Int) * i).toNat = 1878 + 6 * i := by omega
  intro d
  induction d with
  | zero =>
    intro r Mr x3 y hr hy ht hx
    have e : r = 26 := by omega
    subst e
    apply r_X9_bestFirst_9 hM
    rw [e1]
    refine ⟨fun _ => ⟨by unfold inR; omega, by unfold inR; omega, by omega, ?_⟩, fun z => by omega⟩
    rcases hx with ⟨q, -⟩ | ⟨r', q, q1, q2⟩
    · omega
    · have : r' = 25 := by omega
      subst this
      rw [q1]
      have t2 := Tr_up ht (i := i) (by omega) (f i)
      rw [fset_fset, fset_id] at t2
      exact h _ t2 (by rw [up2_row _ _ _ _ (by decide)]; exact q2)
  | succ d ih =>
    intro r Mr x3 y hr hy ht hx
    have ho := Tn_ord hT (r := r) (by omega)
    have fk : fok (M 180) (fset f i y) n := fok_set hf hy
    apply r_X9_bestFirst_9 hM
    rw [e1]
    refine ⟨fun z => by omega, fun _ => ?_⟩
    refine sq_letterOf hM (s := 11) (x := pord M r) (by decide) ho.2.1 (Tr_mN hn8 hs fk ht).2 (by rw [Tr_rk ht ho.2.1]; exact ho.2.2) ⟨_, _, rfl, by unfold inR; omega, by unfold inR; omega, by omega, ?_⟩
    have t1 := Tr_up ht (i := i) (by omega) ((pord M r : Nat) : Int)
    rw [fset_fset] at t1
    have fk1 : fok (M 180) (fset f i ((pord M r : Nat) : Int)) n := fok_set hf (by omega)
    obtain ⟨M4, hM4⟩ : ∃ z, z = up2 Mr 180 (1878 + 6 * i) ((pord M r : Nat) : Int) := ⟨_, rfl⟩
    rw [← hM4] at t1 ⊢
    have w24 : M4 172 = Mr 172 := by rw [hM4, up2_row _ _ _ _ (by decide)]
    refine sq_morning hM (s := 11) (by decide) (Tr_bnd hT t1) (Tr_mN hn8 hs fk1 t1) (fun M9 g1 g2 => ⟨_, _, rfl, fun _ => ?_, fun z => ?_⟩)
    · have t9 := Tr_g t1 g1
      have hg : M9 183 i - (if ((pord M r : Nat) : Int) = f i then 0 else M 174 3) = pg M f n i (pord M r) := by
        rw [g2 i hi]
        unfold mget pg
        rw [t1.1 175 (by decide) (by decide) (by decide), t1.1 174 (by decide) (by decide) (by decide), lsum_congr (K := nk (M 180) (fset f i ((pord M r : Nat) : Int))) (W := M 175) n (fun j hj => ⟨Tr_mK hn8 hs fk1 t1 hj, rfl⟩), Tr_mK hn8 hs fk1 t1 hi]
      have hb := pg_in hT (f := f) hi (pord M r)
      have e3 : M9 174 (3 : Int).toNat = M 174 3 := by rw [t9.1 174 (by decide) (by decide) (by decide)]; rfl
      have w9 : M9 172 24 = Mr 172 24 := by rw [g1 172 (by decide), w24]
      rw [e3, Int.toNat_natCast, w9]
      have nxt : ∀ (x3' : Int) (M5 : Mem), Tr M M5 (fset f i ((pord M r : Nat) : Int)) → x3' = ((lbest (pg M f n i) (pord M) r).1 : Int) → M5 172 24 = (lbest (pg M f n i) (pord M) r).2 → inR ((r : Int) + 1) ∧ En 189 9 [some (.inr (.inr 173)), some (.inl (i : Int)), some (.inl (f i)), some (.inl x3'), some (.inl ((r : Int) + 1)), none, none] [] S M5 Q := fun x3' M5 t5 a1 a2 => by
        refine ⟨by unfold inR; omega, ?_⟩
        have := ih (r + 1) M5 x3' _ (by omega) (by omega) t5 (Or.inr ⟨r, rfl, a1, a2⟩)
        rw [show ((r : Int) + 1) = ((r + 1 : Nat) : Int) by omega]
        exact this
      have all : ∀ w : Int, w = pg M f n i (pord M r) → ((x3 < 0 → (inR ((r : Int) + 1)) ∧ En 189 9 [some (.inr (.inr 173)), some (.inl (i : Int)), some (.inl (f i)), some (.inl ((pord M r : Nat) : Int)), some (.inl ((r : Int) + 1)), none, none] [] S (up2 M9 172 24 w) Q) ∧ (0 ≤ x3 → ((w ≤ (Mr 172 24) → (inR ((r : Int) + 1)) ∧ En 189 9 [some (.inr (.inr 173)), some (.inl (i : Int)), some (.inl (f i)), some (.inl x3), some (.inl ((r : Int) + 1)), none, none] [] S M9 Q) ∧ ((Mr 172 24) < w → (inR ((r : Int) + 1)) ∧ En 189 9 [some (.inr (.inr 173)), some (.inl (i : Int)), some (.inl (f i)), some (.inl ((pord M r : Nat) : Int)), some (.inl ((r : Int) + 1)), none, none] [] S (up2 M9 172 24 w) Q)))) := fun w hw => by
        rcases hx with ⟨q0, q1⟩ | ⟨r', q0, q1, q2⟩
        · subst q0
          refine ⟨fun _ => nxt _ _ (Tr_w t9 w) rfl (by rw [up2_get, hw]; rfl), fun z => by omega⟩
        · subst q0
          refine ⟨fun z => by omega, fun _ => ⟨fun z => nxt _ _ t9 ?_ ?_, fun z => nxt _ _ (Tr_w t9 w) ?_ ?_⟩⟩
          · rw [lbest, if_neg (by omega)]; exact q1
          · rw [lbest, if_neg (by omega), w9]; exact q2
          · rw [lbest, if_pos (by omega)]
          · rw [lbest, if_pos (by omega), up2_get]; exact hw
      refine ⟨by omega, fun z => ⟨by decide, ?_, ?_⟩, fun z => ⟨?_, ?_⟩⟩
      · rw [if_neg z] at hg; unfold inR; omega
      · rw [if_neg z] at hg; exact all _ hg
      · rw [if_pos z] at hg; unfold inR; omega
      · rw [if_pos z] at hg; exact all _ hg
    · have := lfull_in (K := mK M4 11) (W := M4 175) (goods := M4 174 1) (n := n) n
      omega
theorem sq_bestFirst (hM : KM S) {n : Nat} (hT : Tn M 8 0 n) {f : Nat → Int} (hf : fok (M 180) f n) {i : Nat} (hi : i < n) (hz : M 180 i ≠ 0) {M1 : Mem} (ht : Tr M M1 f) (h : ∀ M', Tr M M' f → M' 172 24 = (lbest (pg M f n i) (pord M) 25).2 → Q (S, M', some (.inl ((lbest (pg M f n i) (pord M) 25).1 : Int)))) : Ca 189 [.inr (.inr 173), .inl (i : Int)] S M1 Q := by
  have hn8 := hT.1.1
  apply r_X9_bestFirst_0 hM
  refine sq_first hM (s := 11) (by decide) (by omega) ⟨_, _, rfl, ?_⟩
  rw [Tr_mf ht (by omega), if_neg hz]
  have hy := hf i hi hz
  exact bF_loop hM hT hf hi h 26 0 M1 (-4) (f i) rfl hy (by rw [fset_id]; exact ht) (Or.inl ⟨rfl, rfl⟩)
end Tried
