/-! WHO IS WHO: ways by a search, and by counting -/
def rset (R : Nat → Nat) (d i : Nat) : Nat → Nat := fun k => if k = d then i else R k
def nin (R : Nat → Nat) (i : Nat) : Nat → Bool
  | 0 => true
  | k + 1 => nin R i k && decide (R k ≠ i)
theorem nin_iff {R : Nat → Nat} {i : Nat} : ∀ d, nin R i d = true ↔ ∀ k, k < d → R k ≠ i := by
  intro d
  induction d with
  | zero => exact ⟨fun _ k h => by omega, fun _ => rfl⟩
  | succ d ih =>
    rw [nin, Bool.and_eq_true, ih, decide_eq_true_eq]
    constructor
    · rintro ⟨h1, h2⟩ k hk
      by_cases hkd : k = d
      · rw [hkd]; exact h2
      · exact h1 k (by omega)
    · intro h; exact ⟨fun k hk => h k (by omega), h d (by omega)⟩
theorem nin_set {R : Nat → Nat} {d j i : Nat} : ∀ m, m ≤ d → nin (rset R d j) i m = nin R i m := by
  intro m
  induction m with
  | zero => intro _; rfl
  | succ m ih =>
    intro h
    rw [nin, nin, ih (by omega)]
    have : rset R d j m = R m := if_neg (by omega)
    rw [this]
def okb (ca : Nat → Nat → Bool) (d : Nat) (R : Nat → Nat) (i : Nat) : Bool := ca d i && nin R i d
def fc (ca : Nat → Nat → Bool) (n L : Nat) : Nat → (Nat → Nat) → Int
  | 0, _ => 1
  | e + 1, R => sumB (okb ca (L - (e + 1)) R) (fun i => fc ca n L e (rset R (L - (e + 1)) i)) n
def orB (p : Nat → Bool) (f : Nat → Nat) : Nat → Nat
  | 0 => 0
  | m + 1 => orB p f m ||| (if p m = true then f m else 0)
theorem orB_bit {p : Nat → Bool} {f : Nat → Nat} {b : Nat} : ∀ m, (orB p f m).testBit b = true ↔ ∃ i, i < m ∧ p i = true ∧ (f i).testBit b = true := by
  intro m
  induction m with
  | zero => rw [orB, Nat.zero_testBit]; exact ⟨fun h => (by cases h), fun ⟨i, h, _⟩ => (by omega)⟩
  | succ m ih =>
    rw [orB, Nat.testBit_or, Bool.or_eq_true, ih]
    constructor
    · rintro (⟨i, h1, h2, h3⟩ | h)
      · exact ⟨i, by omega, h2, h3⟩
      · by_cases hp : p m = true
        · rw [if_pos hp] at h; exact ⟨m, by omega, hp, h⟩
        · rw [if_neg hp, Nat.zero_testBit] at h; cases h
    · rintro ⟨i, h1, h2, h3⟩
      by_cases him : i = m
      · subst him; right; rw [if_pos h2]; exact h3
      · exact Or.inl ⟨i, by omega, h2, h3⟩
def lb (w : Int) (R : Nat → Nat) : Nat := if w < 0 then 0 else 2 ^ R w.toNat
def fr (ca : Nat → Nat → Bool) (n L : Nat) (w : Int) : Nat → (Nat → Nat) → Nat
  | 0, R => lb w R
  | e + 1, R => orB (okb ca (L - (e + 1)) R) (fun i => fr ca n L w e (rset R (L - (e + 1)) i)) n
/-- how many can be of a row; how many rows above are alike; what is left -/
def cnd (ca : Nat → Nat → Bool) (n d : Nat) : Int := cntB (ca d) n
def alk (al : Nat → Nat → Bool) (d : Nat) : Int := cntB (fun k => al k d) d
def fac (ca al : Nat → Nat → Bool) (n d : Nat) : Int := if 0 < cnd ca n d - alk al d then cnd ca n d - alk al d else 0
def sp (ca al : Nat → Nat → Bool) (n L : Nat) : Nat → Int
  | 0 => 1
  | e + 1 => fac ca al n (L - (e + 1)) * sp ca al n L e
def pw (ca al : Nat → Nat → Bool) (n : Nat) : Nat → Int
  | 0 => 1
  | r + 1 => pw ca al n r * fac ca al n r
/-- rows of one kind have the same persons; a person is of one kind -/
def kind (ca al : Nat → Nat → Bool) (n L : Nat) : Prop := (∀ k d i, k < L → d < L → i < n → ca k i = true → (al k d = true ↔ ca d i = true)) ∧ (∀ k d, al k d = true → ∀ i, ca k i = ca d i) ∧ (∀ a b c, al a b = true → (al c a = al c b)) ∧ (∀ a b, al a b = true → al b a = true)
def vld (ca : Nat → Nat → Bool) (n : Nat) (R : Nat → Nat) (d : Nat) : Prop := ∀ k, k < d → R k < n ∧ ca k (R k) = true ∧ ∀ j, j < k → R j ≠ R k
theorem sumB_const {p : Nat → Bool} {W : Nat → Int} {c : Int} : ∀ m, (∀ i, i < m → p i = true → W i = c) → sumB p W m = cntB p m * c := by
  intro m
  induction m with
  | zero => intro _; rw [sumB, cntB]; simp
  | succ m ih =>
    intro h
    rw [sumB, cntB, ih (fun i hi => h i (by omega)), Int.add_mul]
    by_cases hp : p m = true
    · rw [if_pos hp, if_pos hp, h m (by omega) hp]; simp
    · rw [if_neg hp, if_neg hp]; simp
theorem cnt_ok {ca al : Nat → Nat → Bool} {n L d : Nat} {R : Nat → Nat} (hk : kind ca al n L) (hd : d < L) (hv : vld ca n R d) : cntB (okb ca d R) n = cnd ca n d - alk al d := by
  have step : ∀ j, j ≤ d → cntB (fun i => ca d i && nin R i j) n = cnd ca n d - cntB (fun k => al k d) j := by
    intro j
    induction j with
    | zero =>
      intro _
      rw [cntB, Int.sub_zero]
      exact cntB_eq n (fun k _ => by simp [nin])
    | succ j ih =>
      intro hj
      have ih := ih (by omega)
      obtain ⟨v1, v2, v3⟩ := hv j (by omega)
      rw [cntB]
      have kk := hk.1 j d (R j) (by omega) hd v1 v2
      by_cases ha : al j d = true
      · rw [if_pos ha]
        have := cntB_one (p := fun i => ca d i && nin R i (j + 1)) (q := fun i => ca d i && nin R i j) (i := R j) (by simp [nin]) (by
          have a := kk.mp ha
          have b : nin R (R j) j = true := (nin_iff j).mpr v3
          simp [a, b]) n v1 (fun k _ hkn => by
          have : R j ≠ k := fun z => hkn z.symm
          simp [nin, this])
        omega
      · rw [if_neg ha]
        have hc : ca d (R j) = false := by
          cases h : ca d (R j)
          · rfl
          · exact absurd (kk.mpr h) ha
        have := cntB_eq (p := fun i => ca d i && nin R i (j + 1)) (q := fun i => ca d i && nin R i j) n (fun k _ => by
          by_cases hkn : R j = k
          · rw [← hkn]; simp [hc]
          · simp [nin, hkn])
        omega
  exact step d (Nat.le_refl d)
theorem vld_set {ca : Nat → Nat → Bool} {n d i : Nat} {R : Nat → Nat} (hv : vld ca n R d) (hi : i < n) (ho : okb ca d R i = true) : vld ca n (rset R d i) (d + 1) := by
  unfold okb at ho
  rw [Bool.and_eq_true, nin_iff] at ho
  intro k hk
  by_cases hkd : k = d
  · subst hkd
    have e : rset R k i k = i := if_pos rfl
    rw [e]
    refine ⟨hi, ho.1, fun j hj => ?_⟩
    have e2 : rset R k i j = R j := if_neg (by omega)
    rw [e2]; exact ho.2 j hj
  · have e : rset R d i k = R k := if_neg hkd
    obtain ⟨a, b, c⟩ := hv k (by omega)
    rw [e]
    refine ⟨a, b, fun j hj => ?_⟩
    have e2 : rset R d i j = R j := if_neg (by omega)
    rw [e2]; exact c j hj
theorem fc_sp {ca al : Nat → Nat → Bool} {n L : Nat} (hk : kind ca al n L) : ∀ (e : Nat) (R : Nat → Nat), e ≤ L → vld ca n R (L - e) → fc ca n L e R = sp ca al n L e := by
  intro e
  induction e with
  | zero => intro R _ _; rfl
  | succ e ih =>
    intro R he hv
    have hd : L - (e + 1) < L := by omega
    have hc := cnt_ok hk hd hv
    have h0 := (cntB_in (p := okb ca (L - (e + 1)) R) n).1
    rw [fc, sp, sumB_const (c := sp ca al n L e) n (fun i hi ho => ih _ (by omega) (by
      have := vld_set hv hi ho
      rw [show L - (e + 1) + 1 = L - e by omega] at this
      exact this)), hc]
    unfold fac
    split
    · rfl
    · have : cnd ca n (L - (e + 1)) - alk al (L - (e + 1)) = 0 := by omega
      rw [this]
theorem fac_in {ca al : Nat → Nat → Bool} {n d : Nat} (hn : n ≤ 8) : 0 ≤ fac ca al n d ∧ fac ca al n d ≤ 8 := by
  have a := cntB_in (p := ca d) n
  have b := cntB_in (p := fun k => al k d) d
  unfold fac cnd alk
  split <;> omega
theorem pow8 : ∀ e : Nat, e ≤ 8 → 8 ^ e ≤ 16777216 := by decide
theorem pw_in {ca al : Nat → Nat → Bool} {n : Nat} (hn : n ≤ 8) : ∀ r, 0 ≤ pw ca al n r ∧ pw ca al n r ≤ ((8 ^ r : Nat) : Int) := by
  intro r
  induction r with
  | zero => rw [pw]; simp
  | succ r ih =>
    have f := fac_in (ca := ca) (al := al) (n := n) (d := r) hn
    rw [pw, Nat.pow_succ]
    refine ⟨Int.mul_nonneg ih.1 f.1, ?_⟩
    have : pw ca al n r * fac ca al n r ≤ ((8 ^ r : Nat) : Int) * 8 := Int.mul_le_mul ih.2 f.2 f.1 (by omega)
    rw [Int.natCast_mul]
    exact this
theorem pw_sp {ca al : Nat → Nat → Bool} {n L : Nat} : ∀ e, e ≤ L → pw ca al n L = pw ca al n (L - e) * sp ca al n L e := by
  intro e
  induction e with
  | zero => intro _; rw [sp, Int.mul_one]; rfl
  | succ e ih =>
    intro he
    rw [ih (by omega), show L - e = (L - (e + 1)) + 1 by omega, pw, sp, Int.mul_assoc]
theorem fc_nn {ca : Nat → Nat → Bool} {n L : Nat} : ∀ (e : Nat) (R : Nat → Nat), 0 ≤ fc ca n L e R := by
  intro e
  induction e with
  | zero => intro R; rw [fc]; decide
  | succ e ih =>
    intro R
    rw [fc]
    have : ∀ m, 0 ≤ sumB (okb ca (L - (e + 1)) R) (fun i => fc ca n L e (rset R (L - (e + 1)) i)) m := fun m => by
      induction m with
      | zero => exact Int.le_refl 0
      | succ m ihm => rw [sumB]; have := ih (rset R (L - (e + 1)) m); split <;> omega
    exact this n
/-- all of a row's persons, where there is a way -/
theorem cntB_ex {p : Nat → Bool} : ∀ m, 1 ≤ cntB p m → ∃ i, i < m ∧ p i = true := by
  intro m
  induction m with
  | zero => intro h; rw [cntB] at h; omega
  | succ m ih =>
    intro h
    by_cases hp : p m = true
    · exact ⟨m, by omega, hp⟩
    · rw [cntB, if_neg hp] at h
      obtain ⟨i, h1, h2⟩ := ih (by omega)
      exact ⟨i, by omega, h2⟩
theorem cntB_ex2 {p : Nat → Bool} {b : Nat} {m : Nat} (h : 2 ≤ cntB p m) : ∃ i, i < m ∧ p i = true ∧ i ≠ b := by
  have : 1 ≤ cntB (fun i => p i && decide (i ≠ b)) m := by
    by_cases hb : b < m ∧ p b = true
    · have := cntB_one (p := fun i => p i && decide (i ≠ b)) (q := p) (i := b) (by simp) hb.2 m hb.1 (fun k _ hk => by simp [hk])
      omega
    · have := cntB_eq (p := fun i => p i && decide (i ≠ b)) (q := p) m (fun k hk => by
        by_cases hkb : k = b
        · subst hkb
          have : p k = false := by
            cases h2 : p k
            · rfl
            · exact absurd ⟨hk, h2⟩ hb
          simp [this]
        · simp [hkb])
      omega
  obtain ⟨i, h1, h2⟩ := cntB_ex m this
  simp at h2
  exact ⟨i, h1, h2.1, h2.2⟩
theorem cntB_add {p : Nat → Bool} {a : Nat} : ∀ b, a ≤ b → cntB p a ≤ cntB p b := by
  intro b
  induction b with
  | zero => intro h; have : a = 0 := by omega
            subst this; exact Int.le_refl _
  | succ b ih =>
    intro h
    by_cases hab : a = b + 1
    · rw [hab]; exact Int.le_refl _
    · have := ih (by omega)
      rw [cntB]; split <;> omega
theorem fr_bits {ca al : Nat → Nat → Bool} {n L w : Nat} (hk : kind ca al n L) (hw : w < L) (hp : ∀ r, r < L → 1 ≤ cnd ca n r - alk al r) : ∀ (e : Nat) (R : Nat → Nat), e ≤ L → vld ca n R (L - e) → (w < L - e → fr ca n L (w : Int) e R = 2 ^ R w) ∧ (L - e ≤ w → ∀ b, (fr ca n L (w : Int) e R).testBit b = true ↔ (b < n ∧ ca w b = true ∧ ∀ k, k < L - e → R k ≠ b)) := by
  intro e
  induction e with
  | zero =>
    intro R _ _
    refine ⟨fun _ => ?_, fun h => by omega⟩
    rw [fr]
    unfold lb
    rw [if_neg (by omega), Int.toNat_natCast]
  | succ e ih =>
    intro R he hv
    have hd : L - (e + 1) < L := by omega
    have ed : L - e = L - (e + 1) + 1 := by omega
    have hc := cnt_ok hk hd hv
    have hpd := hp _ hd
    have sub : ∀ i, i < n → okb ca (L - (e + 1)) R i = true → vld ca n (rset R (L - (e + 1)) i) (L - e) := fun i hi ho => by
      rw [ed]; exact vld_set hv hi ho
    obtain ⟨d, hdd⟩ : ∃ d, d = L - (e + 1) := ⟨_, rfl⟩
    rw [← hdd] at hd ed hc hpd sub hv ⊢
    have rs : ∀ i k, k ≠ d → rset R d i k = R k := fun i k h => if_neg h
    have rd : ∀ i, rset R d i d = i := fun i => if_pos rfl
    refine ⟨fun hwd => set_ext (fun b => ?_), fun hwd b => ?_⟩
    · rw [fr, ← hdd, Bool.eq_iff_iff, orB_bit]
      have each : ∀ i, i < n → okb ca d R i = true → fr ca n L (w : Int) e (rset R d i) = 2 ^ R w := fun i hi ho => by
        rw [(ih _ (by omega) (sub i hi ho)).1 (by omega), rs i w (by omega)]
      constructor
      · rintro ⟨i, hi, ho, h⟩
        rw [each i hi ho] at h; exact h
      · intro h
        obtain ⟨i, hi, ho⟩ := cntB_ex (p := okb ca d R) n (by omega)
        exact ⟨i, hi, ho, by rw [each i hi ho]; exact h⟩
    · rw [fr, ← hdd, orB_bit]
      by_cases hwe : w = d
      · subst hwe
        have each : ∀ i, i < n → okb ca w R i = true → fr ca n L (w : Int) e (rset R w i) = 2 ^ i := fun i hi ho => by
          rw [(ih _ (by omega) (sub i hi ho)).1 (by omega), rd i]
        constructor
        · rintro ⟨i, hi, ho, h⟩
          rw [each i hi ho, Nat.testBit_two_pow] at h
          have : i = b := of_decide_eq_true h
          subst this
          unfold okb at ho
          rw [Bool.and_eq_true, nin_iff] at ho
          exact ⟨hi, ho.1, ho.2⟩
        · rintro ⟨hb, h1, h2⟩
          have ho : okb ca w R b = true := by unfold okb; rw [Bool.and_eq_true, nin_iff]; exact ⟨h1, h2⟩
          exact ⟨b, hb, ho, by rw [each b hb ho, Nat.testBit_two_pow]; simp⟩
      · have each : ∀ i, i < n → okb ca d R i = true → ((fr ca n L (w : Int) e (rset R d i)).testBit b = true ↔ (b < n ∧ ca w b = true ∧ (∀ k, k < d → R k ≠ b) ∧ i ≠ b)) := fun i hi ho => by
          rw [(ih _ (by omega) (sub i hi ho)).2 (by omega), ed]
          constructor
          · rintro ⟨h1, h2, h3⟩
            refine ⟨h1, h2, fun k hk => ?_, ?_⟩
            · have := h3 k (by omega); rw [rs i k (by omega)] at this; exact this
            · have := h3 d (by omega); rw [rd i] at this; exact this
          · rintro ⟨h1, h2, h3, h4⟩
            refine ⟨h1, h2, fun k hk => ?_⟩
            by_cases hkd : k = d
            · rw [hkd, rd i]; exact h4
            · rw [rs i k hkd]; exact h3 k (by omega)
        constructor
        · rintro ⟨i, hi, ho, h⟩
          have := (each i hi ho).mp h
          exact ⟨this.1, this.2.1, this.2.2.1⟩
        · rintro ⟨h1, h2, h3⟩
          have pick : ∃ i, i < n ∧ okb ca d R i = true ∧ i ≠ b := by
            by_cases hcb : ca d b = true
            · have ha : al d w = true := (hk.1 d w b hd hw h1 hcb).mpr h2
              have e1 : cnd ca n w = cnd ca n d := cntB_eq n (fun k _ => (hk.2.1 d w ha k).symm)
              have e2 : alk al d + 1 ≤ alk al w := by
                have a := cntB_add (p := fun k => al k w) (a := d + 1) w (by omega)
                have b' : cntB (fun k => al k w) (d + 1) = cntB (fun k => al k w) d + 1 := by rw [cntB, if_pos ha]
                have c := cntB_eq (p := fun k => al k d) (q := fun k => al k w) d (fun k _ => hk.2.2.1 d w k ha)
                unfold alk
                omega
              have := hp w hw
              exact cntB_ex2 (by omega)
            · obtain ⟨i, hi, ho⟩ := cntB_ex (p := okb ca d R) n (by omega)
              refine ⟨i, hi, ho, fun z => hcb ?_⟩
              subst z
              unfold okb at ho
              rw [Bool.and_eq_true] at ho
              exact ho.1
          obtain ⟨i, hi, ho, hib⟩ := pick
          exact ⟨i, hi, ho, (each i hi ho).mpr ⟨h1, h2, h3, hib⟩⟩
theorem sp_pos {ca al : Nat → Nat → Bool} {n : Nat} (hn : n ≤ 8) : ∀ r, pw ca al n r ≠ 0 → ∀ k, k < r → 1 ≤ cnd ca n k - alk al k := by
  intro r
  induction r with
  | zero => intro _ k h; omega
  | succ r ih =>
    intro h k hk
    rw [pw] at h
    have h1 : pw ca al n r ≠ 0 := fun z => h (by rw [z, Int.zero_mul])
    have h2 : fac ca al n r ≠ 0 := fun z => h (by rw [z, Int.mul_zero])
    by_cases hkr : k = r
    · subst hkr
      unfold fac at h2
      split at h2
      · omega
      · exact absurd rfl h2
    · exact ih h1 k (by omega)
