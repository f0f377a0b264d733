/-! PAYMENTS: the most groups that clear, as a function of a set -/
def gmx (A : Nat → Int) (s : Nat) : Nat → Int
  | 0 => 0
  | i + 1 => if s.testBit i = true ∧ gmx A s i < A (del s i) then A (del s i) else gmx A s i
def gRec (c : Nat → Bool) (A : Nat → Int) (s : Nat) : Int := if s = 0 then 0 else gmx A s 8 + (if c s = true then 1 else 0)
def gTab (c : Nat → Bool) : Nat → (Nat → Int)
  | 0 => fun _ => 0
  | m + 1 => fun s => if s = m then gRec c (gTab c m) m else gTab c m s
def gV (c : Nat → Bool) (s : Nat) : Int := gTab c (s + 1) s
theorem gTab_lt {c : Nat → Bool} {s : Nat} : ∀ m, s < m → gTab c m s = gV c s := by
  intro m
  induction m with
  | zero => intro h; omega
  | succ m ih =>
    intro h
    by_cases hs : s = m
    · subst hs; rfl
    · rw [gTab]
      show (if s = m then _ else gTab c m s) = _
      rw [if_neg hs]; exact ih (by omega)
theorem gmx_congr {A B : Nat → Int} {s : Nat} (h : ∀ i, s.testBit i = true → A (del s i) = B (del s i)) : ∀ m, gmx A s m = gmx B s m := by
  intro m
  induction m with
  | zero => rfl
  | succ m ih =>
    rw [gmx, gmx, ih]
    by_cases hb : s.testBit m = true
    · rw [h m hb]
    · rw [if_neg (fun z => hb z.1), if_neg (fun z => hb z.1)]
theorem gV_0 (c : Nat → Bool) : gV c 0 = 0 := rfl
theorem gV_s {c : Nat → Bool} {s : Nat} (h0 : s ≠ 0) : gV c s = gmx (gV c) s 8 + (if c s = true then 1 else 0) := by
  have e : gV c s = gRec c (gTab c s) s := by
    show (if s = s then gRec c (gTab c s) s else _) = _
    rw [if_pos rfl]
  rw [e]
  unfold gRec
  rw [if_neg h0, gmx_congr (B := gV c) (fun i hi => gTab_lt s (del_lt hi))]
theorem gmx_top {A : Nat → Int} {s n : Nat} (h : s < 2 ^ n) : ∀ e, gmx A s (n + e) = gmx A s n := by
  intro e
  induction e with
  | zero => rfl
  | succ e ih =>
    rw [← Nat.add_assoc, gmx, ih, if_neg]
    intro z
    rw [big_bit h (by omega)] at z
    exact absurd z.1 (by decide)
theorem gV_n {c : Nat → Bool} {s n : Nat} (hn : n ≤ 8) (h : s < 2 ^ n) (h0 : s ≠ 0) : gV c s = gmx (gV c) s n + (if c s = true then 1 else 0) := by
  have := gmx_top (A := gV c) h (8 - n)
  rw [show n + (8 - n) = 8 by omega] at this
  rw [gV_s h0, this]
theorem gmx_ge {A : Nat → Int} {s i : Nat} (hi : s.testBit i = true) : ∀ m, i < m → A (del s i) ≤ gmx A s m := by
  intro m
  induction m with
  | zero => intro h; omega
  | succ m ih =>
    intro h
    rw [gmx]
    by_cases him : i = m
    · subst him
      split
      · exact Int.le_refl _
      · rename_i z
        have : ¬ gmx A s i < A (del s i) := fun q => z ⟨hi, q⟩
        omega
    · have := ih (by omega)
      split <;> omega
theorem gmx_is {A : Nat → Int} {s : Nat} : ∀ m, gmx A s m = 0 ∨ ∃ i, i < m ∧ s.testBit i = true ∧ gmx A s m = A (del s i) := by
  intro m
  induction m with
  | zero => exact Or.inl rfl
  | succ m ih =>
    rw [gmx]
    split
    · rename_i z; exact Or.inr ⟨m, by omega, z.1, rfl⟩
    · rcases ih with q | ⟨i, hi, q, q2⟩
      · exact Or.inl q
      · exact Or.inr ⟨i, by omega, q, q2⟩
theorem gmx_0 {A : Nat → Int} {s : Nat} : ∀ m, 0 ≤ gmx A s m := by
  intro m
  induction m with
  | zero => exact Int.le_refl 0
  | succ m ih => rw [gmx]; split <;> omega
theorem gV_in (c : Nat → Bool) : ∀ m s, s < m → 0 ≤ gV c s ∧ gV c s ≤ s := by
  intro m
  induction m with
  | zero => intro s h; omega
  | succ m ih =>
    intro s hs
    by_cases h0 : s = 0
    · subst h0; rw [gV_0]; omega
    · rw [gV_s h0]
      have a := gmx_0 (A := gV c) (s := s) 8
      rcases gmx_is (A := gV c) (s := s) 8 with q | ⟨i, hi, hb, q⟩
      · split <;> omega
      · have b := ih (del s i) (by have := del_lt hb; omega)
        have d := del_lt hb
        split <;> omega
theorem gV_b {c : Nat → Bool} {s : Nat} (h : s < 256) : 0 ≤ gV c s ∧ gV c s ≤ 255 := by
  have := gV_in c (s + 1) s (by omega)
  omega
/-- the sum of a set -/
def sS (V : Nat → Int) (n s : Nat) : Int := sumB (fun i => s.testBit i) V n
theorem cntB_one {p q : Nat → Bool} {i : Nat} (hp : p i = false) (hq : q i = true) : ∀ m, i < m → (∀ k, k < m → k ≠ i → p k = q k) → cntB q m = cntB p m + 1 := by
  intro m
  induction m with
  | zero => intro h; omega
  | succ m ih =>
    intro hi h
    rw [cntB, cntB]
    by_cases him : i = m
    · subst him
      have h1 := cntB_eq (p := p) (q := q) i (fun k hk => h k (by omega) (by omega))
      rw [h1, if_pos hq, if_neg (by rw [hp]; decide)]; omega
    · have h1 := ih (by omega) (fun k hk => h k (by omega))
      rw [h1, h m (by omega) (fun z => him z.symm)]; omega
theorem cntB_pos {p : Nat → Bool} {i : Nat} (hp : p i = true) : ∀ m, i < m → 1 ≤ cntB p m := by
  intro m
  induction m with
  | zero => intro h; omega
  | succ m ih =>
    intro hi
    rw [cntB]
    by_cases him : i = m
    · subst him
      have := cntB_in (p := p) i
      rw [if_pos hp]; omega
    · have := ih (by omega)
      split <;> omega
/-- how many in a set have nothing to clear -/
def zc (V : Nat → Int) (n s : Nat) : Int := cntB (fun i => s.testBit i && decide (V i = 0)) n
/-- those who have something to clear -/
def nzs (V : Nat → Int) (n : Nat) : Nat := wl (fun i => decide (V i ≠ 0)) n
def c1 (V : Nat → Int) (n : Nat) (s : Nat) : Bool := decide (sS V n s = 0)
def c2 (V : Nat → Int) (n : Nat) (s : Nat) : Bool := decide (sS V n s = 0 ∧ s ^^^ (s &&& nzs V n) = 0)
theorem nzs_bit {V : Nat → Int} {n i : Nat} (hi : i < n) : (nzs V n).testBit i = decide (V i ≠ 0) := by
  unfold nzs
  rw [wl_bit]
  simp [hi]
theorem sS_and {V : Nat → Int} {n s : Nat} : sS V n (s &&& nzs V n) = sS V n s := by
  unfold sS
  have : ∀ m, m ≤ n → sumB (fun i => (s &&& nzs V n).testBit i) V m = sumB (fun i => s.testBit i) V m := by
    intro m
    induction m with
    | zero => intro _; rfl
    | succ m ih =>
      intro hm
      rw [sumB, sumB, ih (by omega)]
      rw [Nat.testBit_and, nzs_bit (by omega)]
      by_cases hv : V m = 0
      · rw [hv]; simp
      · simp [hv]
  exact this n (Nat.le_refl n)
theorem pay_1 {V : Nat → Int} {n : Nat} : ∀ m t, t < m → t &&& nzs V n = t → gV (c1 V n) t = gV (c2 V n) t := by
  intro m
  induction m with
  | zero => intro t h; omega
  | succ m ih =>
    intro t ht hs
    by_cases h0 : t = 0
    · subst h0; rfl
    · rw [gV_s h0, gV_s h0]
      have e : c1 V n t = c2 V n t := by unfold c1 c2; rw [hs, Nat.xor_self]; simp
      rw [e, gmx_congr (B := gV (c2 V n)) (fun i hi => ih (del t i) (by have := del_lt hi; omega) (set_ext (fun k => ?_)))]
      have hk := congrArg (fun z => z.testBit k) hs
      simp only [Nat.testBit_and] at hk
      rw [Nat.testBit_and, del_bit]
      cases hb : t.testBit k
      · simp
      · rw [hb] at hk
        simp at hk
        simp [hk]
theorem zc_del {V : Nat → Int} {n s i : Nat} (hi : i < n) (hb : s.testBit i = true) : zc V n s = zc V n (del s i) + (if V i = 0 then 1 else 0) := by
  unfold zc
  by_cases hv : V i = 0
  · rw [if_pos hv]
    refine cntB_one (i := i) ?_ ?_ n hi (fun k _ hk => ?_)
    · rw [del_bit]; simp
    · simp [hb, hv]
    · rw [del_bit]; simp [hk]
  · rw [if_neg hv, Int.add_zero]
    refine cntB_eq n (fun k _ => ?_)
    rw [del_bit]
    by_cases hk : k = i
    · subst hk; simp [hv]
    · simp [hk]
theorem pay_2 {V : Nat → Int} {n : Nat} (hn : n ≤ 8) : ∀ m s, s < m → s < 2 ^ n → gV (c1 V n) s = gV (c1 V n) (s &&& nzs V n) + zc V n s := by
  intro m
  induction m with
  | zero => intro s h; omega
  | succ m ih =>
    intro s hm hs
    have bn : ∀ i, s.testBit i = true → i < n := fun i hi => by
      by_cases q : i < n
      · exact q
      · rw [big_bit hs (by omega)] at hi; cases hi
    by_cases hz : ∃ p, s.testBit p = true ∧ V p = 0
    · obtain ⟨p, hp, hvp⟩ := hz
      have h0 : s ≠ 0 := fun z => by subst z; rw [Nat.zero_testBit] at hp; cases hp
      obtain ⟨t, ht⟩ : ∃ t, t = s &&& nzs V n := ⟨_, rfl⟩
      have tb : ∀ i, i < n → t.testBit i = (s.testBit i && decide (V i ≠ 0)) := fun i hi => by rw [ht, Nat.testBit_and, nzs_bit hi]
      have hc : c1 V n t = c1 V n s := by unfold c1; rw [ht, sS_and]
      have t0 : 0 ≤ gV (c1 V n) t := (gV_in _ (t + 1) t (by omega)).1
      have zpos : 1 ≤ zc V n s := cntB_pos (i := p) (by simp [hp, hvp]) n (bn p hp)
      -- one less, of whom nothing is to clear
      have d0 : ∀ i, s.testBit i = true → V i = 0 → gV (c1 V n) (del s i) = gV (c1 V n) t + zc V n s - 1 := fun i hi hv => by
        have hlt := del_lt hi
        have e := ih (del s i) (by omega) (by omega)
        have e2 : del s i &&& nzs V n = t := by
          rw [ht]
          refine set_ext (fun k => ?_)
          rw [Nat.testBit_and, Nat.testBit_and, del_bit]
          by_cases hk : k = i
          · subst hk; rw [nzs_bit (bn k hi)]; simp [hv]
          · simp [hk]
        have e3 := zc_del (V := V) (bn i hi) hi
        rw [if_pos hv] at e3
        rw [e2] at e
        omega
      have d1 : ∀ i, s.testBit i = true → V i ≠ 0 → gV (c1 V n) (del s i) = gV (c1 V n) (del t i) + zc V n s ∧ t.testBit i = true := fun i hi hv => by
        have hlt := del_lt hi
        have e := ih (del s i) (by omega) (by omega)
        have e2 : del s i &&& nzs V n = del t i := by
          rw [ht]
          refine set_ext (fun k => ?_)
          rw [Nat.testBit_and, del_bit, del_bit, Nat.testBit_and]
          cases s.testBit k <;> cases (nzs V n).testBit k <;> simp
        have e3 := zc_del (V := V) (bn i hi) hi
        rw [if_neg hv] at e3
        rw [e2] at e
        exact ⟨by omega, by rw [tb i (bn i hi)]; simp [hi, hv]⟩
      rw [← ht, gV_s h0]
      have gp := gmx_ge (A := gV (c1 V n)) hp 8 (by have := bn p hp; omega)
      have dp := d0 p hp hvp
      by_cases hb : c1 V n s = true
      · rw [if_pos hb]
        rcases gmx_is (A := gV (c1 V n)) (s := s) 8 with q | ⟨i, hi, hbi, q⟩
        · omega
        · by_cases hv : V i = 0
          · have := d0 i hbi hv; omega
          · have a := d1 i hbi hv
            have tn : t ≠ 0 := fun z => by rw [z, Nat.zero_testBit] at a; exact absurd a.2 (by decide)
            have gt := gV_s (c := c1 V n) tn
            rw [hc, if_pos hb] at gt
            have ge := gmx_ge (A := gV (c1 V n)) a.2 8 hi
            omega
      · rw [if_neg hb, Int.add_zero]
        have tn : t ≠ 0 := fun z => by
          apply hb
          rw [← hc, z]
          unfold c1 sS
          have : ∀ m, sumB (fun i => Nat.testBit 0 i) V m = 0 := fun m => by
            induction m with
            | zero => rfl
            | succ m ih => rw [sumB, ih, Nat.zero_testBit]; rfl
          rw [this n]; rfl
        have gt := gV_s (c := c1 V n) tn
        rw [hc, if_neg hb, Int.add_zero] at gt
        have ge : ∀ i, t.testBit i = true → gV (c1 V n) t + zc V n s ≤ gmx (gV (c1 V n)) s 8 ∨ gV (c1 V n) (del t i) < gV (c1 V n) t := fun i hi => by
          have hin : i < n := by
            by_cases q : i < n
            · exact q
            · have := Nat.and_le_left (n := s) (m := nzs V n)
              rw [big_bit (n := n) (by omega) (by omega)] at hi; cases hi
          have hi2 := tb i hin
          rw [hi] at hi2
          have hi3 : s.testBit i = true ∧ V i ≠ 0 := by
            have := hi2.symm
            simp at this
            exact this
          have a := d1 i hi3.1 hi3.2
          have b := gmx_ge (A := gV (c1 V n)) hi3.1 8 (by omega)
          have f := gmx_ge (A := gV (c1 V n)) hi 8 (by omega)
          by_cases q : gV (c1 V n) (del t i) < gV (c1 V n) t
          · exact Or.inr q
          · exact Or.inl (by omega)
        have lower : gV (c1 V n) t + zc V n s ≤ gmx (gV (c1 V n)) s 8 := by
          rcases gmx_is (A := gV (c1 V n)) (s := t) 8 with q | ⟨i, hi, hbi, q⟩
          · obtain ⟨i, hi⟩ : ∃ i, t.testBit i = true := by
              by_cases hex : ∃ i, t.testBit i = true
              · exact hex
              · exact absurd (set_ext (fun k => by
                  rw [Nat.zero_testBit]
                  cases hk : t.testBit k
                  · rfl
                  · exact absurd ⟨k, hk⟩ hex)) tn
            rcases ge i hi with w | w
            · exact w
            · have := (gV_in (c1 V n) (del t i + 1) (del t i) (by omega)).1
              omega
          · rcases ge i hbi with w | w
            · exact w
            · omega
        rcases gmx_is (A := gV (c1 V n)) (s := s) 8 with q | ⟨i, hi, hbi, q⟩
        · omega
        · by_cases hv : V i = 0
          · have := d0 i hbi hv; omega
          · have a := d1 i hbi hv
            have f := gmx_ge (A := gV (c1 V n)) a.2 8 hi
            omega
    · have e : s &&& nzs V n = s := set_ext (fun k => by
        rw [Nat.testBit_and]
        cases hk : s.testBit k
        · rfl
        · rw [nzs_bit (bn k hk)]
          have : V k ≠ 0 := fun z => hz ⟨k, hk, z⟩
          simp [this])
      have z0 : zc V n s = 0 := by
        unfold zc
        rw [cntB_eq (q := fun _ => false) n (fun k _ => ?_)]
        · have : ∀ m, cntB (fun _ => false) m = 0 := fun m => by
            induction m with
            | zero => rfl
            | succ m ih => rw [cntB, ih]; rfl
          exact this n
        · cases hk : s.testBit k
          · rfl
          · have : V k ≠ 0 := fun z => hz ⟨k, hk, z⟩
            simp [this]
      rw [e, z0, Int.add_zero]
/-- what payments answers, by the class and by the reference -/
theorem pay_eq {V : Nat → Int} {n : Nat} (hn : n ≤ 8) : (n : Int) - gV (c1 V n) (2 ^ n - 1) = cntB (fun i => decide (V i ≠ 0)) n - gV (c2 V n) (nzs V n) := by
  have p0 : 0 < 2 ^ n := Nat.pow_pos (by decide)
  have a := pay_2 (V := V) hn (2 ^ n) (2 ^ n - 1) (by omega) (by omega)
  have e : (2 ^ n - 1) &&& nzs V n = nzs V n := set_ext (fun k => by
    rw [Nat.testBit_and, all_bit]
    unfold nzs
    rw [wl_bit]
    by_cases hk : k < n <;> simp [hk])
  have b := pay_1 (V := V) (n := n) (nzs V n + 1) (nzs V n) (by omega) (Nat.and_self _)
  have f : zc V n (2 ^ n - 1) + cntB (fun i => decide (V i ≠ 0)) n = n := by
    unfold zc
    rw [cntB_eq (q := fun i => decide (V i = 0)) n (fun k hk => by rw [all_bit]; simp [hk])]
    have : ∀ m : Nat, cntB (fun i => decide (V i = 0)) m + cntB (fun i => decide (V i ≠ 0)) m = m := fun m => by
      induction m with
      | zero => rfl
      | succ m ih =>
        rw [cntB, cntB]
        by_cases hv : V m = 0
        · rw [if_pos (decide_eq_true hv), if_neg (by simp [hv])]; omega
        · rw [if_neg (by simp [hv]), if_pos (decide_eq_true hv)]; omega
    exact this n
  rw [e] at a
  omega
theorem top_bit : ∀ i, i < 8 → ∀ s, s < 256 → 2 ^ i ≤ s → s < 2 ^ (i + 1) → s.testBit i = true ∧ del s i < 2 ^ i := by decide +kernel
theorem sS_top {V : Nat → Int} {n i s : Nat} (hi : i < n) (hb : s.testBit i = true) : sS V n s = sS V n (del s i) + V i := by
  unfold sS
  refine sumB_one (i := i) ?_ hb n hi (fun k _ hk => ?_)
  · rw [del_bit]; simp
  · rw [del_bit]; simp [hk]
theorem sumB_b {p : Nat → Bool} {W : Nat → Int} {b : Int} (hb : 0 ≤ b) : ∀ m : Nat, (∀ j, j < m → -b ≤ W j ∧ W j ≤ b) → -(b * m) ≤ sumB p W m ∧ sumB p W m ≤ b * m := by
  intro m
  induction m with
  | zero => intro _; rw [sumB]; omega
  | succ m ih =>
    intro h
    have h1 := ih (fun j hj => h j (by omega))
    have h2 := h m (by omega)
    have e : b * ((m + 1 : Nat) : Int) = b * m + b := by rw [Int.natCast_add, Int.mul_add]; simp
    rw [sumB, e]
    split <;> omega
