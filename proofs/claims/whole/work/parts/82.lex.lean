/-! THE TEXT: signs, names, numbers; what the class reads of them -/
def sg (T : Nat → Int) (L a : Nat) : Int := if a < L then T a else -1
def rnF (P : Nat → Bool) : Nat → Nat → Nat
  | 0, _ => 0
  | f + 1, a => if P a = true then rnF P f (a + 1) + 1 else 0
/-- how many in a row are so, from a on -/
def rn (P : Nat → Bool) (L a : Nat) : Nat := rnF P (L - a) a
theorem rn_s {P : Nat → Bool} {L a : Nat} (h : a < L) : rn P L a = if P a = true then rn P L (a + 1) + 1 else 0 := by
  unfold rn
  rw [show L - a = (L - (a + 1)) + 1 by omega, rnF]
theorem rn_e {P : Nat → Bool} {L a : Nat} (h : L ≤ a) : rn P L a = 0 := by
  unfold rn
  rw [show L - a = 0 by omega, rnF]
theorem rn_le {P : Nat → Bool} {L : Nat} : ∀ d a, L - a ≤ d → a + rn P L a ≤ L ∨ rn P L a = 0 := by
  intro d
  induction d with
  | zero => intro a h; exact Or.inr (rn_e (by omega))
  | succ d ih =>
    intro a h
    by_cases ha : a < L
    · rw [rn_s ha]
      split
      · rcases ih (a + 1) (by omega) with q | q
        · left; omega
        · left; omega
      · exact Or.inr rfl
    · exact Or.inr (rn_e (by omega))
theorem rn_all {P : Nat → Bool} {L : Nat} : ∀ d a, L - a ≤ d → (∀ k, k < rn P L a → P (a + k) = true) ∧ (a + rn P L a < L → P (a + rn P L a) = false) := by
  intro d
  induction d with
  | zero => intro a h; rw [rn_e (by omega)]; exact ⟨fun k hk => by omega, fun q => by omega⟩
  | succ d ih =>
    intro a h
    by_cases ha : a < L
    · rw [rn_s ha]
      by_cases hp : P a = true
      · rw [if_pos hp]
        obtain ⟨i1, i2⟩ := ih (a + 1) (by omega)
        refine ⟨fun k hk => ?_, fun q => ?_⟩
        · by_cases hk0 : k = 0
          · subst hk0; exact hp
          · have := i1 (k - 1) (by omega)
            rw [show a + 1 + (k - 1) = a + k by omega] at this
            exact this
        · have := i2 (by omega)
          rw [show a + 1 + rn P L (a + 1) = a + (rn P L (a + 1) + 1) by omega] at this
          exact this
      · rw [if_neg hp]
        exact ⟨fun k hk => by omega, fun _ => by simpa using hp⟩
    · rw [rn_e (by omega)]; exact ⟨fun k hk => by omega, fun q => by omega⟩
def isLt (T : Nat → Int) (k : Nat) : Bool := decide (97 ≤ T k ∧ T k ≤ 122)
def isFg (T : Nat → Int) (k : Nat) : Bool := decide (48 ≤ T k ∧ T k ≤ 57)
/-- how many letters, how many figures from a on -/
def nL (T : Nat → Int) (L a : Nat) : Nat := rn (isLt T) L a
def nF (T : Nat → Int) (L a : Nat) : Nat := rn (isFg T) L a
/-- the number of one or two figures at a -/
def nV (T : Nat → Int) (L a : Nat) : Int := if nF T L a = 1 then T a - 48 else 10 * (T a - 48) + (T (a + 1) - 48)
def m6 (n : Nat) : Nat := if n < 6 then n else 6
def m2 (n : Nat) : Nat := if n < 2 then n else 2
theorem nL_let {T : Nat → Int} {L a k : Nat} (hk : k < nL T L a) : 97 ≤ T (a + k) ∧ T (a + k) ≤ 122 := of_decide_eq_true ((rn_all (P := isLt T) (L := L) L a (by omega)).1 k hk)
theorem nL_end {T : Nat → Int} {L a : Nat} (h : a + nL T L a < L) : ¬ (97 ≤ T (a + nL T L a) ∧ T (a + nL T L a) ≤ 122) := of_decide_eq_false ((rn_all (P := isLt T) (L := L) L a (by omega)).2 h)
theorem nL_le {T : Nat → Int} {L a : Nat} : a + nL T L a ≤ L ∨ nL T L a = 0 := rn_le L a (by omega)
theorem nF_fig {T : Nat → Int} {L a k : Nat} (hk : k < nF T L a) : 48 ≤ T (a + k) ∧ T (a + k) ≤ 57 := of_decide_eq_true ((rn_all (P := isFg T) (L := L) L a (by omega)).1 k hk)
theorem nF_end {T : Nat → Int} {L a : Nat} (h : a + nF T L a < L) : ¬ (48 ≤ T (a + nF T L a) ∧ T (a + nF T L a) ≤ 57) := of_decide_eq_false ((rn_all (P := isFg T) (L := L) L a (by omega)).2 h)
theorem nF_le {T : Nat → Int} {L a : Nat} : a + nF T L a ≤ L ∨ nF T L a = 0 := rn_le L a (by omega)
theorem nV_in {T : Nat → Int} {L a : Nat} (h : 1 ≤ nF T L a) : 0 ≤ nV T L a ∧ nV T L a ≤ 99 := by
  have a0 := nF_fig (T := T) (L := L) (a := a) (k := 0) (by omega)
  rw [Nat.add_zero] at a0
  unfold nV
  by_cases h1 : nF T L a = 1
  · rw [if_pos h1]; omega
  · rw [if_neg h1]
    have a1 := nF_fig (T := T) (L := L) (a := a) (k := 1) (by omega)
    omega
/-- the page of the class -/
def Pg (M : Mem) (T : Nat → Int) (L a : Nat) : Prop := M 5 2 = L ∧ L ≤ 200 ∧ M 5 3 = a ∧ (∀ k, k < L → M 6 k = T k ∧ 32 ≤ T k ∧ T k ≤ 126)
/-- only the page's place has changed -/
def Pn (M M' : Mem) : Prop := (∀ q, q ≠ 5 → M' q = M q) ∧ ∀ k, k ≠ 3 → M' 5 k = M 5 k
theorem Pn.refl (M : Mem) : Pn M M := ⟨fun _ _ => rfl, fun _ _ => rfl⟩
theorem Pn.trans {M M1 M2 : Mem} (h : Pn M M1) (h2 : Pn M1 M2) : Pn M M2 := ⟨fun q hq => (h2.1 q hq).trans (h.1 q hq), fun k hk => (h2.2 k hk).trans (h.2 k hk)⟩
theorem Pn_up (M : Mem) (v : Int) : Pn M (up2 M 5 3 v) := ⟨fun q hq => up2_row _ _ _ _ hq, fun k hk => up2_off _ _ _ _ hk⟩
theorem Pg_Pn {M M' : Mem} {T : Nat → Int} {L a a' : Nat} (h : Pg M T L a) (hn : Pn M M') (h3 : M' 5 3 = a') : Pg M' T L a' := ⟨by rw [hn.2 2 (by decide)]; exact h.1, h.2.1, h3, fun k hk => by rw [hn.1 6 (by decide)]; exact h.2.2.2 k hk⟩
section Lex
variable {S : Shp} {M : Mem} {Q : Res → Prop} {T : Nat → Int} {L a : Nat}
theorem sp_sign (hS : KC S) (hp : Pg M T L a) (h : Q (S, M, some (.inl (sg T L a)))) : Ca 47 [.inr (.inr 6)] S M Q := by
  apply r_X5_sign_0 hS
  rw [hp.1, hp.2.2.1, Int.toNat_natCast]
  unfold sg at h
  have := hp.2.1
  refine ⟨fun z => ?_, fun z => ⟨by omega, ?_⟩⟩
  · rw [if_neg (by omega)] at h; exact h
  · rw [if_pos (by omega)] at h; rw [(hp.2.2.2 a (by omega)).1]; exact h
theorem sg_in (hp : Pg M T L a) : -1 ≤ sg T L a ∧ sg T L a ≤ 126 := by
  unfold sg
  split
  · rename_i q; have := (hp.2.2.2 a q).2; omega
  · decide
theorem sp_passes (hS : KC S) (hp : Pg M T L a) (ha : a ≤ 300) {c : Int} (h1 : sg T L a = c → Q (S, up2 M 5 3 ((a + 1 : Nat) : Int), some (.inl 1))) (h0 : sg T L a ≠ c → Q (S, M, some (.inl 0))) : Ca 48 [.inr (.inr 6), .inl c] S M Q := by
  apply r_X5_passes_0 hS
  refine sp_sign hS hp ⟨_, _, rfl, fun z => ?_, fun z => h0 z⟩
  rw [hp.2.2.1, show ((a : Int) + 1) = ((a + 1 : Nat) : Int) by omega]
  exact ⟨by unfold inR; omega, h1 z⟩
theorem sp_atFigure (hS : KC S) (hp : Pg M T L a) (h : Q (S, M, some (.inl (if 48 ≤ sg T L a ∧ sg T L a ≤ 57 then 1 else 0)))) : Ca 52 [.inr (.inr 6)] S M Q := by
  apply r_X5_atFigure_0 hS
  refine sp_sign hS hp ⟨_, _, rfl, fun z => ?_, fun z => sp_sign hS hp ⟨_, _, rfl, fun w => ?_, fun w => ?_⟩⟩
  · rw [if_neg (by omega)] at h; exact h
  · rw [if_neg (by omega)] at h; exact h
  · rw [if_pos (by omega)] at h; exact h
theorem sg_fig : (48 ≤ sg T L a ∧ sg T L a ≤ 57) ↔ 1 ≤ nF T L a := by
  unfold sg nF
  by_cases ha : a < L
  · rw [if_pos ha, rn_s ha]
    by_cases hf : isFg T a = true
    · rw [if_pos hf]; exact ⟨fun _ => by omega, fun _ => of_decide_eq_true hf⟩
    · rw [if_neg hf]; exact ⟨fun q => absurd (decide_eq_true q) hf, fun q => by omega⟩
  · rw [if_neg ha, rn_e (by omega)]; omega
theorem sg_let : (97 ≤ sg T L a ∧ sg T L a ≤ 122) ↔ 1 ≤ nL T L a := by
  unfold sg nL
  by_cases ha : a < L
  · rw [if_pos ha, rn_s ha]
    by_cases hf : isLt T a = true
    · rw [if_pos hf]; exact ⟨fun _ => by omega, fun _ => of_decide_eq_true hf⟩
    · rw [if_neg hf]; exact ⟨fun q => absurd (decide_eq_true q) hf, fun q => by omega⟩
  · rw [if_neg ha, rn_e (by omega)]; omega
theorem nF_next (h : 1 ≤ nF T L a) : a < L ∧ nF T L a = nF T L (a + 1) + 1 := by
  unfold nF at h ⊢
  by_cases ha : a < L
  · rw [rn_s ha] at h ⊢
    split at h
    · rename_i q; rw [if_pos q]; exact ⟨ha, rfl⟩
    · omega
  · rw [rn_e (by omega)] at h; omega
theorem nL_next (h : 1 ≤ nL T L a) : a < L ∧ nL T L a = nL T L (a + 1) + 1 := by
  unfold nL at h ⊢
  by_cases ha : a < L
  · rw [rn_s ha] at h ⊢
    split at h
    · rename_i q; rw [if_pos q]; exact ⟨ha, rfl⟩
    · omega
  · rw [rn_e (by omega)] at h; omega
theorem sp_readNumber (hS : KC S) (hp : Pg M T L a) (ha : a ≤ 300) {most : Int} (hm : 0 ≤ most ∧ most ≤ 99) (h : ∀ M', Pn M M' → M' 5 3 = ((a + m2 (nF T L a) : Nat) : Int) → Q (S, M', some (.inl (if nF T L a = 0 ∨ most < nV T L a then -1 else nV T L a)))) : Ca 51 [.inr (.inr 6), .inl most] S M Q := by
  apply r_X5_readNumber_0 hS
  refine sp_atFigure hS hp ⟨_, _, rfl, ?_⟩
  by_cases h1 : 1 ≤ nF T L a
  · rw [if_pos (sg_fig.mpr h1)]
    refine ⟨fun _ => sp_sign hS hp ⟨_, _, rfl, ?_⟩, fun z => absurd z (by decide)⟩
    obtain ⟨n1, n2⟩ := nF_next h1
    have f0 := sg_fig.mpr h1
    have es : sg T L a = T a := if_pos n1
    rw [es] at f0 ⊢
    have p1 : Pg (up2 M 5 3 (M 5 3 + 1)) T L (a + 1) := Pg_Pn hp (Pn_up M _) (by rw [up2_get, hp.2.2.1]; omega)
    rw [hp.2.2.1] at p1 ⊢
    refine ⟨by unfold inR; omega, by unfold inR; omega, sp_atFigure hS p1 ⟨_, _, rfl, ?_⟩⟩
    by_cases h2 : 1 ≤ nF T L (a + 1)
    · rw [if_pos (sg_fig.mpr h2)]
      obtain ⟨n3, n4⟩ := nF_next h2
      have f1 := sg_fig.mpr h2
      have es1 : sg T L (a + 1) = T (a + 1) := if_pos n3
      have ev : nV T L a = 10 * (T a - 48) + (T (a + 1) - 48) := by unfold nV; rw [if_neg (by omega)]
      have em : m2 (nF T L a) = 2 := by unfold m2; rw [if_neg (by omega)]
      refine ⟨fun z => absurd z (by decide), fun _ => ⟨by unfold inR; omega, sp_sign hS p1 ⟨_, _, rfl, ?_⟩⟩⟩
      rw [es1] at f1 ⊢
      have pn : Pn M (up2 (up2 M 5 3 ((a : Int) + 1)) 5 3 (((up2 M 5 3 ((a : Int) + 1)) 5 3) + 1)) := (Pn_up M _).trans (Pn_up _ _)
      have hh := h _ pn (by rw [up2_get, up2_get, em]; omega)
      have ee : (T a - 48) * 10 + T (a + 1) - 48 = nV T L a := by rw [ev]; omega
      rw [ee]
      have vb := nV_in h1
      refine ⟨by unfold inR; omega, by unfold inR; omega, by rw [up2_get]; unfold inR; omega, fun z => ?_, fun z => ?_⟩
      · rw [if_pos (Or.inr z)] at hh; exact hh
      · rw [if_neg (by omega)] at hh; exact hh
    · rw [if_neg (fun q => h2 (sg_fig.mp q))]
      have ev : nV T L a = T a - 48 := by unfold nV; rw [if_pos (by omega)]
      have em : m2 (nF T L a) = 1 := by unfold m2; rw [if_pos (by omega)]; omega
      have hh := h _ (Pn_up M ((a : Int) + 1)) (by rw [up2_get, em]; omega)
      rw [← ev]
      refine ⟨fun _ => ⟨fun z => ?_, fun z => ?_⟩, fun z => absurd rfl z⟩
      · rw [if_pos (Or.inr z)] at hh; exact hh
      · rw [if_neg (by omega)] at hh; exact hh
  · rw [if_neg (fun q => h1 (sg_fig.mp q))]
    have hh := h M (Pn.refl M) (by have : nF T L a = 0 := by omega
                                   rw [this]; exact hp.2.2.1)
    rw [if_pos (Or.inl (by omega))] at hh
    exact ⟨fun z => absurd rfl z, fun _ => hh⟩
theorem nL_add : ∀ k, k ≤ nL T L a → nL T L a = nL T L (a + k) + k := by
  intro k
  induction k with
  | zero => intro _; rfl
  | succ k ih =>
    intro hk
    have e := ih (by omega)
    have := (nL_next (T := T) (L := L) (a := a + k) (by omega)).2
    rw [show a + (k + 1) = a + k + 1 by omega]
    omega
theorem readName_loop (hS : KC S) (hp : Pg M T L a) (ha : a ≤ 300) (h : ∀ M', (∀ q, q ≠ 5 → q ≠ 7 → M' q = M q) → (∀ k, k ≠ 3 → M' 5 k = M 5 k) → M' 5 3 = ((a + m6 (nL T L a) : Nat) : Int) → (∀ k, k < m6 (nL T L a) → M' 7 k = T (a + k) - 97) → Q (S, M', some (.inl (m6 (nL T L a) : Int)))) : ∀ (d k : Nat) (M1 : Mem), k + d = 6 → k ≤ nL T L a → (∀ q, q ≠ 5 → q ≠ 7 → M1 q = M q) → (∀ k, k ≠ 3 → M1 5 k = M 5 k) → M1 5 3 = ((a + k : Nat) : Int) → (∀ j, j < k → M1 7 j = T (a + j) - 97) → En 49 2 [some (.inr (.inr 6)), some (.inl (k : Int))] [] S M1 Q := by
  intro d
  induction d with
  | zero =>
    intro k M1 hk hkn h1 h2 h3 h4
    apply r_X5_readName_2 hS
    have e : k = 6 := by omega
    subst e
    have em : m6 (nL T L a) = 6 := by unfold m6; rw [if_neg (by omega)]
    rw [em] at h
    exact ⟨fun _ => h M1 h1 h2 h3 h4, fun z => by omega⟩
  | succ d ih =>
    intro k M1 hk hkn h1 h2 h3 h4
    have p1 : Pg M1 T L (a + k) := ⟨by rw [h2 2 (by decide)]; exact hp.1, hp.2.1, h3, fun j hj => by rw [h1 6 (by decide) (by decide)]; exact hp.2.2.2 j hj⟩
    have ea := nL_add (T := T) (L := L) (a := a) k hkn
    have stop : ¬ 1 ≤ nL T L (a + k) → Q (S, M1, some (.inl (k : Int))) := fun q => by
      have e : m6 (nL T L a) = k := by unfold m6; rw [if_pos (by omega)]; omega
      rw [e] at h
      exact h M1 h1 h2 h3 h4
    apply r_X5_readName_2 hS
    refine ⟨fun z => by omega, fun _ => sp_sign hS p1 ⟨_, _, rfl, fun z => stop (fun q => by have := sg_let.mpr q; omega), fun z => sp_sign hS p1 ⟨_, _, rfl, fun w => stop (fun q => by have := sg_let.mpr q; omega), fun w => sp_sign hS p1 ⟨_, _, rfl, ?_⟩⟩⟩⟩
    have q := sg_let.mp ⟨z, w⟩
    obtain ⟨n1, n2⟩ := nL_next q
    have es : sg T L (a + k) = T (a + k) := if_pos n1
    rw [es] at z w ⊢
    rw [up2_row _ _ _ _ (by decide), Int.toNat_natCast, h3, show ((k : Int) + 1) = ((k + 1 : Nat) : Int) by omega]
    refine ⟨by unfold inR; omega, by omega, by unfold inR; omega, by unfold inR; omega, ih (k + 1) _ (by omega) (by omega) (fun q q1 q2 => by rw [up2_row _ _ _ _ q1, up2_row _ _ _ _ q2]; exact h1 q q1 q2) (fun j hj => by rw [up2_off _ _ _ _ hj, up2_row _ _ _ _ (by decide)]; exact h2 j hj) (by rw [up2_get]; omega) (fun j hj => ?_)⟩
    rw [up2_row _ _ _ _ (by decide), up2_any]
    by_cases hjk : j = k
    · rw [if_pos ⟨rfl, hjk⟩, hjk]
    · rw [if_neg (fun y => hjk y.2)]; exact h4 j (by omega)
theorem sp_readName (hS : KC S) (hp : Pg M T L a) (ha : a ≤ 300) (h : ∀ M', (∀ q, q ≠ 5 → q ≠ 7 → M' q = M q) → (∀ k, k ≠ 3 → M' 5 k = M 5 k) → M' 5 3 = ((a + m6 (nL T L a) : Nat) : Int) → (∀ k, k < m6 (nL T L a) → M' 7 k = T (a + k) - 97) → Q (S, M', some (.inl (m6 (nL T L a) : Int)))) : Ca 49 [.inr (.inr 6)] S M Q := by
  apply r_X5_readName_0 hS
  exact readName_loop hS hp ha h 6 0 M rfl (Nat.zero_le _) (fun _ _ _ => rfl) (fun _ _ => rfl) hp.2.2.1 (fun j hj => by omega)
/-- the set of letters of a name -/
def ls (f : Nat → Nat) : Nat → Nat
  | 0 => 0
  | k + 1 => ls f k ||| 2 ^ f k
theorem sp_lettersRead (hS : KC S) {f : Nat → Nat} {m : Nat} (hm : m ≤ 6) (hf : ∀ k, k < m → M 7 k = (f k : Int) ∧ f k < 26) (h : Q (S, M, some (.inl (ls f m : Int)))) : Ca 50 [.inr (.inr 6), .inl (m : Int)] S M Q := by
  have loop : ∀ d k : Nat, k + d = m → En 50 4 [some (.inr (.inr 6)), some (.inl (m : Int)), some (.inl (ls f k : Int)), some (.inl (k : Int))] [] S M Q := by
    intro d
    induction d with
    | zero =>
      intro k hk
      have e : k = m := by omega
      subst e
      apply r_X5_lettersRead_4 hS
      exact ⟨fun _ => h, fun z => by omega⟩
    | succ d ih =>
      intro k hk
      have nx := ih (k + 1) (by omega)
      rw [ls] at nx
      have fk := hf k (by omega)
      obtain ⟨q1, q2, q3⟩ := p2_in (v := f k) (by omega)
      apply r_X5_lettersRead_4 hS
      rw [Int.toNat_natCast, fk.1, Int.toNat_natCast, Int.toNat_natCast, q3, show ((k : Int) + 1) = ((k + 1 : Nat) : Int) by omega]
      exact ⟨fun z => by omega, fun _ => ⟨by omega, ⟨by omega, by omega, by omega, q2⟩, ⟨by omega, q1⟩, by unfold inR; omega, nx⟩⟩
  apply r_X5_lettersRead_0 hS
  exact loop m 0 (by omega)
end Lex
