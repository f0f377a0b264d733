/-! WHAT THE REFERENCE's SMALL METHODS ANSWER (sq_<method>) -/
/-- the key of a name in a slot -/
def mK (M : Mem) (s i : Nat) : Int := gkeyOf (M 180 (170 * s + i)) (fun k => M 180 (170 * s + 8 + 6 * i + k)) (fun x => M 180 (170 * s + 144 + x))
def mN (M : Mem) (s n : Nat) : Prop := (∀ i, i < n → gok (M 180 (170 * s + i)) (fun k => M 180 (170 * s + 8 + 6 * i + k))) ∧ gal (fun x => M 180 (170 * s + 144 + x))
/-- the first letter of a name in a slot, or -4 -/
def mf (M : Mem) (s i : Nat) : Int := if M 180 (170 * s + i) = 0 then -4 else M 180 (170 * s + 8 + 6 * i)
section Mod
variable {S : Shp} {M : Mem} {Q : Res → Prop}
theorem sq_in (hM : KM S) {v a b : Int} (h : Q (S, M, some (.inl (if a ≤ v ∧ v ≤ b then 1 else 0)))) : Ca 140 [.inr (.inl v), .inr (.inl a), .inr (.inl b)] S M Q := by
  apply r_X9_in_0 hM
  grind
theorem sq_isLetter (hM : KM S) {x : Int} (h : Q (S, M, some (.inl (if 0 ≤ x ∧ x ≤ 25 then 1 else 0)))) : Ca 157 [.inl x] S M Q := by
  apply r_X9_isLetter_0 hM
  exact sq_in hM ⟨_, _, rfl, by split <;> simp, h⟩
theorem sq_isPerson (hM : KM S) {n : Nat} (hn : M 174 0 = n) (hn8 : n ≤ 8) {x : Int} (h : Q (S, M, some (.inl (if 0 ≤ x ∧ x ≤ (n : Int) - 1 then 1 else 0)))) : Ca 156 [.inr (.inr 173), .inl x] S M Q := by
  apply r_X9_isPerson_0 hM
  have e : M 174 (0 : Int).toNat = n := hn
  rw [e]
  exact ⟨by decide, ⟨by omega, by omega⟩, sq_in hM ⟨_, _, rfl, by split <;> simp, h⟩⟩
theorem sq_first (hM : KM S) {s i : Nat} (hs : s < 12) (hi : i < 8) (h : Q (S, M, some (.inl (mf M s i)))) : Ca 158 [.inr (.inr 173), .inl (s : Int), .inl (i : Int)] S M Q := by
  apply r_X9_first_0 hM
  have e1 : ((170 : Int) * s + i).toNat = 170 * s + i := by omega
  have e2 : (((170 : Int) * s + 8) + 6 * i).toNat = 170 * s + 8 + 6 * i := by omega
  rw [e1, e2]
  unfold mf at h
  simp only [inR]
  refine ⟨by omega, by omega, by omega, fun q => ⟨by omega, by omega, by omega, by omega, by omega, ?_⟩, fun q => ?_⟩
  · rw [if_neg q] at h; exact h
  · rw [if_pos q] at h; exact h
theorem np_and1I {x : Int} (hx : 0 ≤ x) (k : Nat) : bi_and (x / 2 ^ k) 1 = some (if x.toNat.testBit k then 1 else 0) := by
  have e : x = (x.toNat : Int) := by omega
  have := np_and1 x.toNat k
  rw [← e] at this
  exact this
theorem sq_isVowel (hM : KM S) (h0 : 0 ≤ M 174 5) {x : Nat} (hx : x < 26) (h : Q (S, M, some (.inl (if (M 174 5).toNat.testBit x then 1 else 0)))) : Ca 160 [.inr (.inr 173), .inl (x : Int)] S M Q := by
  apply r_X9_isVowel_0 hM
  have e : M 174 (5 : Int).toNat = M 174 5 := rfl
  rw [e, Int.toNat_natCast]
  refine ⟨by decide, ⟨h0, by omega, by omega⟩, _, np_and1I h0 x, ?_⟩
  by_cases hb : (M 174 5).toNat.testBit x = true <;> simp_all
theorem isAhead_loop (hM : KM S) {s i j : Nat} (hs : s < 12) (hi : i < 8) (hj : j < 8) {a b : Int} (ha : gok a (fun k => M 180 (170 * s + 8 + 6 * i + k))) (hb : gok b (fun k => M 180 (170 * s + 8 + 6 * j + k))) : ∀ d, d ≤ 6 → (glex a b (fun k => M 180 (170 * s + 8 + 6 * i + k)) (fun k => M 180 (170 * s + 8 + 6 * j + k)) (fun x => M 180 (170 * s + 144 + x)) i j d → Q (S, M, some (.inl 1))) → (¬ glex a b (fun k => M 180 (170 * s + 8 + 6 * i + k)) (fun k => M 180 (170 * s + 8 + 6 * j + k)) (fun x => M 180 (170 * s + 144 + x)) i j d → Q (S, M, some (.inl 0))) → ∀ (u v : Option AV), u = none → v = none → En 162 35 [some (.inr (.inr 173)), some (.inl (s : Int)), some (.inl (i : Int)), some (.inl (j : Int)), some (.inl a), some (.inl b), some (.inl ((6 - d : Nat) : Int)), u, v] [] S M Q := by
  intro d
  induction d with
  | zero =>
    intro _ h1 h0 u v hu hv
    subst hu; subst hv
    have a0 := ha.1
    have b0 := hb.1
    rw [glex] at h1 h0
    apply r_X9_isAhead_35 hM
    refine ⟨fun _ => ⟨fun q => ?_, fun q => ?_⟩, fun q => by omega⟩
    · rw [if_neg q] at h1 h0
      exact ⟨fun z => h0 (by omega), fun z => h1 z⟩
    · rw [if_pos q] at h1 h0
      exact ⟨fun z => h0 (by omega), fun z => h1 (by omega)⟩
  | succ d ih =>
    intro hd h1 h0 u v hu hv
    subst hu; subst hv
    have ih := ih (by omega)
    rw [glex] at h1 h0
    have ek : 6 - (d + 1) = 5 - d := by omega
    rw [ek]
    have ek2 : (((5 - d : Nat) : Int) + 1) = ((6 - d : Nat) : Int) := by omega
    apply r_X9_isAhead_35 hM
    have last : ¬ (((5 - d : Nat) : Int) < a ∧ ((5 - d : Nat) : Int) < b) → ((a ≠ b → ((b ≤ a → Q (S, M, some (.inl (0 : Int)))) ∧ (a < b → Q (S, M, some (.inl (1 : Int)))))) ∧ (a = b → (((j : Int) ≤ (i : Int) → Q (S, M, some (.inl (0 : Int)))) ∧ ((i : Int) < (j : Int) → Q (S, M, some (.inl (1 : Int))))))) := by
      intro hc
      rw [if_neg hc] at h1 h0
      refine ⟨fun q => ?_, fun q => ?_⟩
      · rw [if_neg q] at h1 h0
        exact ⟨fun z => h0 (by omega), fun z => h1 z⟩
      · rw [if_pos q] at h1 h0
        exact ⟨fun z => h0 (by omega), fun z => h1 (by omega)⟩
    have e1 : ((((170 : Int) * s + 8) + 6 * i) + ((5 - d : Nat) : Int)).toNat = 170 * s + 8 + 6 * i + (5 - d) := by omega
    have e2 : ((((170 : Int) * s + 8) + 6 * j) + ((5 - d : Nat) : Int)).toNat = 170 * s + 8 + 6 * j + (5 - d) := by omega
    rw [e1, e2, ek2]
    refine ⟨fun q => last (by omega), fun q => ⟨fun q2 => last (by omega), fun q2 => ?_⟩⟩
    have la := ha.2 (5 - d) q
    have lb := hb.2 (5 - d) q2
    dsimp only at la lb
    rw [if_pos ⟨q, q2⟩] at h1 h0
    have e3 : (((170 : Int) * s + 144) + M 180 (170 * s + 8 + 6 * i + (5 - d))).toNat = 170 * s + 144 + (M 180 (170 * s + 8 + 6 * i + (5 - d))).toNat := by omega
    have e4 : (((170 : Int) * s + 144) + M 180 (170 * s + 8 + 6 * j + (5 - d))).toNat = 170 * s + 144 + (M 180 (170 * s + 8 + 6 * j + (5 - d))).toNat := by omega
    rw [e3, e4]
    simp only [inR]
    refine ⟨by omega, by omega, by omega, by omega, by omega, by omega, by omega, by omega, by omega, by omega, by omega, by omega, fun q3 => ?_, fun q3 => ?_⟩
    · rw [if_pos q3] at h1 h0
      exact ⟨by omega, en_fg (ih h1 h0 none none rfl rfl) ⟨Or.inr rfl, Or.inr rfl, Or.inr rfl, Or.inr rfl, Or.inr rfl, Or.inr rfl, Or.inr rfl, Or.inl rfl, Or.inl rfl, trivial⟩⟩
    · rw [if_neg q3] at h1 h0
      exact ⟨by omega, by omega, by omega, by omega, by omega, by omega, by omega, by omega, fun z => h0 (by omega), fun z => h1 z⟩
end Mod
