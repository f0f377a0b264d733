/-! the reference's seats: quarrels of a row; the next row -/
def fo (M : Mem) (i j : Nat) : Prop := i ≠ j ∧ 0 ≤ mf M 0 i ∧ 0 ≤ mf M 0 j ∧ mQ (M 174) (M 179) (mf M 0 i).toNat (mf M 0 j).toNat
noncomputable def foB (M : Mem) (i j : Nat) : Bool := @decide (fo M i j) (Classical.propDecidable _)
theorem foB_iff {M : Mem} {i j : Nat} : foB M i j = true ↔ fo M i j := @decide_eq_true_iff _ (Classical.propDecidable _)
noncomputable def be (M : Mem) (i j : Nat) : Int := bI (foB M i j)
noncomputable def clo (M : Mem) (n l : Nat) : Int := if 2 < n then be M l 0 else 0
theorem bI_in (b : Bool) : 0 ≤ bI b ∧ bI b ≤ 1 := by cases b <;> decide
theorem sgood_M (M : Mem) (n : Nat) : sgood (be M) (clo M n) := ⟨fun i j => bI_in _, fun l => by unfold clo; split; exact bI_in _; decide⟩
theorem fo_row {M M1 : Mem} (e4 : M1 174 = M 174) (e9 : M1 179 = M 179) (e0 : M1 180 = M 180) : foB M1 = foB M := by
  funext i j
  rw [Bool.eq_iff_iff, foB_iff, foB_iff]
  unfold fo mf
  rw [e4, e9, e0]
/-- rows 184, 185 are free -/
theorem Mc_up4 {M M1 : Mem} (h : Mc M M1) (k : Nat) (v : Int) : Mc M (up2 M1 184 k v) := fun q q1 q2 => by rw [up2_row _ _ _ _ q1]; exact h q q1 q2
theorem Mc_up5 {M M1 : Mem} (h : Mc M M1) (k : Nat) (v : Int) : Mc M (up2 M1 185 k v) := fun q q1 q2 => by rw [up2_row _ _ _ _ q2]; exact h q q1 q2
section Follow
variable {S : Shp} {M : Mem} {Q : Res → Prop}
theorem sq_isFoe (hM : KM S) {n : Nat} (hT : Tn M 8 0 n) {M1 : Mem} (hl : Mc M M1) {i j : Nat} (hi : i < n) (hj : j < n) (h : Q (S, M1, some (.inl (be M i j)))) : Ca 203 [.inr (.inr 173), .inl (i : Int), .inl (j : Int)] S M1 Q := by
  have hn8 := hT.1.1
  have emf : ∀ k, mf M1 0 k = mf M 0 k := fun k => by unfold mf; rw [hl 180 (by decide) (by decide)]
  have f1 := Tn_fin hT hi
  have f2 := Tn_fin hT hj
  have h0 : ¬ fo M i j → Q (S, M1, some (.inl 0)) := fun q => by
    have : foB M i j = false := by
      cases hb : foB M i j
      · rfl
      · exact absurd (foB_iff.mp hb) q
    unfold be at h
    rw [this] at h; exact h
  have h1 : fo M i j → Q (S, M1, some (.inl 1)) := fun q => by
    unfold be at h
    rw [foB_iff.mpr q] at h; exact h
  apply r_X9_isFoe_0 hM
  refine sq_first (s := 0) hM (by decide) (by omega) ⟨_, _, rfl, sq_first (s := 0) hM (by decide) (by omega) ⟨_, _, rfl, ?_⟩⟩
  rw [emf, emf]
  refine ⟨fun z => h0 (fun q => q.1 (by omega)), fun z => ⟨fun w => h0 (fun q => by have := q.2.1; omega), fun w => ⟨fun w2 => h0 (fun q => by have := q.2.2.1; omega), fun w2 => ?_⟩⟩⟩
  obtain ⟨x, hx⟩ : ∃ x : Nat, mf M 0 i = (x : Int) := ⟨(mf M 0 i).toNat, by omega⟩
  obtain ⟨y, hy⟩ : ∃ y : Nat, mf M 0 j = (y : Int) := ⟨(mf M 0 j).toNat, by omega⟩
  unfold fo at h0 h1
  rw [hx, hy] at h0 h1 ⊢
  rw [Int.toNat_natCast, Int.toNat_natCast] at h0 h1
  have e4 := hl 174 (by decide) (by decide)
  have e9 := hl 179 (by decide) (by decide)
  refine sq_isQuarrel hM (by rw [e4]; exact hT.2.2.2.2.2.2.2.1) (fun q => ⟨_, _, rfl, fun v => absurd v (by decide), fun _ => h1 ⟨by omega, by omega, by omega, ?_⟩⟩) (fun q => ⟨_, _, rfl, fun _ => h0 (fun v => q ?_), fun v => absurd rfl v⟩)
  · rw [e4, e9] at q; exact q
  · rw [e4, e9]; exact v.2.2.2
theorem sq_foes (hM : KM S) {n : Nat} (hT : Tn M 8 0 n) {M1 : Mem} (hl : Mc M M1) {P : Nat → Nat} (hP : ∀ k, k < n → P k < n ∧ M1 185 k = (P k : Int)) (h0 : P 0 = 0) (h : Q (S, M1, some (.inl (pq (be M) P (n - 1) + clo M n (P (n - 1)))))) : Ca 204 [.inr (.inr 173)] S M1 Q := by
  have hn8 := hT.1.1
  have hn1 : 1 ≤ n := hT.2.1.2.2.1
  have e0 : M1 174 (0 : Int).toNat = n := by rw [hl 174 (by decide) (by decide)]; exact hT.2.1.2.1
  have loop : ∀ d k : Nat, k + d = n - 1 → En 204 9 [some (.inr (.inr 173)), some (.inl (n : Int)), some (.inl (pq (be M) P k)), some (.inl (k : Int))] [] S M1 Q := by
    intro d
    induction d with
    | zero =>
      intro k hk
      have e : k = n - 1 := by omega
      subst e
      have pb := pq_in (be := be M) (P := P) (fun i j => bI_in _) (n - 1)
      apply r_X9_foes_9 hM
      have e1 : (((n - 1 : Nat) : Int) + 1) = (n : Int) := by omega
      have e2 : ((n : Int) - 1).toNat = n - 1 := by omega
      have e3 : M1 185 (0 : Int).toNat = ((0 : Nat) : Int) := by
        have := (hP 0 (by omega)).2
        rw [h0] at this; exact this
      rw [e1, e2, e3, (hP (n - 1) (by omega)).2]
      unfold clo at h
      refine ⟨by unfold inR; omega, fun _ => ⟨fun z => ⟨by unfold inR; omega, ?_⟩, fun z => ⟨by unfold inR; omega, by omega, by decide, sq_isFoe hM hT hl (hP _ (by omega)).1 (by omega) ⟨_, _, rfl, fun w => ⟨by unfold inR; omega, ?_⟩, fun w => ⟨by unfold inR; omega, ?_⟩⟩⟩⟩, fun z => by omega⟩
      · rw [if_neg (by omega)] at h; exact h
      · rw [if_pos (by omega), w] at h; exact h
      · have : be M (P (n - 1)) 0 = 1 := by have := bI_01 (foB M (P (n - 1)) 0); unfold be at w ⊢; omega
        rw [if_pos (by omega), this] at h; exact h
    | succ d ih =>
      intro k hk
      have nx := ih (k + 1) (by omega)
      rw [pq] at nx
      have pb := pq_in (be := be M) (P := P) (fun i j => bI_in _) k
      apply r_X9_foes_9 hM
      have e1 : ((k : Int) + 1) = ((k + 1 : Nat) : Int) := by omega
      rw [e1, Int.toNat_natCast, Int.toNat_natCast, (hP k (by omega)).2, (hP (k + 1) (by omega)).2]
      refine ⟨by unfold inR; omega, fun z => by omega, fun _ => ⟨by omega, by unfold inR; omega, by omega, sq_isFoe hM hT hl (hP _ (by omega)).1 (hP _ (by omega)).1 ⟨_, _, rfl, fun w => ⟨by unfold inR; omega, by unfold inR; omega, ?_⟩, fun w => ⟨by unfold inR; omega, by unfold inR; omega, ?_⟩⟩⟩⟩
      · rw [w] at nx; exact nx
      · have : be M (P k) (P (k + 1)) = 1 := by have := bI_01 (foB M (P k) (P (k + 1))); unfold be at w ⊢; omega
        rw [this] at nx; exact nx
  apply r_X9_foes_0 hM
  rw [e0]
  exact ⟨by decide, loop (n - 1) 0 (by omega)⟩
/-- the elements of a row from place p on: those that are not in s -/
def Ele (n : Nat) (r : Nat → Int) (p s : Nat) : Prop := (∀ k, p ≤ k → k < n → ∃ y : Nat, y < n ∧ r k = (y : Int) ∧ s.testBit y = false) ∧ ∀ y : Nat, y < n → s.testBit y = false → ∃ k, p ≤ k ∧ k < n ∧ r k = (y : Int)
def As (n : Nat) (r : Nat → Int) (p s : Nat) : Prop := (∀ k, p ≤ k → k + 1 < n → r k < r (k + 1)) ∧ Ele n r p s
def De (n : Nat) (r : Nat → Int) (p s : Nat) : Prop := (∀ k, p ≤ k → k + 1 < n → r (k + 1) < r k) ∧ Ele n r p s
theorem de_lt {n : Nat} {r : Nat → Int} {p : Nat} (h : ∀ k, p ≤ k → k + 1 < n → r (k + 1) < r k) : ∀ d k, p ≤ k → k + d + 1 < n → r (k + d + 1) < r k := by
  intro d
  induction d with
  | zero => intro k hk hn; exact h k hk hn
  | succ d ih =>
    intro k hk hn
    have a := ih k hk (by omega)
    have b := h (k + d + 1) (by omega) (by omega)
    rw [show k + (d + 1) + 1 = k + d + 1 + 1 by omega]
    omega
theorem de_lt' {n : Nat} {r : Nat → Int} {p : Nat} (h : ∀ k, p ≤ k → k + 1 < n → r (k + 1) < r k) {a b : Nat} (ha : p ≤ a) (hab : a < b) (hb : b < n) : r b < r a := by
  have := de_lt h (b - a - 1) a ha (by omega)
  rw [show a + (b - a - 1) + 1 = b by omega] at this
  exact this
theorem as_lt' {n : Nat} {r : Nat → Int} {p : Nat} (h : ∀ k, p ≤ k → k + 1 < n → r k < r (k + 1)) {a b : Nat} (ha : p ≤ a) (hab : a < b) (hb : b < n) : r a < r b := by
  have := de_lt' (n := n) (r := fun k => -r k) (p := p) (fun k h1 h2 => by have := h k h1 h2; omega) ha hab hb
  omega
theorem sq_swapsRow (hM : KM S) {a b : Nat} {M1 : Mem} (ha : a < 8) (hb : b < 8) (h : ∀ M', (∀ q, q ≠ 185 → M' q = M1 q) → (∀ k, M' 185 k = if k = b then M1 185 a else if k = a then M1 185 b else M1 185 k) → Q (S, M', none)) : Ca 206 [.inr (.inr 173), .inl (a : Int), .inl (b : Int)] S M1 Q := by
  apply r_X9_swapsRow_0 hM
  rw [Int.toNat_natCast, Int.toNat_natCast]
  refine ⟨by omega, by omega, by omega, by omega, h _ (fun q hq => by rw [up2_row _ _ _ _ hq, up2_row _ _ _ _ hq]) (fun k => ?_)⟩
  rw [up2_any, up2_any]
  simp
/-- the tail of a row is turned round -/
theorem rev_loop (hM : KM S) {n p : Nat} {x3 : Int} (hn : n ≤ 8) (hp : p < n) {r : Nat → Int} {M0 : Mem} (h : ∀ M', (∀ q, q ≠ 185 → M' q = M0 q) → (∀ k, k ≤ p → M' 185 k = r k) → (∀ k, p < k → k < n → M' 185 k = r (n + p - k)) → Q (S, M', some (.inl 1))) : ∀ (d a : Nat) (M1 : Mem), a + d = n → p < a → (∀ q, q ≠ 185 → M1 q = M0 q) → (∀ k, k ≤ p → M1 185 k = r k) → (∀ k, p < k → k < n → M1 185 k = (if k < a ∨ n + p - a < k then r (n + p - k) else r k)) → En 205 52 [some (.inr (.inr 173)), some (.inl (n : Int)), some (.inl (p : Int)), some (.inl x3), some (.inl (a : Int))] [] S M1 Q := by
  intro d
  induction d with
  | zero =>
    intro a M1 ha hpa h1 h2 h3
    apply r_X9_follows_52 hM
    refine ⟨by unfold inR; omega, by unfold inR; omega, fun _ => h M1 h1 h2 (fun k q1 q2 => ?_), fun z => by omega⟩
    rw [h3 k q1 q2, if_pos (by omega)]
  | succ d ih =>
    intro a M1 ha hpa h1 h2 h3
    apply r_X9_follows_52 hM
    refine ⟨by unfold inR; omega, by unfold inR; omega, fun z => h M1 h1 h2 (fun k q1 q2 => ?_), fun z => ⟨by unfold inR; omega, by unfold inR; omega, ?_⟩⟩
    · rw [h3 k q1 q2]
      by_cases hc : k < a ∨ n + p - a < k
      · rw [if_pos hc]
      · rw [if_neg hc]
        have : n + p - k = k := by omega
        rw [this]
    · have e : (((n : Int) + p) - a) = ((n + p - a : Nat) : Int) := by omega
      rw [e, show ((a : Int) + 1) = ((a + 1 : Nat) : Int) by omega]
      refine sq_swapsRow hM (by omega) (by omega) (fun M2 g1 g2 => ⟨_, rfl, by unfold inR; omega, ih (a + 1) M2 (by omega) (by omega) (fun q hq => by rw [g1 q hq]; exact h1 q hq) (fun k hk => ?_) (fun k q1 q2 => ?_)⟩)
      · rw [g2 k, if_neg (by omega), if_neg (by omega)]; exact h2 k hk
      · rw [g2 k]
        by_cases c1 : k = n + p - a
        · rw [if_pos c1, if_pos (by omega), h3 a hpa (by omega), if_neg (by omega)]
          congr 1; omega
        · rw [if_neg c1]
          by_cases c2 : k = a
          · rw [if_pos c2, if_pos (by omega), h3 (n + p - a) (by omega) (by omega), if_neg (by omega)]
            congr 1; omega
          · rw [if_neg c2, h3 k q1 q2]
            by_cases c3 : k < a ∨ n + p - a < k
            · rw [if_pos c3, if_pos (by omega)]
            · rw [if_neg c3, if_neg (by omega)]
theorem fol_k (hM : KM S) {n p : Nat} (hn : n ≤ 8) (hp : p < n) {M1 : Mem} (hde : ∀ k, p < k → k + 1 < n → M1 185 (k + 1) < M1 185 k) (hstop : p = 0 ∨ (p + 1 < n ∧ M1 185 p ≤ M1 185 (p + 1))) (h : (1 ≤ p → En 205 33 [some (.inr (.inr 173)), some (.inl (n : Int)), some (.inl (p : Int)), some (.inl ((n : Int) - 1)), none] [] S M1 Q) ∧ (p = 0 → Q (S, M1, some (.inl 0)))) : ∀ d k : Nat, k = p + d → k + 1 < n ∨ k = 0 → En 205 9 [some (.inr (.inr 173)), some (.inl (n : Int)), some (.inl (k : Int)), none, none] [] S M1 Q := by
  intro d
  induction d with
  | zero =>
    intro k hk hkn
    have e : k = p := by omega
    subst e
    apply r_X9_follows_9 hM
    have e1 : ((k : Int) + 1).toNat = k + 1 := by omega
    rw [Int.toNat_natCast, e1]
    refine ⟨fun z => ⟨fun w => by omega, fun w => h.2 (by omega)⟩, fun z => ?_⟩
    rcases hstop with q | q
    · omega
    · exact ⟨by omega, by unfold inR; omega, by omega, fun _ => ⟨fun _ => ⟨by unfold inR; omega, h.1 (by omega)⟩, fun w => by omega⟩, fun w => by omega⟩
  | succ d ih =>
    intro k hk hkn
    apply r_X9_follows_9 hM
    have e1 : ((k : Int) + 1).toNat = k + 1 := by omega
    have := hde k (by omega) (by omega)
    rw [Int.toNat_natCast, e1, show ((k : Int) + -1) = ((k - 1 : Nat) : Int) by omega]
    exact ⟨fun z => by omega, fun z => ⟨by omega, by unfold inR; omega, by omega, fun w => by omega, fun w => ⟨by unfold inR; omega, ih (k - 1) (by omega) (by omega)⟩⟩⟩
theorem fol_j (hM : KM S) {n p j0 : Nat} (hn : n ≤ 8) (hp : 1 ≤ p ∧ p < j0) (hj0 : j0 < n) {M1 : Mem} (hle : M1 185 p ≤ M1 185 j0) (hlt : ∀ k, j0 < k → k < n → M1 185 k < M1 185 p) (h : Ca 206 [.inr (.inr 173), .inl (p : Int), .inl (j0 : Int)] S M1 (fun r => ∃ M3 : Mem, r = (S, M3, none) ∧ En 205 52 [some (.inr (.inr 173)), some (.inl (n : Int)), some (.inl (p : Int)), some (.inl (j0 : Int)), some (.inl ((p + 1 : Nat) : Int))] [] S M3 Q)) : ∀ d j : Nat, j = j0 + d → j < n → En 205 33 [some (.inr (.inr 173)), some (.inl (n : Int)), some (.inl (p : Int)), some (.inl (j : Int)), none] [] S M1 Q := by
  intro d
  induction d with
  | zero =>
    intro j hj hjn
    have e : j = j0 := by omega
    subst e
    apply r_X9_follows_33 hM
    rw [Int.toNat_natCast, Int.toNat_natCast, show ((p : Int) + 1) = ((p + 1 : Nat) : Int) by omega]
    refine ⟨by omega, by omega, fun _ => h.mono (fun r hr => ?_), fun z => by omega⟩
    obtain ⟨M3, e3, h3⟩ := hr
    exact ⟨M3, e3, by unfold inR; omega, h3⟩
  | succ d ih =>
    intro j hj hjn
    apply r_X9_follows_33 hM
    have := hlt j (by omega) hjn
    rw [Int.toNat_natCast, Int.toNat_natCast, show ((j : Int) + -1) = ((j - 1 : Nat) : Int) by omega]
    exact ⟨by omega, by omega, fun w => by omega, fun _ => ⟨by unfold inR; omega, ih (j - 1) (by omega) (by omega)⟩⟩
/-- the last place from which on all is below -/
theorem last_ge {n : Nat} {r : Nat → Int} {x : Int} : ∀ (e a : Nat), n - a ≤ e → a < n → x ≤ r a → ∃ j, a ≤ j ∧ j < n ∧ x ≤ r j ∧ ∀ k, j < k → k < n → r k < x := by
  intro e
  induction e with
  | zero => intro a h1 h2; omega
  | succ e ih =>
    intro a h1 h2 hx
    by_cases hex : ∃ b, a < b ∧ b < n ∧ x ≤ r b
    · obtain ⟨b, b1, b2, b3⟩ := hex
      obtain ⟨j, j1, j2, j3, j4⟩ := ih b (by omega) b2 b3
      exact ⟨j, by omega, j2, j3, j4⟩
    · refine ⟨a, Nat.le_refl a, h2, hx, fun k k1 k2 => ?_⟩
      by_cases h6 : r k < x
      · exact h6
      · exact absurd ⟨k, k1, k2, by omega⟩ hex
end Follow
