/-! seats: the class's tables -/
def Lt (M M1 : Mem) : Prop := ∀ q, q < 160 ∨ 163 < q → M1 q = M q
theorem Lt_same {M M1 : Mem} (h : Lt M M1) : Same M M1 ∧ ∀ q, 172 ≤ q → M1 q = M q := ⟨fun q k hq => by rw [h q (by unfold scr at hq; omega)], fun q hq => h q (by omega)⟩
theorem Lt_Tn {M M1 : Mem} {n : Nat} (h : Lt M M1) (hT : Tn M 8 0 n) : Tn M1 8 0 n := Tn_same (Lt_same h).1 (by omega) (by decide) hT
theorem Lt_up {M M1 : Mem} (h : Lt M M1) {q : Nat} (hq : 160 ≤ q ∧ q ≤ 163) (k : Nat) (v : Int) : Lt M (up2 M1 q k v) := fun q' hq' => by rw [up2_row _ _ _ _ (by omega)]; exact h q' hq'
/-- foes and people are laid -/
def Ft (M M1 : Mem) (n : Nat) : Prop := M1 160 3 = n ∧ ∀ i, i < n → M1 163 i = (wl (foB M i) n : Int)
/-- the tables are right for a set and a last one -/
def Tt (M M1 : Mem) (n s l : Nat) : Prop := M1 161 (8 * s + l) = (tr (be M) (clo M n) n (ce s n) s l).1 ∧ M1 162 (8 * s + l) = (tr (be M) (clo M n) n (ce s n) s l).2.1
theorem odd_bit (s : Nat) : s.testBit 0 = decide (s % 2 = 1) := by rw [Nat.testBit_zero]
theorem or_lt {s m n : Nat} (h : s < 2 ^ n) (hm : m < n) : s ||| 2 ^ m < 2 ^ n := Nat.or_lt_two_pow h (Nat.pow_lt_pow_right (by decide) hm)
theorem or_gt {s m : Nat} (h : s.testBit m = false) : s < s ||| 2 ^ m := by
  have e : del (s ||| 2 ^ m) m = s := set_ext (fun k => by
    rw [del_bit, or_bit]
    by_cases hk : k = m
    · subst hk; rw [h]; simp
    · have : ¬ m = k := fun z => hk z.symm
      simp [hk, this])
  have := del_lt (s := s ||| 2 ^ m) (i := m) (by rw [or_bit]; simp)
  omega
section Seats
variable {S : Shp} {M : Mem} {Q : Res → Prop}
theorem sp_between (hS : KC S) {n : Nat} (hn : n ≤ 8) {M1 : Mem} (hf : Ft M M1 n) {i k : Nat} (hi : i < n) (hk : k < n) (h : Q (S, M1, some (.inl (be M i k)))) : Ca 55 [.inr (.inr 161), .inl (i : Int), .inl (k : Int)] S M1 Q := by
  apply r_X6_between_0 hS
  rw [Int.toNat_natCast, hf.2 i hi]
  refine ⟨by omega, sp_holds hS (by omega) ⟨_, _, rfl, ?_⟩⟩
  rw [wl_bit, decide_eq_true hk, Bool.true_and]
  unfold be at h
  cases hb : foB M i k
  · rw [hb] at h
    exact ⟨fun _ => h, fun z => absurd rfl z⟩
  · rw [hb] at h
    exact ⟨fun z => absurd z (by decide), fun _ => h⟩
theorem sp_closing (hS : KC S) {n : Nat} (hn : n ≤ 8) {M1 : Mem} (hf : Ft M M1 n) {l : Nat} (hl : l < n) (h : Q (S, M1, some (.inl (clo M n l)))) : Ca 56 [.inr (.inr 161), .inl (l : Int)] S M1 Q := by
  apply r_X6_closing_0 hS
  rw [hf.1]
  unfold clo at h
  refine ⟨fun z => ?_, fun z => ?_⟩
  · rw [if_neg (by omega)] at h; exact h
  · rw [if_pos (by omega)] at h
    exact sp_between hS hn hf hl (k := 0) (by omega) ⟨_, _, rfl, h⟩
/-- the place of a table -/
theorem tab_ix {s m : Nat} (hs : s < 256) (hm : m < 8) : inR (((s : Nat) : Int) * 8) ∧ inR ((((s : Nat) : Int) * 8) + (m : Int)) ∧ (0 ≤ (((s : Nat) : Int) * 8) + (m : Int) ∧ (((s : Nat) : Int) * 8) + (m : Int) < 2048) ∧ ((((s : Nat) : Int) * 8) + (m : Int)).toNat = 8 * s + m := ⟨by unfold inR; omega, by unfold inR; omega, by omega, by omega⟩
theorem sp_quarrelsBy (hS : KC S) {n : Nat} (hn : n ≤ 8) {M1 : Mem} (hf : Ft M M1 n) {s l m : Nat} (hs : s < 2 ^ n) (hl : l < n) (hm : m < n) (ht : Tt M M1 n (s ||| 2 ^ m) m) (hc : ce (s ||| 2 ^ m) n ≤ 7) (h : Q (S, M1, some (.inl (be M l m + (tr (be M) (clo M n) n (ce (s ||| 2 ^ m) n) (s ||| 2 ^ m) m).1)))) : Ca 57 [.inr (.inr 161), .inl (s : Int), .inl (l : Int), .inl (m : Int)] S M1 Q := by
  have p := p8 hn
  have ol := or_lt hs hm
  obtain ⟨q1, q2, q3⟩ := p2_in (v := m) (by omega)
  have tb := tr_in (sgood_M M n) hn _ (s ||| 2 ^ m) m rfl hc
  have bb := (sgood_M M n).1 l m
  obtain ⟨t1, t2, t3, t4⟩ := tab_ix (s := s ||| 2 ^ m) (m := m) (by omega) (by omega)
  apply r_X6_quarrelsBy_0 hS
  refine sp_between hS hn hf hl hm ⟨_, _, rfl, p2k (k := m) (by omega), ?_⟩
  rw [Int.toNat_natCast, Int.toNat_natCast, q3]
  refine ⟨⟨by omega, q1⟩, t1, t2, t3, ?_⟩
  rw [t4, ht.1]
  exact ⟨by unfold inR; omega, h⟩
theorem wg_loop (hS : KC S) {n : Nat} (hn : n ≤ 8) {M1 : Mem} (hf : Ft M M1 n) {s l : Nat} (hs : s < 2 ^ n) (hs0 : s.testBit 0 = true) (hl : l < n) (hex : ∃ m, m < n ∧ s.testBit m = false) (ht : ∀ m, m < n → s.testBit m = false → Tt M M1 n (s ||| 2 ^ m) m) (h : Q (S, up2 (up2 M1 161 (8 * s + l) (tr (be M) (clo M n) n (ce s n) s l).1) 162 (8 * s + l) (tr (be M) (clo M n) n (ce s n) s l).2.1, none)) : Ca 58 [.inr (.inr 161), .inl (s : Int), .inl (l : Int)] S M1 Q := by
  have p := p8 hn
  obtain ⟨m1, m1n, m1s⟩ := hex
  have c1 := ce_pos m1s n m1n
  have cle := ce_le s n
  have c7 : ce s n ≤ 7 := by
    -- zero sits
    have : ce s n = ce s n := rfl
    have h2 : ∀ m, 1 ≤ m → ce s m ≤ m - 1 := by
      intro m
      induction m with
      | zero => intro q; omega
      | succ m ih =>
        intro _
        rw [ce]
        by_cases hm : m = 0
        · subst hm; simp [hs0, ce]
        · have := ih (by omega)
          split <;> omega
    have := h2 n (by omega)
    omega
  obtain ⟨e, he⟩ : ∃ e, ce s n = e + 1 := ⟨ce s n - 1, by omega⟩
  rw [he] at h
  obtain ⟨f, hfd⟩ : ∃ f : Nat → T3, f = (fun m => (be M l m + (tr (be M) (clo M n) n e (s ||| 2 ^ m) m).1, (tr (be M) (clo M n) n e (s ||| 2 ^ m) m).2.1, rset (tr (be M) (clo M n) n e (s ||| 2 ^ m) m).2.2 (n - (e + 1)) m)) := ⟨_, rfl⟩
  have etr : tr (be M) (clo M n) n (e + 1) s l = trS f s n := by rw [tr, hfd]
  rw [etr] at h
  have cek : ∀ m, m < n → s.testBit m = false → ce (s ||| 2 ^ m) n = e := fun m hm hms => by
    have := ce_set hms n
    rw [if_pos hm] at this
    omega
  have gd := sgood_M M n
  have fb : ∀ m, m < n → s.testBit m = false → 0 ≤ (f m).1 ∧ (f m).1 ≤ 8 ∧ 1 ≤ (f m).2.1 ∧ (f m).2.1 ≤ 2097152 := fun m hm hms => by
    have a := tr_in gd hn e (s ||| 2 ^ m) m (cek m hm hms) (by omega)
    have b := gd.1 l m
    have c : (8 : Nat) ^ e ≤ 8 ^ 7 := Nat.pow_le_pow_right (by decide) (by omega)
    have c2 : (8 : Nat) ^ 7 = 2097152 := by decide
    rw [hfd]
    dsimp only
    obtain ⟨w, hw⟩ : ∃ w, w = 8 ^ e := ⟨_, rfl⟩
    rw [← hw] at a c
    omega
  obtain ⟨t1, t2, t3, t4⟩ := tab_ix (s := s) (m := l) (by omega) (by omega)
  have loop : ∀ d m : Nat, m + d = n → 1 ≤ m → En 58 6 [some (.inr (.inr 161)), some (.inl (s : Int)), some (.inl (l : Int)), some (.inl (trS f s m).1), some (.inl (trS f s m).2.1), some (.inl (m : Int)), none] [] S M1 Q := by
    intro d
    induction d with
    | zero =>
      intro m hm h1
      have e : m = n := by omega
      subst e
      apply r_X6_weigh_6 hS
      rw [hf.1, t4]
      exact ⟨fun _ => ⟨t1, t2, t3, t1, t2, t3, h⟩, fun z => by omega⟩
    | succ d ih =>
      intro m hm h1
      have nx := ih (m + 1) (by omega) (by omega)
      rw [trS] at nx
      apply r_X6_weigh_6 hS
      rw [hf.1, show ((m : Int) + 1) = ((m + 1 : Nat) : Int) by omega]
      refine ⟨fun z => by omega, fun _ => sp_holds hS (by omega) ⟨_, _, rfl, ?_⟩⟩
      by_cases hb : s.testBit m = true
      · rw [if_pos hb] at nx ⊢
        exact ⟨fun _ => ⟨by unfold inR; omega, nx⟩, fun z => absurd z (by decide)⟩
      · rw [if_neg hb] at nx ⊢
        have hbf : s.testBit m = false := by simpa using hb
        have ol := or_lt (m := m) hs (by omega)
        obtain ⟨q1, q2, q3⟩ := p2_in (v := m) (by omega)
        obtain ⟨u1, u2, u3, u4⟩ := tab_ix (s := s ||| 2 ^ m) (m := m) (by omega) (by omega)
        have tm := ht m (by omega) hbf
        have ec := cek m (by omega) hbf
        have fm := fb m (by omega) hbf
        have sb := trS_in (f := f) (s := s) (B := 8) (W := 2097152) (by decide) (by decide) m (fun k hk hks => fb k (by omega) hks)
        have ef1 : be M l m + (tr (be M) (clo M n) n e (s ||| 2 ^ m) m).1 = (f m).1 := by rw [hfd]
        have ef2 : (tr (be M) (clo M n) n e (s ||| 2 ^ m) m).2.1 = (f m).2.1 := by rw [hfd]
        refine ⟨fun z => absurd rfl z, fun _ => sp_quarrelsBy hS hn hf hs hl (by omega) tm (by omega) ⟨_, _, rfl, ?_⟩⟩
        rw [ec, ef1, Int.toNat_natCast, Int.toNat_natCast, q3, u4, tm.2, ec, ef2]
        refine ⟨fun z => ⟨fun w => ⟨by unfold inR; omega, ?_⟩, fun w => ⟨p2k (k := m) (by omega), ⟨by omega, q1⟩, u1, u2, u3, by unfold inR; omega, by unfold inR; omega, ?_⟩⟩, fun z => ⟨fun w => absurd rfl w, fun _ => ⟨p2k (k := m) (by omega), ⟨by omega, q1⟩, u1, u2, u3, by unfold inR; omega, by unfold inR; omega, ?_⟩⟩⟩
        · rw [cmb_gt (by omega)] at nx; exact nx
        · rw [cmb_eq w] at nx; exact nx
        · rw [cmb_lt z] at nx; rw [Int.zero_add]; exact nx
  apply r_X6_weigh_0 hS
  have := loop (n - 1) 1 (by omega) (Nat.le_refl 1)
  have e1 : trS f s 1 = (9, 0, fun _ => 0) := by rw [trS, if_pos hs0]; rfl
  rw [e1] at this
  exact this
theorem sp_quarrelAtTable (hS : KC S) {n : Nat} (hT : Tn M 8 0 n) {i k : Nat} (hi : i < n) (hk : k < n) (hik : i ≠ k) (h : Q (S, M, some (.inl (be M i k)))) : Ca 91 [.inr (.inr 9), .inl (i : Int), .inl (k : Int)] S M Q := by
  have hn8 := hT.1.1
  have h0 : ¬ fo M i k → Q (S, M, some (.inl 0)) := fun q => by
    have : foB M i k = false := by
      cases hb : foB M i k
      · rfl
      · exact absurd (foB_iff.mp hb) q
    unfold be at h
    rw [this] at h; exact h
  have h1 : fo M i k → Q (S, M, some (.inl 1)) := fun q => by
    unfold be at h
    rw [foB_iff.mpr q] at h; exact h
  have z1 : M (8 + 1) i = M 180 i := by simpa using Tn_sz hT hi
  have z2 : M (8 + 1) k = M 180 k := by simpa using Tn_sz hT hk
  have m0 : ∀ j, M 180 j = 0 → mf M 0 j = -4 := fun j hj => by unfold mf; rw [if_pos (by simpa using hj)]
  refine r_X7_quarrelAtTable_0 (t := 8) hS (by decide) ?_
  refine sp_isNameless (t := 8) hS (by decide) (by omega) ⟨_, _, rfl, ?_⟩
  rw [z1]
  by_cases c1 : M 180 i = 0
  · rw [if_pos c1]
    exact ⟨fun _ => h0 (fun q => by have := q.2.1; rw [m0 i c1] at this; omega), fun z => absurd z (by decide)⟩
  · rw [if_neg c1]
    refine ⟨fun z => absurd rfl z, fun _ => sp_isNameless (t := 8) hS (by decide) (by omega) ⟨_, _, rfl, ?_⟩⟩
    rw [z2]
    by_cases c2 : M 180 k = 0
    · rw [if_pos c2]
      exact ⟨fun _ => h0 (fun q => by have := q.2.2.1; rw [m0 k c2] at this; omega), fun z => absurd z (by decide)⟩
    · rw [if_neg c2]
      refine ⟨fun z => absurd rfl z, fun _ => sp_first (t := 8) hS (by decide) (by omega) ⟨_, _, rfl, sp_first (t := 8) hS (by decide) (by omega) ⟨_, _, rfl, ?_⟩⟩⟩
      have f1 := Tn_f0 hT hi (by rw [z1]; exact c1)
      have f2 := Tn_f0 hT hk (by rw [z2]; exact c2)
      have g1 := Tn_f hT hi
      have g2 := Tn_f hT hk
      obtain ⟨x, hx⟩ : ∃ x : Nat, tf M 8 i = (x : Int) := ⟨(tf M 8 i).toNat, by omega⟩
      obtain ⟨y, hy⟩ : ∃ y : Nat, tf M 8 k = (y : Int) := ⟨(tf M 8 k).toNat, by omega⟩
      unfold fo at h0 h1
      rw [← g1, ← g2, hx, hy] at h0 h1
      rw [hx, hy]
      rw [Int.toNat_natCast, Int.toNat_natCast] at h0 h1
      have he := hT.2.2.2.2.2.2.2.2.2.2
      have he0 := hT.2.2.2.2.2.2.2.2.2.1
      have x0 : 0 ≤ M (8 + 10) x := (he0 x (by omega)).1
      have xx : (M (8 + 10) x).toNat.testBit y = true ↔ mQ (M 174) (M 179) x y := he x y (by omega) (by omega)
      refine sp_areEnemies (t := 8) hS (by decide) (by omega) (by omega) x0 ⟨_, _, rfl, ?_⟩
      by_cases hq : (M (8 + 10) x).toNat.testBit y = true
      · rw [if_pos hq]
        exact ⟨fun z => absurd z (by decide), fun _ => h1 ⟨hik, by omega, by omega, xx.mp hq⟩⟩
      · rw [if_neg hq]
        exact ⟨fun _ => h0 (fun q => hq (xx.mpr q.2.2.2)), fun z => absurd rfl z⟩
theorem pl_17 (hS : KC S) {n : Nat} (hT : Tn M 8 0 n) {i : Nat} (hi : i < n) (hk : ∀ M', Lt M M' → M' 160 3 = n → (∀ j, j < i + 1 → M' 163 j = (wl (foB M j) n : Int)) → En 54 6 [some (.inr (.inr 161)), some (.inr (.inr 9)), some (.inl ((i + 1 : Nat) : Int)), none, none] [] S M' Q) : ∀ (d k : Nat) (M1 : Mem), k + d = n → Lt M M1 → M1 160 3 = n → (∀ j, j < i → M1 163 j = (wl (foB M j) n : Int)) → M1 163 i = (wl (foB M i) k : Int) → En 54 17 [some (.inr (.inr 161)), some (.inr (.inr 9)), some (.inl (i : Int)), some (.inl (k : Int)), none] [] S M1 Q := by
  have hn8 := hT.1.1
  intro d
  induction d with
  | zero =>
    intro k M1 hd hl h3 h1 h2
    have e : k = n := by omega
    subst e
    apply r_X6_plan_17 hS
    rw [h3]
    refine ⟨fun _ => ⟨by unfold inR; omega, hk M1 hl h3 (fun j hj => ?_)⟩, fun z => by omega⟩
    by_cases hji : j = i
    · rw [hji]; exact h2
    · exact h1 j (by omega)
  | succ d ih =>
    intro k M1 hd hl h3 h1 h2
    have nx : ∀ v : Int, v = (wl (foB M i) (k + 1) : Int) → En 54 17 [some (.inr (.inr 161)), some (.inr (.inr 9)), some (.inl (i : Int)), some (.inl ((k + 1 : Nat) : Int)), none] [] S (up2 M1 163 i v) Q := fun v hv => ih (k + 1) _ (by omega) (Lt_up hl (by omega) _ _) (by rw [up2_row _ _ _ _ (by decide)]; exact h3) (fun j hj => by rw [up2_off _ _ _ _ (by omega)]; exact h1 j hj) (by rw [up2_get]; exact hv)
    apply r_X6_plan_17 hS
    rw [h3, show ((k : Int) + 1) = ((k + 1 : Nat) : Int) by omega, Int.toNat_natCast i, h2, Int.toNat_natCast]
    refine ⟨fun z => by omega, fun _ => ⟨by omega, fun z => ⟨by omega, by omega, by unfold inR; omega, nx _ ?_⟩, fun z => ?_⟩⟩
    · rw [wl, if_neg (fun q => (foB_iff.mp q).1 (by omega))]; rfl
    · have eb : be M1 i k = be M i k := by unfold be; rw [fo_row (hl 174 (by omega)) (hl 179 (by omega)) (hl 180 (by omega))]
      refine sp_quarrelAtTable hS (Lt_Tn hl hT) hi (by omega) (by omega) ⟨_, _, rfl, ?_⟩
      rw [eb]
      unfold be
      obtain ⟨q1, q2, q3⟩ := p2_in (v := k) (by omega)
      cases hb : foB M i k
      · refine ⟨fun _ => ⟨by omega, by omega, by unfold inR; omega, nx _ ?_⟩, fun w => absurd rfl w⟩
        rw [wl, hb, if_neg (by decide)]; rfl
      · refine ⟨fun w => absurd w (by decide), fun _ => ⟨p2k (k := k) (by omega), ?_, by omega, by unfold inR; omega, nx _ ?_⟩⟩
        · rw [Int.toNat_natCast]; exact ⟨by omega, q1⟩
        · rw [wl, hb, if_pos rfl, Int.toNat_natCast, q3]
theorem pl_88 (hS : KC S) {n : Nat} (hT : Tn M 8 0 n) {s : Nat} {x2 : Int} (hs : s < 2 ^ n) (hs0 : s.testBit 0 = true) (hna : s < 2 ^ n - 1) (hk : ∀ M', Lt M M' → Ft M M' n → (∀ t l, s ≤ t → t < 2 ^ n → t.testBit 0 = true → l < n → t.testBit l = true → Tt M M' n t l) → inR ((s : Int) + -2) ∧ En 54 84 [some (.inr (.inr 161)), some (.inr (.inr 9)), some (.inl x2), some (.inl ((s : Int) + -2)), none] [] S M' Q) : ∀ (d l : Nat) (M1 : Mem), l + d = n → Lt M M1 → Ft M M1 n → (∀ t l, s < t → t < 2 ^ n → t.testBit 0 = true → l < n → t.testBit l = true → Tt M M1 n t l) → (∀ l', l' < l → s.testBit l' = true → Tt M M1 n s l') → En 54 88 [some (.inr (.inr 161)), some (.inr (.inr 9)), some (.inl x2), some (.inl (s : Int)), some (.inl (l : Int))] [] S M1 Q := by
  have hn8 := hT.1.1
  have p := p8 hn8
  have hex : ∃ m, m < n ∧ s.testBit m = false := by
    by_cases q : ∃ m, m < n ∧ s.testBit m = false
    · exact q
    · exfalso
      have : s = 2 ^ n - 1 := set_ext (fun k => by
        rw [all_bit]
        by_cases hk : k < n
        · rw [decide_eq_true hk]
          cases hb : s.testBit k
          · exact absurd ⟨k, hk, hb⟩ q
          · rfl
        · rw [big_bit hs (by omega), decide_eq_false hk])
      omega
  intro d
  induction d with
  | zero =>
    intro l M1 hd hl hf ht1 ht2
    have e : l = n := by omega
    subst e
    apply r_X6_plan_88 hS
    rw [hf.1]
    refine ⟨fun _ => hk M1 hl hf (fun t l q1 q2 q3 q4 q5 => ?_), fun z => by omega⟩
    by_cases c : t = s
    · subst c; exact ht2 l q4 q5
    · exact ht1 t l (by omega) q2 q3 q4 q5
  | succ d ih =>
    intro l M1 hd hl hf ht1 ht2
    apply r_X6_plan_88 hS
    rw [hf.1, show ((l : Int) + 1) = ((l + 1 : Nat) : Int) by omega]
    refine ⟨fun z => by omega, fun _ => sp_holds hS (by omega) ⟨_, _, rfl, ?_⟩⟩
    by_cases hb : s.testBit l = true
    · rw [if_pos hb]
      refine ⟨fun z => absurd z (by decide), fun _ => wg_loop hS hn8 hf hs hs0 (by omega) hex (fun m hm hms => ht1 _ m (or_gt hms) (or_lt hs hm) (by rw [or_bit, hs0]; rfl) hm (by rw [or_bit]; simp)) ⟨_, rfl, by unfold inR; omega, ih (l + 1) _ (by omega) (Lt_up (Lt_up hl (by omega) _ _) (by omega) _ _) ⟨by rw [up2_row _ _ _ _ (by decide), up2_row _ _ _ _ (by decide)]; exact hf.1, fun i hi => by rw [up2_row _ _ _ _ (by decide), up2_row _ _ _ _ (by decide)]; exact hf.2 i hi⟩ (fun t l' q1 q2 q3 q4 q5 => ?_) (fun l' q1 q2 => ?_)⟩⟩
      · have a := ht1 t l' q1 q2 q3 q4 q5
        refine ⟨?_, ?_⟩
        · rw [up2_row _ _ _ _ (by decide), up2_off _ _ _ _ (by omega)]; exact a.1
        · rw [up2_off _ _ _ _ (by omega), up2_row _ _ _ _ (by decide)]; exact a.2
      · by_cases c : l' = l
        · subst c
          exact ⟨by rw [up2_row _ _ _ _ (by decide), up2_get], by rw [up2_get]⟩
        · have a := ht2 l' (by omega) q2
          refine ⟨?_, ?_⟩
          · rw [up2_row _ _ _ _ (by decide), up2_off _ _ _ _ (by omega)]; exact a.1
          · rw [up2_off _ _ _ _ (by omega), up2_row _ _ _ _ (by decide)]; exact a.2
    · rw [if_neg hb]
      refine ⟨fun _ => ⟨by unfold inR; omega, ih (l + 1) M1 (by omega) hl hf ht1 (fun l' q1 q2 => ?_)⟩, fun z => absurd rfl z⟩
      by_cases c : l' = l
      · subst c; exact absurd q2 hb
      · exact ht2 l' (by omega) q2
theorem pl_84 (hS : KC S) {n : Nat} (hT : Tn M 8 0 n) {x2 : Int} (h : ∀ M', Lt M M' → Ft M M' n → (∀ t l, t < 2 ^ n → t.testBit 0 = true → l < n → t.testBit l = true → Tt M M' n t l) → Q (S, M', none)) : ∀ (c s : Nat) (M1 : Mem), s ≤ c → s % 2 = 1 → s + 1 < 2 ^ n → Lt M M1 → Ft M M1 n → (∀ t l, s < t → t < 2 ^ n → t.testBit 0 = true → l < n → t.testBit l = true → Tt M M1 n t l) → En 54 84 [some (.inr (.inr 161)), some (.inr (.inr 9)), some (.inl x2), some (.inl (s : Int)), none] [] S M1 Q := by
  have hn8 := hT.1.1
  have p := p8 hn8
  intro c
  induction c with
  | zero => intro s M1 h1 h2; omega
  | succ c ih =>
    intro s M1 h1 h2 h3 hl hf ht
    apply r_X6_plan_84 hS
    refine ⟨fun z => by omega, fun _ => pl_88 hS hT (by omega) (by rw [odd_bit, decide_eq_true h2]) (by omega) (fun M2 l2 f2 t2 => ⟨by unfold inR; omega, ?_⟩) n 0 M1 (by omega) hl hf ht (fun l' q => by omega)⟩
    by_cases c1 : s = 1
    · subst c1
      apply r_X6_plan_84 hS
      refine ⟨fun _ => h M2 l2 f2 (fun t l q1 q2 q3 q4 => t2 t l ?_ q1 q2 q3 q4), fun z => by omega⟩
      rw [odd_bit] at q2
      have := of_decide_eq_true q2
      omega
    · rw [show ((s : Int) + -2) = ((s - 2 : Nat) : Int) by omega]
      refine ih (s - 2) M2 (by omega) (by omega) (by omega) l2 f2 (fun t l q1 q2 q3 q4 q5 => t2 t l ?_ q2 q3 q4 q5)
      rw [odd_bit] at q3
      have := of_decide_eq_true q3
      omega
theorem pl_54 (hS : KC S) {n : Nat} (hT : Tn M 8 0 n) (h : ∀ M', Lt M M' → Ft M M' n → (∀ t l, t < 2 ^ n → t.testBit 0 = true → l < n → t.testBit l = true → Tt M M' n t l) → Q (S, M', none)) : ∀ (d l : Nat) (M1 : Mem), l + d = n → Lt M M1 → Ft M M1 n → (∀ l', l' < l → Tt M M1 n (2 ^ n - 1) l') → En 54 54 [some (.inr (.inr 161)), some (.inr (.inr 9)), some (.inl ((2 ^ n - 1 : Nat) : Int)), some (.inl (l : Int)), none] [] S M1 Q := by
  have hn8 := hT.1.1
  have hn1 : 1 ≤ n := hT.2.1.2.2.1
  have p := p8 hn8
  have p0 : 0 < 2 ^ n := Nat.pow_pos (by decide)
  have ev : 2 ^ n % 2 = 0 := by
    obtain ⟨k, hk⟩ : ∃ k, n = k + 1 := ⟨n - 1, by omega⟩
    rw [hk, Nat.pow_succ]; omega
  have cea : ce (2 ^ n - 1) n = 0 := ce_none n (fun k hk => by rw [all_bit, decide_eq_true hk])
  intro d
  induction d with
  | zero =>
    intro l M1 hd hl hf ht
    have e : l = n := by omega
    subst e
    apply r_X6_plan_54 hS
    rw [hf.1]
    refine ⟨fun _ => ⟨by unfold inR; omega, ?_⟩, fun z => by omega⟩
    by_cases h1 : l = 1
    · subst h1
      apply r_X6_plan_84 hS
      refine ⟨fun _ => h M1 hl hf (fun t l q1 q2 q3 q4 => ?_), fun z => by omega⟩
      rw [odd_bit] at q2
      have := of_decide_eq_true q2
      have et : t = 2 ^ 1 - 1 := by omega
      rw [et]
      exact ht l q3
    · have p4 : 4 ≤ 2 ^ l := by
        have : 2 ^ 2 ≤ 2 ^ l := Nat.pow_le_pow_right (by decide) (by omega)
        omega
      rw [show (((2 ^ l - 1 : Nat) : Int) - 2) = ((2 ^ l - 3 : Nat) : Int) by omega]
      refine pl_84 hS hT h (2 ^ l) (2 ^ l - 3) M1 (by omega) (by omega) (by omega) hl hf (fun t l' q1 q2 q3 q4 q5 => ?_)
      rw [odd_bit] at q3
      have := of_decide_eq_true q3
      have et : t = 2 ^ l - 1 := by omega
      rw [et]
      exact ht l' q4
  | succ d ih =>
    intro l M1 hd hl hf ht
    obtain ⟨t1, t2, t3, t4⟩ := tab_ix (s := 2 ^ n - 1) (m := l) (by omega) (by omega)
    apply r_X6_plan_54 hS
    rw [hf.1, t4, show ((l : Int) + 1) = ((l + 1 : Nat) : Int) by omega]
    refine ⟨fun z => by omega, fun _ => ⟨t1, t2, sp_closing hS hn8 hf (by omega) ⟨_, _, rfl, t3, t1, t2, t3, by unfold inR; omega, ih (l + 1) _ (by omega) (Lt_up (Lt_up hl (by omega) _ _) (by omega) _ _) ⟨by rw [up2_row _ _ _ _ (by decide), up2_row _ _ _ _ (by decide)]; exact hf.1, fun i hi => by rw [up2_row _ _ _ _ (by decide), up2_row _ _ _ _ (by decide)]; exact hf.2 i hi⟩ (fun l' q => ?_)⟩⟩⟩
    by_cases c : l' = l
    · subst c
      unfold Tt
      rw [cea]
      exact ⟨by rw [up2_row _ _ _ _ (by decide), up2_get]; rfl, by rw [up2_get]; rfl⟩
    · have a := ht l' (by omega)
      refine ⟨?_, ?_⟩
      · rw [up2_row _ _ _ _ (by decide), up2_off _ _ _ _ (by omega)]; exact a.1
      · rw [up2_off _ _ _ _ (by omega), up2_row _ _ _ _ (by decide)]; exact a.2
theorem sp_plan (hS : KC S) {n : Nat} (hT : Tn M 8 0 n) (h : ∀ M', Lt M M' → Ft M M' n → (∀ t l, t < 2 ^ n → t.testBit 0 = true → l < n → t.testBit l = true → Tt M M' n t l) → Q (S, M', none)) : Ca 54 [.inr (.inr 161), .inr (.inr 9)] S M Q := by
  have hn8 := hT.1.1
  obtain ⟨a1, a2, a3, a4⟩ := p2m hn8
  have loop : ∀ (d i : Nat) (M1 : Mem), i + d = n → Lt M M1 → M1 160 3 = n → (∀ j, j < i → M1 163 j = (wl (foB M j) n : Int)) → En 54 6 [some (.inr (.inr 161)), some (.inr (.inr 9)), some (.inl (i : Int)), none, none] [] S M1 Q := by
    intro d
    induction d with
    | zero =>
      intro i M1 hd hl h3 h1
      have e : i = n := by omega
      subst e
      apply r_X6_plan_6 hS
      rw [h3]
      refine ⟨fun _ => ⟨a1, a2, ?_⟩, fun z => by omega⟩
      rw [a3]
      exact pl_54 hS hT h i 0 M1 (by omega) hl ⟨h3, h1⟩ (fun l' q => by omega)
    | succ d ih =>
      intro i M1 hd hl h3 h1
      apply r_X6_plan_6 hS
      rw [h3, Int.toNat_natCast]
      refine ⟨fun z => by omega, fun _ => ⟨by omega, pl_17 hS hT (by omega) (fun M2 l2 b2 c2 => ih (i + 1) M2 (by omega) l2 b2 c2) n 0 _ (by omega) (Lt_up hl (by omega) _ _) (by rw [up2_row _ _ _ _ (by decide)]; exact h3) (fun j hj => by rw [up2_off _ _ _ _ (by omega)]; exact h1 j hj) (up2_get _ _ _ _)⟩⟩
  apply r_X6_plan_0 hS
  exact loop n 0 _ (by omega) (Lt_up (fun _ _ => rfl) (by omega) _ _) (by rw [up2_get]; exact hT.2.1.1) (fun j hj => by omega)
end Seats
