/-! year: first letters by draws -/
def yl (z : Int) (i : Nat) : Int := ((7919 * z + 6151 * (i : Int) + 1) * (7919 * z + 6151 * (i : Int) + 1)) % 65521 % 26
theorem yl_in (z : Int) (i : Nat) : 0 ≤ yl z i ∧ yl z i < 26 := ⟨Int.emod_nonneg _ (by decide), Int.emod_lt_of_pos _ (by decide)⟩
theorem yl_b {z : Int} {m : Nat} (hz : 0 ≤ z ∧ z ≤ 9999) (hm : m < 8) : inL (7919 * z) ∧ inL (6151 * (m : Int)) ∧ inL (7919 * z + 6151 * (m : Int)) ∧ inL (7919 * z + 6151 * (m : Int) + 1) ∧ inL ((7919 * z + 6151 * (m : Int) + 1) * (7919 * z + 6151 * (m : Int) + 1)) ∧ (0 ≤ (7919 * z + 6151 * (m : Int) + 1) * (7919 * z + 6151 * (m : Int) + 1) ∧ (0 : Int) < 65521) ∧ (0 ≤ (7919 * z + 6151 * (m : Int) + 1) * (7919 * z + 6151 * (m : Int) + 1) % 65521 ∧ (0 : Int) < 26) ∧ inR ((7919 * z + 6151 * (m : Int) + 1) * (7919 * z + 6151 * (m : Int) + 1) % 65521 % 26) := by
  have y := yl_in z m
  unfold yl at y
  obtain ⟨a, ha⟩ : ∃ a, a = 7919 * z + 6151 * (m : Int) + 1 := ⟨_, rfl⟩
  have b : 0 ≤ a ∧ a ≤ 80000000 := by omega
  have c : 0 ≤ a * a := Int.mul_nonneg b.1 b.1
  have d : a * a ≤ 80000000 * 80000000 := Int.mul_le_mul b.2 b.2 b.1 (by decide)
  rw [← ha] at y ⊢
  refine ⟨by unfold inL; omega, by unfold inL; omega, by unfold inL; omega, by unfold inL; omega, ⟨by omega, by omega⟩, ⟨c, by decide⟩, ⟨Int.emod_nonneg _ (by decide), by decide⟩, by unfold inR; omega⟩
def fyz (M : Mem) (z : Int) : Nat → (Nat → Int)
  | 0 => f0 M
  | m + 1 => if M 180 m = 0 then fyz M z m else fset (fyz M z m) m (yl z m)
theorem fyz_ok {M : Mem} {n : Nat} (hs : sok (M 180) n) (z : Int) : ∀ m, fok (M 180) (fyz M z m) n := by
  intro m
  induction m with
  | zero => exact f0_ok hs
  | succ m ih => rw [fyz]; split; exact ih; exact fok_set ih (yl_in z m)
theorem fyz_at {M : Mem} {z : Int} {i : Nat} (hz : M 180 i ≠ 0) : ∀ m, i < m → fyz M z m i = yl z i := by
  intro m
  induction m with
  | zero => intro h; omega
  | succ m ih =>
    intro h
    rw [fyz]
    by_cases him : i = m
    · subst him; rw [if_neg hz, fset_at]
    · split
      · exact ih (by omega)
      · rw [fset_ne _ _ him]; exact ih (by omega)
/-- the line's names without its keys -/
def Ly (M M1 : Mem) (f : Nat → Int) (n : Nat) : Prop := (∀ q, q < 145 ∨ 156 < q → M1 q = M q) ∧ LnS M1 n ∧ (∀ i, i < n → M1 147 i = M 180 i) ∧ (∀ (i k : Nat), i < n → (k : Int) < M 180 i → M1 148 (6 * i + k) = fl (fun k => M 180 (8 + 6 * i + k)) (f i) k) ∧ (∀ i, i < n → M1 149 i = M 175 i) ∧ (M1 146 1 = M 174 1 ∧ M1 146 3 = M 174 3 ∧ M1 146 4 = M 174 5) ∧ (∀ x, x < 26 → M1 154 x = M 180 (144 + x))
theorem Ly_tf {M M1 : Mem} {f : Nat → Int} {n : Nat} (hs : sok (M 180) n) (h : Ly M M1 f n) {i : Nat} (hi : i < n) : tf M1 146 i = if M 180 i = 0 then -4 else f i := by
  have g := (hs.1 i hi).1
  have a : M1 (146 + 1) i = M 180 i := h.2.2.1 i hi
  unfold tf
  rw [a]
  by_cases hz : M 180 i = 0
  · rw [if_neg (by omega), if_pos hz]
  · rw [if_pos (by omega), if_neg hz]
    exact h.2.2.2.1 i 0 hi (by omega)
theorem Ly_set {M M1 : Mem} {f : Nat → Int} {n : Nat} (hs : sok (M 180) n) (h : Ly M M1 f n) {i : Nat} (x : Int) : Ly M (up2 M1 148 (6 * i) x) (fset f i x) n := by
  obtain ⟨a0, a1, a3, a4, a5, a6, a7⟩ := h
  have R : ∀ q, q ≠ 148 → up2 M1 148 (6 * i) x q = M1 q := fun q q2 => up2_row _ _ _ _ q2
  refine ⟨fun q hq => by rw [R q (by omega)]; exact a0 q hq, ?_, fun j hj => by rw [R 147 (by decide)]; exact a3 j hj, fun j k hj hk => ?_, fun j hj => by rw [R 149 (by decide)]; exact a5 j hj, by rw [R 146 (by decide)]; exact a6, fun y hy => by rw [R 154 (by decide)]; exact a7 y hy⟩
  · unfold LnS
    rw [R 146 (by decide), R 149 (by decide)]
    exact a1
  · rw [up2_any]
    have g := (hs.1 j hj).1
    by_cases hji : j = i
    · subst hji
      rw [fset_at]
      by_cases hk0 : k = 0
      · subst hk0; rw [if_pos ⟨rfl, rfl⟩]; rfl
      · rw [if_neg (by omega), a4 j k hj hk]
        unfold fl
        rw [if_neg hk0, if_neg hk0]
    · rw [if_neg (by omega), fset_ne f _ hji]; exact a4 j k hj hk
theorem Ly_key {M M1 : Mem} {f : Nat → Int} {n : Nat} (hs : sok (M 180) n) (hf : fok (M 180) f n) (h : Ly M M1 f n) {i : Nat} (hi : i < n) : tkeyOf M1 146 i = nk (M 180) f i := by
  rw [tkeyOf_g]
  exact gkeyOf_congr (fl_gok (hs.1 i hi) (fun hz => hf i hi hz)) (h.2.2.1 i hi) (fun k hk => h.2.2.2.1 i k hi hk) (fun x hx => h.2.2.2.2.2.2 x hx)
theorem Ly_names {M M1 : Mem} {f : Nat → Int} {n : Nat} (hs : sok (M 180) n) (hf : fok (M 180) f n) (h : Ly M M1 f n) : tNames M1 146 n := by
  refine ⟨h.2.1.2.1, fun i k hi => ?_, fun x hx => ?_⟩
  · have g := fl_gok (hs.1 i hi) (x := f i) (fun hz => hf i hi hz)
    have e : tl M1 146 i k = gtl (M 180 i) (fl (fun k => M 180 (8 + 6 * i + k)) (f i)) k := gtl_congr (lt' := fun k => M1 (146 + 2) (6 * i + k)) (h.2.2.1 i hi) (fun k hk _ => h.2.2.2.1 i k hi hk) k
    rw [e]
    exact gtl_in g k
  · have e : M1 (146 + 8) x = M 180 (144 + x) := h.2.2.2.2.2.2 x hx
    rw [e]; exact hs.2.1 x hx
def ofc (M : Mem) (z : Int) (i : Nat) : Bool := decide ((if M 180 i = 0 then (-4 : Int) else yl z i) < 0 ∨ (M 174 5).toNat.testBit (if M 180 i = 0 then (-4 : Int) else yl z i).toNat = true)
section Yearz
variable {S : Shp} {M : Mem} {Q : Res → Prop}
theorem draw_loop (hS : KC S) {n : Nat} (hT : Tn M 8 0 n) {z : Int} (hz : 0 ≤ z ∧ z ≤ 9999) (h : ∀ M', Ly M M' (fyz M z n) n → Q (S, M', none)) : ∀ (d m : Nat) (M1 : Mem), m + d = n → Ly M M1 (fyz M z m) n → En 92 2 [some (.inr (.inr 147)), some (.inl z), some (.inl (m : Int)), none, none] [] S M1 Q := by
  have hn8 := hT.1.1
  have hs := Tn_sok hT
  intro d
  induction d with
  | zero =>
    intro m M1 hm hl
    have e : m = n := by omega
    subst e
    refine r_X7_drawFirstLetters_2 (t := 146) hS (by decide) ?_
    rw [hl.2.1.1]
    exact ⟨fun _ => h M1 hl, fun z => by omega⟩
  | succ d ih =>
    intro m M1 hm hl
    have ek : ((m : Int) + 1) = ((m + 1 : Nat) : Int) := by omega
    obtain ⟨b1, b2, b3, b4, b5, b6, b7, b8⟩ := yl_b (m := m) hz (by omega)
    refine r_X7_drawFirstLetters_2 (t := 146) hS (by decide) ?_
    rw [hl.2.1.1, ek]
    refine ⟨fun z => by omega, fun _ => ⟨b1, b2, b3, b4, b5, b6, b7, b8, sp_setFirst (t := 146) hS (by decide) (by omega) ⟨_, rfl, by unfold inR; omega, ?_⟩⟩⟩
    have e147 : M1 (146 + 1) m = M 180 m := hl.2.2.1 m (by omega)
    rw [e147]
    refine ih (m + 1) _ (by omega) ?_
    rw [fyz]
    by_cases h0 : M 180 m = 0
    · rw [if_pos h0, if_pos h0]; exact hl
    · rw [if_neg h0, if_neg h0]; exact Ly_set hs hl _
theorem cO_loop (hS : KC S) {n : Nat} (hT : Tn M 8 0 n) {z : Int} {M1 : Mem} (hl : Ly M M1 (fyz M z n) n) (h : Q (S, M1, some (.inl (cntB (ofc M z) n)))) : ∀ (d m : Nat), m + d = n → En 82 4 [some (.inr (.inr 147)), some (.inl (cntB (ofc M z) m)), some (.inl (m : Int))] [] S M1 Q := by
  have hn8 := hT.1.1
  have hs := Tn_sok hT
  have hv0 : 0 ≤ M 174 5 := hT.2.2.2.2.2.1.2.1
  intro d
  induction d with
  | zero =>
    intro m hm
    have e : m = n := by omega
    subst e
    refine r_X7_countOffice_4 (t := 146) hS (by decide) ?_
    rw [hl.2.1.1]
    exact ⟨fun _ => h, fun z => by omega⟩
  | succ d ih =>
    intro m hm
    have ek : ((m : Int) + 1) = ((m + 1 : Nat) : Int) := by omega
    have b := cntB_in (p := ofc M z) m
    have nx := ih (m + 1) (by omega)
    rw [cntB] at nx
    have e147 : M1 (146 + 1) m = M 180 m := hl.2.2.1 m (by omega)
    have etf : tf M1 146 m = if M 180 m = 0 then -4 else yl z m := by
      rw [Ly_tf hs hl (by omega)]
      by_cases h0 : M 180 m = 0
      · rw [if_pos h0, if_pos h0]
      · rw [if_neg h0, if_neg h0, fyz_at h0 n (by omega)]
    have g := (hs.1 m (by omega)).1
    refine r_X7_countOffice_4 (t := 146) hS (by decide) ?_
    rw [hl.2.1.1, ek]
    refine ⟨fun z => by omega, fun _ => sp_holdsOffice (t := 146) hS (by decide) (by omega) (by rw [e147]; exact g.1) (fun h0 => by rw [e147] at h0; rw [etf, if_neg h0]; exact yl_in z m) (by rw [hl.2.2.2.2.2.1.2.2]; exact hv0) ⟨_, _, rfl, ?_⟩⟩
    rw [etf, hl.2.2.2.2.2.1.2.2]
    have eo : ofc M z m = decide ((if M 180 m = 0 then (-4 : Int) else yl z m) < 0 ∨ (M 174 5).toNat.testBit (if M 180 m = 0 then (-4 : Int) else yl z m).toNat = true) := rfl
    by_cases hb : (if M 180 m = 0 then (-4 : Int) else yl z m) < 0 ∨ (M 174 5).toNat.testBit (if M 180 m = 0 then (-4 : Int) else yl z m).toNat = true
    · rw [if_pos hb]
      rw [eo, decide_eq_true hb, if_pos rfl] at nx
      exact ⟨fun z => absurd z (by decide), fun _ => ⟨by unfold inR; omega, by unfold inR; omega, nx⟩⟩
    · rw [if_neg hb]
      rw [eo, decide_eq_false hb, if_neg (by decide)] at nx
      exact ⟨fun _ => ⟨by unfold inR; omega, by unfold inR; omega, nx⟩, fun z => absurd rfl z⟩
theorem yM_loop (hM : KM S) {n : Nat} (hT : Tn M 8 0 n) {z q : Int} (hz : 0 ≤ z ∧ z ≤ 9999) (h : ∀ M', Tr M M' (fyz M z n) → ((q ≠ 1 → Ca 164 [.inr (.inr 173), .inl (11 : Int)] S M' (fun r => ∃ (M2 : Mem) (v3 : Int), r = (S, M2, some (.inl v3)) ∧ Q (S, M2, some (.inl v3)))) ∧ (q = 1 → Q (S, M', some (.inl (cntB (ofc M z) n)))))) : ∀ (d m : Nat) (M1 : Mem), m + d = n → Tr M M1 (fyz M z m) → En 215 22 [some (.inr (.inr 173)), some (.inl z), some (.inl q), some (.inl (cntB (ofc M z) m)), some (.inl (m : Int)), none, none] [] S M1 Q := by
  have hn8 := hT.1.1
  have hs := Tn_sok hT
  have hv0 : 0 ≤ M 174 5 := hT.2.2.2.2.2.1.2.1
  intro d
  induction d with
  | zero =>
    intro m M1 hm ht
    have e : m = n := by omega
    subst e
    apply r_X9_year_22 hM
    have e0 : M1 174 (0 : Int).toNat = m := (Tr_bnd hT ht).1
    rw [e0]
    exact ⟨by decide, fun _ => h M1 ht, fun z => by omega⟩
  | succ d ih =>
    intro m M1 hm ht
    have ek : ((m : Int) + 1) = ((m + 1 : Nat) : Int) := by omega
    have e1 : ((1878 : Int) + (6 : Int) * m).toNat = 1878 + 6 * m := by omega
    obtain ⟨b1, b2, b3, b4, b5, b6, b7, b8⟩ := yl_b (m := m) hz (by omega)
    have b := cntB_in (p := ofc M z) m
    apply r_X9_year_22 hM
    have e0 : M1 174 (0 : Int).toNat = n := (Tr_bnd hT ht).1
    rw [e0, ek, e1]
    refine ⟨by decide, fun z => by omega, fun _ => ⟨b1, b2, b3, b4, sq_first (s := 0) hM (by decide) (by omega) ⟨_, _, rfl, ?_⟩⟩⟩
    have emf : mf M1 0 m = if M 180 m = 0 then -4 else f0 M m := by
      unfold mf f0
      rw [ht.2.2.1 _ (by omega), ht.2.2.1 _ (by omega)]
      simp
    have eo : ofc M z m = decide ((if M 180 m = 0 then (-4 : Int) else yl z m) < 0 ∨ (M 174 5).toNat.testBit (if M 180 m = 0 then (-4 : Int) else yl z m).toNat = true) := rfl
    have fin : ∀ M2, Tr M M2 (fyz M z (m + 1)) → Ca 161 [.inr (.inr 173), .inl (11 : Int), .inl (m : Int)] S M2 (fun r => ∃ (M10 : Mem) (v11 : Int), r = (S, M10, some (.inl v11)) ∧ ((v11 = 0 → (inR (cntB (ofc M z) m + (0 : Int))) ∧ (inR ((m + 1 : Nat) : Int)) ∧ En 215 22 [some (.inr (.inr 173)), some (.inl z), some (.inl q), some (.inl (cntB (ofc M z) m + (0 : Int))), some (.inl ((m + 1 : Nat) : Int)), none, none] [] S M10 Q) ∧ (v11 ≠ 0 → (inR (cntB (ofc M z) m + (1 : Int))) ∧ (inR ((m + 1 : Nat) : Int)) ∧ En 215 22 [some (.inr (.inr 173)), some (.inl z), some (.inl q), some (.inl (cntB (ofc M z) m + (1 : Int))), some (.inl ((m + 1 : Nat) : Int)), none, none] [] S M10 Q))) := fun M2 t2 => by
      have nx := ih (m + 1) M2 (by omega) t2
      rw [cntB] at nx
      have e5 : M2 174 5 = M 174 5 := by rw [t2.1 174 (by decide) (by decide) (by decide)]
      have em : mf M2 11 m = if M 180 m = 0 then -4 else yl z m := by
        rw [Tr_mf t2 (by omega)]
        by_cases h0 : M 180 m = 0
        · rw [if_pos h0, if_pos h0]
        · rw [if_neg h0, if_neg h0, fyz_at h0 (m + 1) (by omega)]
      refine sq_isOffice (s := 11) hM (by decide) (by omega) (by rw [e5]; exact hv0) (by rw [em]; split; exact Or.inl rfl; exact Or.inr (yl_in z m)) ⟨_, _, rfl, ?_⟩
      rw [em, e5]
      by_cases hb : (if M 180 m = 0 then (-4 : Int) else yl z m) < 0 ∨ (M 174 5).toNat.testBit (if M 180 m = 0 then (-4 : Int) else yl z m).toNat = true
      · rw [if_pos hb]
        rw [eo, decide_eq_true hb, if_pos rfl] at nx
        exact ⟨fun z => absurd z (by decide), fun _ => ⟨by unfold inR; omega, by unfold inR; omega, nx⟩⟩
      · rw [if_neg hb]
        rw [eo, decide_eq_false hb, if_neg (by decide)] at nx
        exact ⟨fun _ => ⟨by unfold inR; omega, by unfold inR; omega, nx⟩, fun z => absurd rfl z⟩
    rw [emf]
    by_cases h0 : M 180 m = 0
    · rw [if_pos h0]
      refine ⟨fun _ => fin M1 (by rw [fyz, if_pos h0]; exact ht), fun z => absurd z (by decide)⟩
    · rw [if_neg h0]
      have hf := f0_ok hs m (by omega) h0
      refine ⟨fun z => by omega, fun _ => ⟨by unfold inR; omega, by unfold inR; omega, b5, b6, b7, b8, by omega, fin _ ?_⟩⟩
      rw [fyz, if_neg h0]
      exact Tr_up ht (by omega) _
theorem sim_year (hS : KC S) (hM : KM S) (hR : Rel M) (p q : Int) : Sim S M 128 215 [.inl p, .inl q] := by
  obtain ⟨n, hT, -⟩ := id hR
  have hn8 := hT.1.1
  have hn : M 8 0 = n := hT.2.1.1
  have hs := Tn_sok hT
  by_cases hp : 0 ≤ p ∧ p ≤ 9999
  · by_cases hq : 0 ≤ q ∧ q ≤ 1
    · have fk := fyz_ok hs p n
      refine Sim.query2 hR (if q = 0 then lfull (nk (M 180) (fyz M p n)) (M 175) (M 174 1) n n else cntB (ofc M p) n) (fun Q h => ?_) (fun M1 s1 k1 hR1 Q h => ?_)
      · apply r_X8_year_0 hS
        refine ⟨fun z => by omega, fun _ => ⟨fun z => by omega, fun _ => ⟨fun z => by omega, fun _ => ⟨fun _ => ?_, fun z => by omega⟩⟩⟩⟩
        refine sp_lineNow hS hn (Tn_names hT) (fun M1 hl => ⟨_, rfl, ?_⟩)
        have l := Lr_LN hT hl
        refine r_X7_drawFirstLetters_0 (t := 146) hS (by decide) (draw_loop hS hT hp (fun M2 l2 => ⟨_, rfl, ?_⟩) n 0 M1 (by omega) ⟨l.1, l.2.1, l.2.2.2.1, l.2.2.2.2.1, l.2.2.2.2.2.1, l.2.2.2.2.2.2.1, l.2.2.2.2.2.2.2.1⟩)
        refine sp_sort hS l2.2.1.1 (Ly_names hs fk l2) (fun M3 g1 g2 => ⟨_, rfl, ?_⟩)
        have l3 : Ly M M3 (fyz M p n) n := by
          obtain ⟨a0, a1, a3, a4, a5, a6, a7⟩ := l2
          refine ⟨fun q hq => by rw [g1 q (by omega)]; exact a0 q hq, ?_, fun j hj => by rw [g1 147 (by decide)]; exact a3 j hj, fun j k hj hk => by rw [g1 148 (by decide)]; exact a4 j k hj hk, fun j hj => by rw [g1 149 (by decide)]; exact a5 j hj, by rw [g1 146 (by decide)]; exact a6, fun y hy => by rw [g1 154 (by decide)]; exact a7 y hy⟩
          unfold LnS
          rw [g1 146 (by decide), g1 149 (by decide)]
          exact a1
        have sm : Same M M3 ∧ ∀ q, 172 ≤ q → M3 q = M q := ⟨fun q k hq => by
          have : q < 145 ∨ 156 < q := by unfold scr at hq; omega
          rw [l3.1 q this], fun q hq => l3.1 q (by omega)⟩
        have hh := h M3 sm.1 sm.2
        refine ⟨fun z => ?_, fun z => ?_⟩
        · refine r_X7_countOffice_0 (t := 146) hS (by decide) (cO_loop hS hT l3 ⟨_, _, rfl, ?_⟩ n 0 (by omega))
          rw [if_neg z] at hh; exact hh
        · refine sp_countFull hS l3.2.1 ⟨_, _, rfl, ?_⟩
          rw [lfull_congr l3.2.2.2.2.2.1.1 (fun j hj => ⟨(g2 j hj).trans (Ly_key hs fk l2 hj), l3.2.2.2.2.1 j hj⟩) n (Nat.le_refl n)]
          rw [if_pos z] at hh; exact hh
      · have hT1 := Rel_n hT s1 hR1
        apply r_X9_year_0 hM
        refine sq_in hM ⟨_, _, rfl, ?_⟩
        rw [if_pos hp]
        refine ⟨fun z => absurd z (by decide), fun _ => sq_in hM ⟨_, _, rfl, ?_⟩⟩
        rw [if_pos hq]
        refine ⟨fun _ => sq_copies hM (a := 0) (b := 11) (by decide) (by decide) (by decide) (fun M7 c7 => ⟨_, rfl, ?_⟩), fun z => absurd z (by decide)⟩
        have e180 := k1 180 (by decide)
        have e174 := k1 174 (by decide)
        have e175 := k1 175 (by decide)
        have eo : ofc M1 p = ofc M p := by funext i; unfold ofc; rw [e180, e174]
        have ef : ∀ m, fyz M1 p m = fyz M p m := fun m => by
          induction m with
          | zero => exact f0_row k1
          | succ m ih => rw [fyz, fyz, ih, e180]
        refine yM_loop hM hT1 hp (fun M8 t8 => ⟨fun z => ?_, fun z => ?_⟩) n 0 M7 (by omega) (Tr_cp c7)
        · have fk1 := fyz_ok (Tn_sok hT1) p n
          refine sq_morning hM (s := 11) (by decide) (Tr_bnd hT1 t8) (Tr_mN hn8 (Tn_sok hT1) fk1 t8) (fun M9 g1 _ => ⟨_, _, rfl, ?_⟩)
          have t9 := Tr_g t8 g1
          have hh := h M9 (Tr_same t9)
          rw [if_pos (by omega)] at hh
          rw [lfull_congr (K := nk (M 180) (fyz M p n)) (W := M 175) (g := M 174 1) (by rw [t8.1 174 (by decide) (by decide) (by decide), e174]) (fun j hj => ⟨by rw [Tr_mK hn8 (Tn_sok hT1) fk1 t8 hj, e180, ef], by rw [t8.1 175 (by decide) (by decide) (by decide), e175]⟩) n (Nat.le_refl n)]
          exact hh
        · have hh := h M8 (Tr_same t8)
          rw [if_neg (by omega)] at hh
          rw [eo]; exact hh
    · refine Sim.query2 hR (-1) (fun Q h => ?_) (fun M1 s1 k1 hR1 Q h => ?_)
      · apply r_X8_year_0 hS
        exact ⟨fun z => by omega, fun _ => ⟨fun z => by omega, fun _ => ⟨fun z => h M (Same.refl M) (fun _ _ => rfl), fun _ => ⟨fun z => by omega, fun z => h M (Same.refl M) (fun _ _ => rfl)⟩⟩⟩⟩
      · apply r_X9_year_0 hM
        refine sq_in hM ⟨_, _, rfl, ?_⟩
        rw [if_pos hp]
        refine ⟨fun z => absurd z (by decide), fun _ => sq_in hM ⟨_, _, rfl, ?_⟩⟩
        rw [if_neg hq]
        exact ⟨fun z => absurd rfl z, fun _ => h M1 (Same.refl M1)⟩
  · refine Sim.query2 hR (-1) (fun Q h => ?_) (fun M1 s1 k1 hR1 Q h => ?_)
    · apply r_X8_year_0 hS
      exact ⟨fun z => h M (Same.refl M) (fun _ _ => rfl), fun _ => ⟨fun z => h M (Same.refl M) (fun _ _ => rfl), fun z => by omega⟩⟩
    · apply r_X9_year_0 hM
      refine sq_in hM ⟨_, _, rfl, ?_⟩
      rw [if_neg hp]
      exact ⟨fun _ => h M1 (Same.refl M1), fun z => absurd rfl z⟩
end Yearz
