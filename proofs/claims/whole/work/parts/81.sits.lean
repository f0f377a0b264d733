/-! seats: who sits where; the call -/
theorem ce_0 : ∀ m, ce 0 m = m := by
  intro m
  induction m with
  | zero => rfl
  | succ m ih => rw [ce, ih, Nat.zero_testBit]; rfl
theorem ce_1 {n : Nat} (h : 1 ≤ n) : ce 1 n = n - 1 := by
  have := ce_set (s := 0) (i := 0) (Nat.zero_testBit 0) n
  rw [if_pos (by omega), ce_0] at this
  have e : (0 : Nat) ||| 2 ^ 0 = 1 := rfl
  rw [e] at this
  omega
theorem one_bit (k : Nat) : (1 : Nat).testBit k = decide (0 = k) := Nat.testBit_two_pow (n := 0) (m := k)
section Sits
variable {S : Shp} {M : Mem} {Q : Res → Prop}
theorem sp_nextBehind (hS : KC S) {n : Nat} (hn : n ≤ 8) {M1 : Mem} (hf : Ft M M1 n) (ht : ∀ t l, t < 2 ^ n → t.testBit 0 = true → l < n → t.testBit l = true → Tt M M1 n t l) {s l e : Nat} (hs : s < 2 ^ n) (hs0 : s.testBit 0 = true) (hl : l < n) (hsl : s.testBit l = true) (he : ce s n = e + 1) (he7 : e ≤ 6) (h : ∀ k, k < n → s.testBit k = false → ce (s ||| 2 ^ k) n = e → (tr (be M) (clo M n) n (e + 1) s l).2.2 = rset (tr (be M) (clo M n) n e (s ||| 2 ^ k) k).2.2 (n - (e + 1)) k → Q (S, M1, some (.inl (k : Int)))) : Ca 62 [.inr (.inr 161), .inl (s : Int), .inl (l : Int)] S M1 Q := by
  have p := p8 hn
  have gd := sgood_M M n
  obtain ⟨f, hfd⟩ : ∃ f : Nat → T3, f = (fun m => (be M l m + (tr (be M) (clo M n) n e (s ||| 2 ^ m) m).1, (tr (be M) (clo M n) n e (s ||| 2 ^ m) m).2.1, rset (tr (be M) (clo M n) n e (s ||| 2 ^ m) m).2.2 (n - (e + 1)) m)) := ⟨_, rfl⟩
  have etr : tr (be M) (clo M n) n (e + 1) s l = trS f s n := by rw [tr, hfd]
  rw [etr] at h
  have cek : ∀ m, m < n → s.testBit m = false → ce (s ||| 2 ^ m) n = e := fun m hm hms => by
    have := ce_set hms n
    rw [if_pos hm] at this
    omega
  have fb : ∀ m, m < n → s.testBit m = false → (f m).1 < 9 := fun m hm hms => by
    have a := tr_in gd hn e (s ||| 2 ^ m) m (cek m hm hms) (by omega)
    have b := gd.1 l m
    rw [hfd]
    dsimp only
    omega
  obtain ⟨i, hi, his⟩ := ce_ex (s := s) n (by omega)
  rcases trS_first (f := f) (s := s) n fb with ⟨q, _⟩ | ⟨k0, k0n, k0s, k03, k04, k05⟩
  · rw [q i hi] at his; cases his
  · have k1 : 1 ≤ k0 := by
      by_cases c : k0 = 0
      · subst c; rw [hs0] at k0s; cases k0s
      · omega
    have tsl := ht s l hs hs0 hl hsl
    unfold Tt at tsl
    rw [he, etr] at tsl
    obtain ⟨t1, t2, t3, t4⟩ := tab_ix (s := s) (m := l) (by omega) (by omega)
    have loop : ∀ d m : Nat, m + d = k0 → 1 ≤ m → En 62 2 [some (.inr (.inr 161)), some (.inl (s : Int)), some (.inl (l : Int)), some (.inl (m : Int))] [] S M1 Q := by
      intro d
      induction d with
      | zero =>
        intro m hm _
        have e : m = k0 := by omega
        subst e
        apply r_X6_nextBehind_2 hS
        rw [hf.1, show ((m : Int) + 1) = ((m + 1 : Nat) : Int) by omega, t4]
        refine ⟨fun z => by omega, fun _ => sp_holds hS (by omega) ⟨_, _, rfl, ?_⟩⟩
        rw [k0s, if_neg (by decide)]
        have tm := ht (s ||| 2 ^ m) m (or_lt hs k0n) (by rw [or_bit, hs0]; rfl) k0n (by rw [or_bit]; simp)
        refine ⟨fun z => absurd rfl z, fun _ => sp_quarrelsBy hS hn hf hs hl k0n tm (by rw [cek m k0n k0s]; omega) ⟨_, _, rfl, t1, t2, t3, fun z => ?_, fun z => h m k0n k0s (cek m k0n k0s) ?_⟩⟩
        · rw [cek m k0n k0s, tsl.1, k03] at z
          rw [hfd] at z
          exact absurd rfl z
        · rw [k04, hfd]
      | succ d ih =>
        intro m hm h1
        apply r_X6_nextBehind_2 hS
        rw [hf.1, show ((m : Int) + 1) = ((m + 1 : Nat) : Int) by omega, t4]
        refine ⟨fun z => by omega, fun _ => sp_holds hS (by omega) ⟨_, _, rfl, ?_⟩⟩
        by_cases hb : s.testBit m = true
        · rw [if_pos hb]
          exact ⟨fun _ => ⟨by unfold inR; omega, ih (m + 1) (by omega) (by omega)⟩, fun z => absurd z (by decide)⟩
        · rw [if_neg hb]
          have hbf : s.testBit m = false := by simpa using hb
          have tm := ht (s ||| 2 ^ m) m (or_lt hs (by omega)) (by rw [or_bit, hs0]; rfl) (by omega) (by rw [or_bit]; simp)
          have ce1 := cek m (by omega) hbf
          refine ⟨fun z => absurd rfl z, fun _ => sp_quarrelsBy hS hn hf hs hl (by omega) tm (by rw [ce1]; omega) ⟨_, _, rfl, t1, t2, t3, fun z => ⟨by unfold inR; omega, ih (m + 1) (by omega) (by omega)⟩, fun z => ?_⟩⟩
          have lt := k05 m (by omega) hbf
          rw [ce1, tsl.1, k03] at z
          rw [hfd] at lt z
          dsimp only at lt z
          omega
    apply r_X6_nextBehind_0 hS
    exact loop (k0 - 1) 1 (by omega) (Nat.le_refl 1)
theorem si_loop (hS : KC S) {n place : Nat} (hn : n ≤ 8) (hpl : place < n) {M1 : Mem} (hf : Ft M M1 n) (ht : ∀ t l, t < 2 ^ n → t.testBit 0 = true → l < n → t.testBit l = true → Tt M M1 n t l) {B : Nat → Nat} (h : Q (S, M1, some (.inl (B place : Int)))) : ∀ (d k s l : Nat), k + d = place → s < 2 ^ n → s.testBit 0 = true → l < n → s.testBit l = true → k + ce s n + 1 = n → l = B k → (∀ j, k < j → j < n → B j = (tr (be M) (clo M n) n (ce s n) s l).2.2 j) → En 61 6 [some (.inr (.inr 161)), some (.inl (place : Int)), some (.inl (s : Int)), some (.inl (l : Int)), some (.inl (k : Int))] [] S M1 Q := by
  have p := p8 hn
  intro d
  induction d with
  | zero =>
    intro k s l hk hs hs0 hl hsl hce hB hBj
    have e : k = place := by omega
    subst e
    apply r_X6_sitterAt_6 hS
    rw [hB]
    exact ⟨fun _ => h, fun z => by omega⟩
  | succ d ih =>
    intro k s l hk hs hs0 hl hsl hce hB hBj
    obtain ⟨e, he⟩ : ∃ e, ce s n = e + 1 := ⟨ce s n - 1, by omega⟩
    apply r_X6_sitterAt_6 hS
    refine ⟨fun z => by omega, fun _ => ⟨fun z => by omega, fun _ => sp_nextBehind hS hn hf ht hs hs0 hl hsl he (by omega) (fun m mn ms mc mt => ⟨_, _, rfl, p2k (k := m) (by omega), ?_⟩)⟩⟩
    obtain ⟨q1, q2, q3⟩ := p2_in (v := m) (by omega)
    rw [Int.toNat_natCast, Int.toNat_natCast, q3, show ((k : Int) + 1) = ((k + 1 : Nat) : Int) by omega]
    rw [he, mt, show n - (e + 1) = k + 1 by omega] at hBj
    refine ⟨⟨by omega, q1⟩, by unfold inR; omega, ih (k + 1) (s ||| 2 ^ m) m (by omega) (or_lt hs mn) (by rw [or_bit, hs0]; rfl) mn (by rw [or_bit]; simp) (by omega) ?_ (fun j j1 j2 => ?_)⟩
    · rw [hBj (k + 1) (by omega) (by omega)]
      exact (if_pos rfl).symm
    · rw [hBj j (by omega) j2, mc]
      exact if_neg (by omega)
theorem sm_16 (hM : KM S) {x1 : Int} (h : ∀ M', Mc M M' → (∀ k, k < 8 → M' 185 k = (k : Int)) → En 207 32 [some (.inr (.inr 173)), some (.inl x1), some (.inl (99 : Int)), some (.inl (0 : Int)), some (.inl (1 : Int)), none, none] [] S M' Q) : ∀ (d k : Nat) (M1 : Mem), k + d = 8 → Mc M M1 → (∀ j, j < k → M1 185 j = (j : Int)) → En 207 16 [some (.inr (.inr 173)), some (.inl x1), some (.inl (k : Int)), none, none, none, none] [] S M1 Q := by
  intro d
  induction d with
  | zero =>
    intro k M1 hk hl h1
    apply r_X9_seats_16 hM
    exact ⟨fun _ => h M1 hl (fun j hj => h1 j (by omega)), fun z => by omega⟩
  | succ d ih =>
    intro k M1 hk hl h1
    apply r_X9_seats_16 hM
    rw [Int.toNat_natCast, show ((k : Int) + 1) = ((k + 1 : Nat) : Int) by omega]
    refine ⟨fun z => by omega, fun _ => ⟨by omega, by unfold inR; omega, ih (k + 1) _ (by omega) (Mc_up5 hl _ _) (fun j hj => ?_)⟩⟩
    rw [up2_any]
    by_cases hjk : j = k
    · rw [if_pos ⟨rfl, hjk⟩, hjk]
    · rw [if_neg (fun z => hjk z.2)]; exact h1 j (by omega)
theorem sm_all (hM : KM S) {n : Nat} (hT : Tn M 8 0 n) {x1 : Int} (hx : -2 ≤ x1 ∧ x1 ≤ (n : Int) - 1) (h : ∀ M', Mc M M' → (x1 = -1 → Q (S, M', some (.inl (tr (be M) (clo M n) n (n - 1) 1 0).1))) ∧ (x1 = -2 → Q (S, M', some (.inl (tr (be M) (clo M n) n (n - 1) 1 0).2.1))) ∧ (0 ≤ x1 → Q (S, M', some (.inl ((full (fun _ => 0) 1 (tr (be M) (clo M n) n (n - 1) 1 0).2.2 x1.toNat : Nat) : Int))))) : Ca 207 [.inr (.inr 173), .inl x1] S M Q := by
  have hn8 := hT.1.1
  have hn1 : 1 ≤ n := hT.2.1.2.2.1
  have e0 : M 174 (0 : Int).toNat = n := hT.2.1.2.1
  have c1 := ce_1 hn1
  have tb := tr_in (sgood_M M n) hn8 (n - 1) 1 0 c1 (by omega)
  have w7 : (8 : Nat) ^ (n - 1) ≤ 8 ^ 7 := Nat.pow_le_pow_right (by decide) (by omega)
  have w7b : (8 : Nat) ^ 7 = 2097152 := by decide
  apply r_X9_seats_0 hM
  rw [e0]
  refine ⟨by decide, by unfold inR; omega, sq_in hM ⟨_, _, rfl, ?_⟩⟩
  rw [if_pos hx]
  refine ⟨fun _ => sm_16 hM (fun M1 l1 r1 => ?_) 8 0 M (by omega) (fun _ _ _ => rfl) (fun j hj => by omega), fun z => absurd z (by decide)⟩
  have ecm : cmb ((99, 0, fun _ => 0) : T3) (lift (pq (be M) (fun _ => 0) (1 - 1)) (fun _ => 0) 1 (tr (be M) (clo M n) n (n - 1) 1 0)) = ((tr (be M) (clo M n) n (n - 1) 1 0).1, (tr (be M) (clo M n) n (n - 1) 1 0).2.1, full (fun _ => 0) 1 (tr (be M) (clo M n) n (n - 1) 1 0).2.2) := by
    have : lift (pq (be M) (fun _ => 0) (1 - 1)) (fun _ => 0) 1 (tr (be M) (clo M n) n (n - 1) 1 0) = ((tr (be M) (clo M n) n (n - 1) 1 0).1, (tr (be M) (clo M n) n (n - 1) 1 0).2.1, full (fun _ => 0) 1 (tr (be M) (clo M n) n (n - 1) 1 0).2.2) := by
      unfold lift
      rw [show (1 - 1 : Nat) = 0 from rfl, pq, Int.zero_add]
    rw [this]
    exact cmb_lt (by show (tr (be M) (clo M n) n (n - 1) 1 0).1 < 99; omega)
  have a1 : ∀ k, k < 1 → M1 185 k = (((fun _ => 0 : Nat → Nat) k : Nat) : Int) := fun k hk => by
    have e : k = 0 := by omega
    subst e
    exact r1 0 (by decide)
  have a2 : As n (M1 185) 1 1 := by
    refine ⟨fun k q1 q2 => by rw [r1 k (by omega), r1 (k + 1) (by omega)]; omega, fun k q1 q2 => ⟨k, q2, r1 k (by omega), by rw [one_bit]; simp; omega⟩, fun y yn ys => ⟨y, ?_, yn, r1 y (by omega)⟩⟩
    by_cases c : y = 0
    · subst c; rw [one_bit] at ys; simp at ys
    · omega
  refine se_T hM hT (n - 1) 1 1 (fun _ => 0) (99, 0, fun _ => 0) M1 (by omega) (Nat.le_refl 1) c1 rfl (fun k _ => by show 0 < n; omega) l1 a1 a2 (fun q => absurd q (by decide)) (Or.inr ⟨rfl, rfl⟩) ?_ (fun M2 l2 r2 d2 b2 => ?_)
  · show (0 : Int) + ((8 ^ (n - 1) : Nat) : Int) ≤ 16777216
    obtain ⟨w, hw⟩ : ∃ w, w = 8 ^ (n - 1) := ⟨_, rfl⟩
    rw [← hw] at w7 ⊢
    omega
  · rw [ecm] at b2 ⊢
    refine sq_follows0 hM hT l2 d2 ⟨_, _, rfl, ?_⟩
    have hh := h M2 l2
    apply r_X9_seats_32 hM
    refine ⟨fun _ => ⟨fun z => ⟨fun z2 => ⟨by omega, ?_⟩, fun z2 => hh.2.1 z2⟩, fun z => hh.1 z⟩, fun z => absurd rfl z⟩
    rw [b2 (by show 1 ≤ (tr (be M) (clo M n) n (n - 1) 1 0).2.1; exact tb.2.2.1) x1.toNat (by omega)]
    exact hh.2.2 (by omega)
theorem sim_seats (hS : KC S) (hM : KM S) (hR : Rel M) (p : Int) : Sim S M 122 207 [.inl p] := by
  obtain ⟨n, hT, -⟩ := id hR
  have hn8 := hT.1.1
  have hn1 : 1 ≤ n := hT.2.1.2.2.1
  have hn : M 8 0 = n := hT.2.1.1
  have c1 := ce_1 hn1
  have p0 : 1 < 2 ^ n := by
    have : 2 ^ 1 ≤ 2 ^ n := Nat.pow_le_pow_right (by decide) hn1
    omega
  by_cases hp : -2 ≤ p ∧ p ≤ (n : Int) - 1
  · refine Sim.query2 hR (if p = -1 then (tr (be M) (clo M n) n (n - 1) 1 0).1 else if p = -2 then (tr (be M) (clo M n) n (n - 1) 1 0).2.1 else ((full (fun _ => 0) 1 (tr (be M) (clo M n) n (n - 1) 1 0).2.2 p.toNat : Nat) : Int)) (fun Q h => ?_) (fun M1 s1 k1 hR1 Q h => ?_)
    · apply r_X8_seats_0 hS
      rw [hn]
      refine ⟨fun z => by omega, fun _ => ⟨fun _ => sp_plan hS hT (fun M1 l1 f1 t1 => ⟨_, rfl, ?_⟩), fun z => by omega⟩⟩
      have hh := h M1 (Lt_same l1).1 (Lt_same l1).2
      have t10 := t1 1 0 p0 (by decide) (by omega) (by decide)
      unfold Tt at t10
      rw [c1] at t10
      refine ⟨fun z => ⟨fun z2 => ?_, fun z2 => ?_⟩, fun z => ?_⟩
      · obtain ⟨k, rfl⟩ : ∃ k : Nat, p = (k : Int) := ⟨p.toNat, by omega⟩
        rw [if_neg z, if_neg z2, Int.toNat_natCast] at hh
        apply r_X6_sitterAt_0 hS
        refine si_loop hS hn8 (by omega) f1 t1 (B := full (fun _ => 0) 1 (tr (be M) (clo M n) n (n - 1) 1 0).2.2) ⟨_, _, rfl, hh⟩ k 0 1 0 (by omega) p0 (by decide) (by omega) (by decide) (by omega) rfl (fun j j1 j2 => ?_)
        rw [c1]
        exact if_neg (by omega)
      · rw [if_neg z, if_pos z2] at hh
        apply r_X6_waysOfFewest_0 hS
        have e : M1 162 (8 : Int).toNat = (tr (be M) (clo M n) n (n - 1) 1 0).2.1 := t10.2
        rw [e]
        exact ⟨by decide, _, _, rfl, hh⟩
      · rw [if_pos z] at hh
        apply r_X6_fewestQuarrels_0 hS
        have e : M1 161 (8 : Int).toNat = (tr (be M) (clo M n) n (n - 1) 1 0).1 := t10.1
        rw [e]
        exact ⟨by decide, _, _, rfl, hh⟩
    · have hT1 := Rel_n hT s1 hR1
      have eb : be M1 = be M := by unfold be; rw [fo_row (k1 174 (by decide)) (k1 179 (by decide)) (k1 180 (by decide))]
      have ec : clo M1 n = clo M n := by unfold clo; rw [eb]
      refine sm_all hM hT1 hp (fun M' l' => ?_)
      rw [eb, ec]
      have hh := h M' (Mc_same l')
      refine ⟨fun z => ?_, fun z => ?_, fun z => ?_⟩
      · rw [if_pos z] at hh; exact hh
      · rw [if_neg (by omega), if_pos z] at hh; exact hh
      · rw [if_neg (by omega), if_neg (by omega)] at hh; exact hh
  · refine Sim.query2 hR (-1) (fun Q h => ?_) (fun M1 s1 k1 hR1 Q h => ?_)
    · apply r_X8_seats_0 hS
      rw [hn]
      exact ⟨fun z => h M (Same.refl M) (fun _ _ => rfl), fun _ => ⟨fun z => by omega, fun z => h M (Same.refl M) (fun _ _ => rfl)⟩⟩
    · have e0 : M1 174 (0 : Int).toNat = n := (Rel_n hT s1 hR1).2.1.2.1
      apply r_X9_seats_0 hM
      rw [e0]
      refine ⟨by decide, by unfold inR; omega, sq_in hM ⟨_, _, rfl, ?_⟩⟩
      rw [if_neg (by omega)]
      exact ⟨fun z => absurd rfl z, fun _ => h M1 (Same.refl M1)⟩
end Sits
