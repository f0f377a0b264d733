/-! shortest: the loops, the call -/
section Short2
variable {S : Shp} {M : Mem} {Q : Res → Prop}
theorem sl_loop (hM : KM S) {n : Nat} (hT : Tn M 8 0 n) {i m code : Nat} {x2 x3 x4 x5 x6 : Int} (hi : i < n) (hm : 1 ≤ m ∧ m ≤ 3) (h : ∀ M' x9, Tp M M' i m code m → En 194 59 [some (.inr (.inr 173)), some (.inl (i : Int)), some (.inl x2), some (.inl x3), some (.inl x4), some (.inl x5), some (.inl x6), some (.inl (m : Int)), some (.inl (code : Int)), some (.inl x9), some (.inl (-1 : Int))] [] S M' Q) : ∀ (d e : Nat) (M1 : Mem), e + d = m → Tp M M1 i m code e → En 194 59 [some (.inr (.inr 173)), some (.inl (i : Int)), some (.inl x2), some (.inl x3), some (.inl x4), some (.inl x5), some (.inl x6), some (.inl (m : Int)), some (.inl (code : Int)), some (.inl ((code / 26 ^ e : Nat) : Int)), some (.inl ((m : Int) - 1 - (e : Int)))] [] S M1 Q := by
  have hn8 := hT.1.1
  have hs := Tn_sok hT
  intro d
  induction d with
  | zero =>
    intro e M1 he hp
    have e1 : e = m := by omega
    subst e1
    have e2 : ((e : Int) - 1 - (e : Int)) = -1 := by omega
    rw [e2]
    exact h M1 _ hp
  | succ d ih =>
    intro e M1 he hp
    obtain ⟨a, ha⟩ : ∃ a, a = code / 26 ^ e := ⟨_, rfl⟩
    have nx := ih (e + 1)
    have e3 : code / 26 ^ (e + 1) = a / 26 := by rw [ha, Nat.pow_succ, Nat.div_div_eq_div_mul]
    rw [e3, show ((m : Int) - 1 - ((e + 1 : Nat) : Int)) = (m : Int) - 1 - (e : Int) + -1 by omega] at nx
    rw [← ha]
    apply r_X9_shortest_59 hM
    have e4 : (((1878 : Int) + (6 : Int) * i) + ((m : Int) - 1 - (e : Int))).toNat = 1878 + 6 * i + (m - 1 - e) := by omega
    have e5 : ((a : Int) % 26) = ((a % 26 : Nat) : Int) := by omega
    have e6 : ((a : Int) / 26) = ((a / 26 : Nat) : Int) := by omega
    rw [e4, e5, e6]
    have ho := Tn_ord hT (r := a % 26) (by omega)
    have hz := hp.1.1
    have er : ∀ z, z < 26 → M1 180 (170 * 0 + 144 + z) = M 180 (144 + z) := fun z hz' => by rw [Nat.mul_zero, Nat.zero_add]; exact hz.2 _ (by omega)
    have hg : gal (fun z => M1 180 (170 * 0 + 144 + z)) := by
      refine ⟨fun z hz' => ?_, fun z w hz' hw e => ?_⟩
      · show 0 ≤ M1 180 (170 * 0 + 144 + z) ∧ M1 180 (170 * 0 + 144 + z) < 26
        rw [er z hz']; exact hs.2.1 z hz'
      · have e' : M1 180 (170 * 0 + 144 + z) = M1 180 (170 * 0 + 144 + w) := e
        rw [er z hz', er w hw] at e'
        exact hs.2.2 z w hz' hw e'
    refine ⟨fun z => by omega, fun _ => ⟨by unfold inR; omega, by unfold inR; omega, by unfold inR; omega, by omega, sq_letterOf (s := 0) (x := pord M (a % 26)) hM (by decide) ho.2.1 hg (by rw [er _ ho.2.1]; exact ho.2.2) ⟨_, _, rfl, by omega, by omega, by unfold inR; omega, nx _ (by omega) ?_⟩⟩⟩
    obtain ⟨⟨⟨z1, z2⟩, h1⟩, h2, h3⟩ := hp
    refine ⟨⟨⟨fun q q1 q2 => by rw [up2_row _ _ _ _ q1]; exact z1 q q1 q2, fun k hk => by rw [up2_any, if_neg (by omega)]; exact z2 k hk⟩, fun k hk hki hk2 => by rw [up2_any, if_neg (by omega)]; exact h1 k hk hki hk2⟩, by rw [up2_any, if_neg (by omega)]; exact h2, fun p hp1 hp2 => ?_⟩
    rw [up2_any]
    by_cases hpe : p = m - 1 - e
    · rw [if_pos ⟨rfl, by omega⟩]
      unfold cl
      rw [show m - 1 - p = e by omega, ← ha]
    · rw [if_neg (by omega)]; exact h3 p (by omega) hp2
theorem p26 {m : Nat} (hm : 1 ≤ m ∧ m ≤ 3) : 26 ≤ 26 ^ m ∧ 26 ^ m ≤ 17576 := by
  have a : 26 ^ 1 ≤ 26 ^ m := Nat.pow_le_pow_right (by decide) hm.1
  have b : 26 ^ m ≤ 26 ^ 3 := Nat.pow_le_pow_right (by decide) hm.2
  exact ⟨a, b⟩
theorem sm_no (hM : KM S) {n : Nat} (hT : Tn M 8 0 n) {i j k ρ m : Nat} {x5 : Int} (hi : i < n) (hj : j < n) (hk : k < n) (hρ : ρ < 8) (hm : 1 ≤ m ∧ m ≤ 3) (hno : ∀ code, code < 26 ^ m → ¬ sP M i ρ j k (cl M m code 0) (cK M m code)) (h : ∀ M', Tq M M' i → En 194 34 [some (.inr (.inr 173)), some (.inl (i : Int)), some (.inl (ρ : Int)), some (.inl (j : Int)), some (.inl (k : Int)), some (.inl x5), some (.inl ((26 ^ m : Nat) : Int)), some (.inl ((m + 1 : Nat) : Int)), none, none, none] [] S M' Q) : ∀ (d code : Nat) (M1 : Mem), code + d = 26 ^ m → Tq M M1 i → M1 180 (1870 + i) = m → En 194 50 [some (.inr (.inr 173)), some (.inl (i : Int)), some (.inl (ρ : Int)), some (.inl (j : Int)), some (.inl (k : Int)), some (.inl x5), some (.inl ((26 ^ m : Nat) : Int)), some (.inl (m : Int)), some (.inl (code : Int)), none, none] [] S M1 Q := by
  have hp := p26 hm
  obtain ⟨c, hc⟩ : ∃ c, c = 26 ^ m := ⟨_, rfl⟩
  rw [← hc] at hno h hp ⊢
  intro d
  induction d with
  | zero =>
    intro code M1 hd hq hsz
    apply r_X9_shortest_50 hM
    rw [show ((m : Int) + 1) = ((m + 1 : Nat) : Int) by omega]
    exact ⟨fun _ => ⟨by unfold inR; omega, h M1 hq⟩, fun z => by omega⟩
  | succ d ih =>
    intro code M1 hd hq hsz
    apply r_X9_shortest_50 hM
    refine ⟨fun z => by omega, fun _ => ⟨by unfold inR; omega, ?_⟩⟩
    have st := sl_loop (Q := Q) hM hT (m := m) (code := code) (x2 := (ρ : Int)) (x3 := (j : Int)) (x4 := (k : Int)) (x5 := x5) (x6 := (c : Int)) hi hm (fun M' x9 hp' => by
      apply r_X9_shortest_59 hM
      refine ⟨fun _ => sq_hasAll hM hT hi hj hk hρ hm hp' (fun w => absurd w (hno code (by omega))) (fun _ => ⟨_, _, rfl, fun _ => ⟨by unfold inR; omega, ?_⟩, fun w => absurd rfl w⟩), fun z => absurd z (by decide)⟩
      rw [show ((code : Int) + 1) = ((code + 1 : Nat) : Int) by omega]
      exact ih (code + 1) M' (by omega) hp'.1 hp'.2.1) m 0 M1 (by omega) ⟨hq, hsz, fun p hp1 hp2 => by omega⟩
    rw [Nat.pow_zero, Nat.div_one] at st
    rw [show ((m : Int) - 1 - ((0 : Nat) : Int)) = (m : Int) - 1 by omega] at st
    exact st
theorem cl_1 {code : Nat} (h : code < 26) : cl M 1 code 0 = pord M code := by
  unfold cl
  rw [show 1 - 1 - 0 = 0 from rfl, Nat.pow_zero, Nat.div_one, Nat.mod_eq_of_lt h]
/-- what shortest answers where one letter will do -/
def sAns (q x : Int) : Int := if q = 0 then 1 else if q = 1 then x else -4
theorem sm_yes (hM : KM S) {n : Nat} (hT : Tn M 8 0 n) {i j k ρ lim : Nat} {x5 : Int} (h5 : 0 ≤ x5) (hi : i < n) (hj : j < n) (hk : k < n) (hρ : ρ < 8) (hlim : lim < 26) (hno : ∀ r, r < lim → ¬ sP M i ρ j k (pord M r) (k1 M (pord M r))) (hyes : sP M i ρ j k (pord M lim) (k1 M (pord M lim))) (h : ∀ M', Tq M M' i → Q (S, M', some (.inl (sAns x5 (pord M lim : Int))))) : ∀ (d code : Nat) (M1 : Mem), code + d = lim → Tq M M1 i → M1 180 (1870 + i) = 1 → En 194 50 [some (.inr (.inr 173)), some (.inl (i : Int)), some (.inl (ρ : Int)), some (.inl (j : Int)), some (.inl (k : Int)), some (.inl x5), some (.inl (26 : Int)), some (.inl (1 : Int)), some (.inl (code : Int)), none, none] [] S M1 Q := by
  have hn8 := hT.1.1
  have pe : ∀ r, r < 26 → (sP M i ρ j k (cl M 1 r 0) (cK M 1 r) ↔ sP M i ρ j k (pord M r) (k1 M (pord M r))) := fun r hr => by
    rw [(cK_1 hT (m := 1) (by omega) r).2 rfl, cl_1 hr]
  intro d
  induction d with
  | zero =>
    intro code M1 hd hq hsz
    have e : code = lim := by omega
    subst e
    apply r_X9_shortest_50 hM
    refine ⟨fun z => by omega, fun _ => ⟨by unfold inR; omega, ?_⟩⟩
    have st := sl_loop (Q := Q) hM hT (m := 1) (code := code) (x2 := (ρ : Int)) (x3 := (j : Int)) (x4 := (k : Int)) (x5 := x5) (x6 := 26) hi (by omega) (fun M' x9 hp' => by
      have hl : M' 180 (1878 + 6 * i) = (pord M code : Int) := by
        have := hp'.2.2 0 (by omega) (by omega)
        rw [cl_1 (by omega)] at this
        exact this
      have hh := h M' hp'.1
      unfold sAns at hh
      apply r_X9_shortest_59 hM
      refine ⟨fun _ => sq_hasAll hM hT hi hj hk hρ (by omega) hp' (fun _ => ⟨_, _, rfl, fun w => absurd w (by decide), fun _ => ⟨fun z => ⟨fun z1 => ⟨by unfold inR; omega, by unfold inR; omega, by unfold inR; omega, by unfold inR; omega, by omega, ?_⟩, fun z1 => ?_⟩, fun z => ?_⟩⟩) (fun w => absurd ((pe code (by omega)).mpr hyes) w), fun z => absurd z (by decide)⟩
      · have e5 : x5 = 1 := by omega
        have e6 : ((((1878 : Int) + (6 : Int) * i) + x5) - 1).toNat = 1878 + 6 * i := by omega
        rw [if_neg z, if_pos e5] at hh
        rw [e6, hl]
        exact hh
      · rw [if_neg z, if_neg (by omega)] at hh
        exact hh
      · rw [if_pos z] at hh
        exact hh) 1 0 M1 (by omega) ⟨hq, hsz, fun p hp1 hp2 => by omega⟩
    rw [Nat.pow_zero, Nat.div_one] at st
    exact st
  | succ d ih =>
    intro code M1 hd hq hsz
    apply r_X9_shortest_50 hM
    refine ⟨fun z => by omega, fun _ => ⟨by unfold inR; omega, ?_⟩⟩
    have st := sl_loop (Q := Q) hM hT (m := 1) (code := code) (x2 := (ρ : Int)) (x3 := (j : Int)) (x4 := (k : Int)) (x5 := x5) (x6 := 26) hi (by omega) (fun M' x9 hp' => by
      apply r_X9_shortest_59 hM
      refine ⟨fun _ => sq_hasAll hM hT hi hj hk hρ (by omega) hp' (fun w => absurd ((pe code (by omega)).mp w) (hno code (by omega))) (fun _ => ⟨_, _, rfl, fun _ => ⟨by unfold inR; omega, ?_⟩, fun w => absurd rfl w⟩), fun z => absurd z (by decide)⟩
      rw [show ((code : Int) + 1) = ((code + 1 : Nat) : Int) by omega]
      exact ih (code + 1) M' (by omega) hp'.1 hp'.2.1) 1 0 M1 (by omega) ⟨hq, hsz, fun p hp1 hp2 => by omega⟩
    rw [Nat.pow_zero, Nat.div_one] at st
    exact st
theorem Tq_up {M1 : Mem} {i : Nat} (hi : i < 8) (h : Tq M M1 i) (v : Int) : Tq M (up2 M1 180 (1870 + i) v) i := by
  obtain ⟨⟨z1, z2⟩, h1⟩ := h
  exact ⟨⟨fun q q1 q2 => by rw [up2_row _ _ _ _ q1]; exact z1 q q1 q2, fun k hk => by rw [up2_any, if_neg (by omega)]; exact z2 k hk⟩, fun k hk hki hk2 => by rw [up2_any, if_neg (by omega)]; exact h1 k hk hki hk2⟩
theorem Tq_cp {M1 : Mem} (h : mCp M M1 0 11) (i : Nat) : Tq M M1 i := by
  obtain ⟨h1, h2, h3⟩ := h
  exact ⟨⟨fun q q1 _ => h1 q q1, fun k hk => h3 k (by omega)⟩, fun k hk _ _ => by simpa using h2 k hk⟩
/-- no longer name does where no letter does -/
theorem sP_long {n : Nat} (hT : Tn M 8 0 n) {i j k ρ m code : Nat} (hm : 1 ≤ m ∧ m ≤ 3) (h : sP M i ρ j k (cl M m code 0) (cK M m code)) : sP M i ρ j k (cl M m code 0) (k1 M (cl M m code 0)) := by
  have := (cK_1 hT (m := m) (by omega) code).1
  exact ⟨h.1, fun w => ⟨(h.2.1 w).1, by have := (h.2.1 w).2; omega⟩, h.2.2⟩
theorem sh_none (hM : KM S) {n : Nat} (hT : Tn M 8 0 n) {i j k ρ : Nat} {x5 : Int} (hi : i < n) (hj : j < n) (hk : k < n) (hρ : ρ < 8) (hno : ∀ r, r < 26 → ¬ sP M i ρ j k (pord M r) (k1 M (pord M r))) (h : ∀ M', Tq M M' i → Q (S, M', some (.inl (-4)))) : ∀ (d m : Nat) (M1 : Mem), m + d = 4 → 1 ≤ m → Tq M M1 i → En 194 34 [some (.inr (.inr 173)), some (.inl (i : Int)), some (.inl (ρ : Int)), some (.inl (j : Int)), some (.inl (k : Int)), some (.inl x5), some (.inl ((26 ^ (m - 1) : Nat) : Int)), some (.inl (m : Int)), none, none, none] [] S M1 Q := by
  have hn8 := hT.1.1
  have e0 : ((1870 : Int) + i).toNat = 1870 + i := by omega
  intro d
  induction d with
  | zero =>
    intro m M1 hm h1 hq
    apply r_X9_shortest_34 hM
    exact ⟨fun _ => h M1 hq, fun z => by omega⟩
  | succ d ih =>
    intro m M1 hm h1 hq
    have hp := p26 (m := m) (by omega)
    have e1 : ((26 ^ (m - 1) : Nat) : Int) * 26 = ((26 ^ m : Nat) : Int) := by
      have : 26 ^ m = 26 ^ (m - 1) * 26 := by rw [← Nat.pow_succ]; congr 1; omega
      rw [this]
      obtain ⟨c, hc⟩ : ∃ c, c = 26 ^ (m - 1) := ⟨_, rfl⟩
      rw [← hc]
      omega
    apply r_X9_shortest_34 hM
    rw [e1, e0]
    have hb : inR ((26 ^ m : Nat) : Int) := by
      obtain ⟨c, hc⟩ : ∃ c, c = 26 ^ m := ⟨_, rfl⟩
      rw [← hc] at hp ⊢
      unfold inR; omega
    refine ⟨fun z => by omega, fun _ => ⟨hb, by unfold inR; omega, by omega, ?_⟩⟩
    refine sm_no hM hT hi hj hk hρ (by omega) (fun code _ w => ?_) (fun M' q' => ?_) (26 ^ m) 0 _ (by omega) (Tq_up (by omega) hq _) (up2_get _ _ _ _)
    · have := sP_long hT (by omega) w
      have hc := cl_in hT m code 0
      have := hno (code / 26 ^ (m - 1 - 0) % 26) (Nat.mod_lt _ (by decide))
      exact this (sP_long hT (by omega) w)
    · have := ih (m + 1) M' (by omega) (by omega) q'
      rw [show m + 1 - 1 = m by omega] at this
      exact this
theorem sh_one (hM : KM S) {n : Nat} (hT : Tn M 8 0 n) {i j k ρ lim : Nat} {x5 : Int} (h5 : 0 ≤ x5) (hi : i < n) (hj : j < n) (hk : k < n) (hρ : ρ < 8) (hlim : lim < 26) (hno : ∀ r, r < lim → ¬ sP M i ρ j k (pord M r) (k1 M (pord M r))) (hyes : sP M i ρ j k (pord M lim) (k1 M (pord M lim))) (h : ∀ M', Tq M M' i → Q (S, M', some (.inl (sAns x5 (pord M lim : Int))))) {M1 : Mem} (hq : Tq M M1 i) : En 194 34 [some (.inr (.inr 173)), some (.inl (i : Int)), some (.inl (ρ : Int)), some (.inl (j : Int)), some (.inl (k : Int)), some (.inl x5), some (.inl (1 : Int)), some (.inl (1 : Int)), none, none, none] [] S M1 Q := by
  have hn8 := hT.1.1
  have e0 : ((1870 : Int) + i).toNat = 1870 + i := by omega
  apply r_X9_shortest_34 hM
  rw [e0]
  refine ⟨fun z => by omega, fun _ => ⟨by unfold inR; omega, by unfold inR; omega, by omega, ?_⟩⟩
  exact sm_yes hM hT h5 hi hj hk hρ hlim hno hyes h lim 0 _ (by omega) (Tq_up (by omega) hq _) (up2_get _ _ _ _)
theorem sP_row {M1 : Mem} (k1' : ∀ q, 172 ≤ q → M1 q = M q) (i ρ j k x : Nat) (key : Int) : sP M1 i ρ j k x key ↔ sP M i ρ j k x key := by
  unfold sP mSuit mf
  rw [mK_same (k1' 180 (by decide)) 0, k1' 180 (by decide), k1' 174 (by decide), k1' 179 (by decide)]
theorem sim_shortest (hS : KC S) (hM : KM S) (hR : Rel M) (p1 p2 p3 p4 p5 : Int) : Sim S M 115 194 [.inl p1, .inl p2, .inl p3, .inl p4, .inl p5] := by
  obtain ⟨n, hT, -⟩ := id hR
  have hn8 := hT.1.1
  have hn : M 8 0 = n := hT.2.1.1
  by_cases hG : (0 ≤ p1 ∧ p1 ≤ (n : Int) - 1) ∧ (0 ≤ p2 ∧ p2 ≤ 7) ∧ (0 ≤ p3 ∧ p3 ≤ (n : Int) - 1) ∧ (0 ≤ p4 ∧ p4 ≤ (n : Int) - 1) ∧ (0 ≤ p5 ∧ p5 ≤ 3)
  · obtain ⟨g1, g2, g3, g4, g5⟩ := hG
    obtain ⟨i, rfl, hi⟩ := int_nat g1
    obtain ⟨j, rfl, hj⟩ := int_nat g3
    obtain ⟨k, rfl, hk⟩ := int_nat g4
    obtain ⟨ρ, rfl⟩ : ∃ ρ : Nat, p2 = (ρ : Int) := ⟨p2.toNat, by omega⟩
    obtain ⟨lim, l1, l2, l3⟩ := least_lim (fun r => sP M i ρ j k (pord M r) (k1 M (pord M r))) 26
    refine Sim.query2 hR (if lim = 26 then -4 else sAns p5 (pord M lim : Int)) (fun Q h => ?_) (fun M1 s1 k1' hR1 Q h => ?_)
    · apply r_X8_shortest_0 hS
      refine sp_isPerson hS hn ⟨_, _, rfl, ?_⟩
      rw [if_pos g1]
      refine ⟨fun z => absurd z (by decide), fun _ => sp_isPerson hS hn ⟨_, _, rfl, ?_⟩⟩
      rw [if_pos g3]
      refine ⟨fun z => absurd z (by decide), fun _ => sp_isPerson hS hn ⟨_, _, rfl, ?_⟩⟩
      rw [if_pos g4]
      refine ⟨fun _ => ⟨fun z => by omega, fun _ => ⟨fun z => by omega, fun _ => ⟨fun z => by omega, fun _ => ⟨fun _ => ⟨fun z => ?_, fun z => ⟨fun w => absurd rfl w, fun _ => ?_⟩⟩, fun z => by omega⟩⟩⟩⟩, fun z => absurd z (by decide)⟩
      · apply r_X8_firstWithRights_0 hS
        refine sp_lineNow hS hn (Tn_names hT) (fun M' hl => ⟨_, rfl, ?_⟩)
        have hh := h M' (LN_same hl) (fun q hq => hl.1 q (by omega))
        refine fw_loop hS hT hl hi hj hk (by omega) l1 l2 (fun hlt => ⟨l3 hlt, _, _, rfl, fun _ => ⟨fun w => ?_, fun w => ?_⟩, fun w => by omega⟩) (fun he => ⟨_, _, rfl, fun w => absurd rfl w, fun _ => ?_⟩) lim 0 (by omega)
        · rw [if_neg (by omega)] at hh
          unfold sAns at hh
          rw [if_neg w, if_pos (by omega)] at hh
          exact hh
        · rw [if_neg (by omega)] at hh
          unfold sAns at hh
          rw [if_pos w] at hh
          exact hh
        · rw [if_pos he] at hh
          exact hh
      · have hh := h M (Same.refl M) (fun _ _ => rfl)
        by_cases he : lim = 26
        · rw [if_pos he] at hh; exact hh
        · rw [if_neg he] at hh
          unfold sAns at hh
          rw [if_neg (by omega), if_neg (by omega)] at hh
          exact hh
    · have hT1 := Rel_n hT s1 hR1
      have sp : ∀ r, sP M1 i ρ j k (pord M1 r) (k1 M1 (pord M1 r)) ↔ sP M i ρ j k (pord M r) (k1 M (pord M r)) := fun r => by
        have e : k1 M1 (pord M1 r) = k1 M (pord M r) := by rw [pord_row s1]; unfold k1; rw [k1' 180 (by decide)]
        rw [e, pord_row s1]
        exact sP_row k1' i ρ j k _ _
      apply r_X9_shortest_0 hM
      refine sq_isPerson hM hT1.2.1.2.1 hn8 ⟨_, _, rfl, ?_⟩
      rw [if_pos g1]
      refine ⟨fun z => absurd z (by decide), fun _ => sq_in hM ⟨_, _, rfl, ?_⟩⟩
      rw [if_pos g2]
      refine ⟨fun z => absurd z (by decide), fun _ => sq_isPerson hM hT1.2.1.2.1 hn8 ⟨_, _, rfl, ?_⟩⟩
      rw [if_pos g3]
      refine ⟨fun z => absurd z (by decide), fun _ => sq_isPerson hM hT1.2.1.2.1 hn8 ⟨_, _, rfl, ?_⟩⟩
      rw [if_pos g4]
      refine ⟨fun z => absurd z (by decide), fun _ => sq_in hM ⟨_, _, rfl, ?_⟩⟩
      rw [if_pos g5]
      refine ⟨fun _ => sq_copies hM (a := 0) (b := 11) (by decide) (by decide) (by decide) (fun M7 c7 => ⟨_, rfl, ?_⟩), fun z => absurd z (by decide)⟩
      by_cases he : lim = 26
      · subst he
        exact sh_none hM hT1 hi hj hk (by omega) (fun r hr w => l2 r hr ((sp r).mp w)) (fun M' q' => h M' (Tz_same q'.1)) 3 1 M7 (by omega) (by omega) (Tq_cp c7 i)
      · refine sh_one hM hT1 (lim := lim) (by omega) hi hj hk (by omega) (by omega) (fun r hr w => l2 r hr ((sp r).mp w)) ((sp lim).mpr (l3 (by omega))) (fun M' q' => ?_) (Tq_cp c7 i)
        have hh := h M' (Tz_same q'.1)
        rw [if_neg he] at hh
        rw [pord_row s1]
        exact hh
  · refine Sim.query2 hR (-1) (fun Q h => ?_) (fun M1 s1 k1' hR1 Q h => ?_)
    · have hh := h M (Same.refl M) (fun _ _ => rfl)
      apply r_X8_shortest_0 hS
      refine sp_isPerson hS hn ⟨_, _, rfl, ?_⟩
      by_cases g1 : 0 ≤ p1 ∧ p1 ≤ (n : Int) - 1
      · rw [if_pos g1]
        refine ⟨fun z => absurd z (by decide), fun _ => sp_isPerson hS hn ⟨_, _, rfl, ?_⟩⟩
        by_cases g3 : 0 ≤ p3 ∧ p3 ≤ (n : Int) - 1
        · rw [if_pos g3]
          refine ⟨fun z => absurd z (by decide), fun _ => sp_isPerson hS hn ⟨_, _, rfl, ?_⟩⟩
          by_cases g4 : 0 ≤ p4 ∧ p4 ≤ (n : Int) - 1
          · rw [if_pos g4]
            exact ⟨fun _ => ⟨fun _ => hh, fun z1 => ⟨fun _ => hh, fun z2 => ⟨fun _ => hh, fun z3 => ⟨fun z4 => absurd ⟨g1, ⟨z1, z2⟩, g3, g4, z3, z4⟩ hG, fun _ => hh⟩⟩⟩⟩, fun z => absurd z (by decide)⟩
          · rw [if_neg g4]
            exact ⟨fun z => absurd rfl z, fun _ => hh⟩
        · rw [if_neg g3]
          exact ⟨fun _ => hh, fun z => absurd rfl z⟩
      · rw [if_neg g1]
        exact ⟨fun _ => hh, fun z => absurd rfl z⟩
    · have hT1 := Rel_n hT s1 hR1
      have hh := h M1 (Same.refl M1)
      apply r_X9_shortest_0 hM
      refine sq_isPerson hM hT1.2.1.2.1 hn8 ⟨_, _, rfl, ?_⟩
      by_cases g1 : 0 ≤ p1 ∧ p1 ≤ (n : Int) - 1
      · rw [if_pos g1]
        refine ⟨fun z => absurd z (by decide), fun _ => sq_in hM ⟨_, _, rfl, ?_⟩⟩
        by_cases g2 : 0 ≤ p2 ∧ p2 ≤ 7
        · rw [if_pos g2]
          refine ⟨fun z => absurd z (by decide), fun _ => sq_isPerson hM hT1.2.1.2.1 hn8 ⟨_, _, rfl, ?_⟩⟩
          by_cases g3 : 0 ≤ p3 ∧ p3 ≤ (n : Int) - 1
          · rw [if_pos g3]
            refine ⟨fun z => absurd z (by decide), fun _ => sq_isPerson hM hT1.2.1.2.1 hn8 ⟨_, _, rfl, ?_⟩⟩
            by_cases g4 : 0 ≤ p4 ∧ p4 ≤ (n : Int) - 1
            · rw [if_pos g4]
              refine ⟨fun z => absurd z (by decide), fun _ => sq_in hM ⟨_, _, rfl, ?_⟩⟩
              rw [if_neg (fun g5 => hG ⟨g1, g2, g3, g4, g5⟩)]
              exact ⟨fun z => absurd rfl z, fun _ => hh⟩
            · rw [if_neg g4]
              exact ⟨fun _ => hh, fun z => absurd rfl z⟩
          · rw [if_neg g3]
            exact ⟨fun _ => hh, fun z => absurd rfl z⟩
        · rw [if_neg g2]
          exact ⟨fun _ => hh, fun z => absurd rfl z⟩
      · rw [if_neg g1]
        exact ⟨fun _ => hh, fun z => absurd rfl z⟩
end Short2
