/-! fits, sure -/
theorem cntB_two {p : Nat → Bool} {i j : Nat} (hij : i ≠ j) (hi : p i = true) (hj : p j = true) {m : Nat} (h1 : i < m) (h2 : j < m) : 2 ≤ cntB p m := by
  have a := cntB_one (p := fun k => p k && decide (k ≠ i)) (q := p) (i := i) (by simp) hi m h1 (fun k _ hk => by simp [hk])
  have hji : ¬ j = i := fun z => hij z.symm
  have b := cntB_pos (p := fun k => p k && decide (k ≠ i)) (i := j) (by simp [hj, hji]) m h2
  omega
def sF (tot : Int) (reach : Nat) : Nat → Int → Int
  | 0, x => x
  | c + 1, x => sF tot reach c (if 0 < tot ∧ reach = 2 ^ (7 - c) then ((7 - c : Nat) : Int) else x)
theorem sF_no {tot : Int} {reach : Nat} (h : ∀ i, i < 8 → ¬ (0 < tot ∧ reach = 2 ^ i)) : ∀ c x, sF tot reach c x = x := by
  intro c
  induction c with
  | zero => intro x; rfl
  | succ c ih => intro x; rw [sF, if_neg (h _ (by omega)), ih]
theorem pow2_inj {a b : Nat} (h : 2 ^ a = 2 ^ b) : a = b := by
  have := congrArg (fun z => z.testBit b) h
  simp only [Nat.testBit_two_pow] at this
  simpa using this
theorem sF_yes {tot : Int} {i0 : Nat} (h : 0 < tot) (h8 : i0 < 8) : ∀ c x, c ≤ 8 → sF tot (2 ^ i0) c x = if 8 - c ≤ i0 then (i0 : Int) else x := by
  intro c
  induction c with
  | zero => intro x _; rw [sF, if_neg (by omega)]
  | succ c ih =>
    intro x hc
    rw [sF, ih _ (by omega)]
    by_cases h1 : 8 - c ≤ i0
    · rw [if_pos h1, if_pos (by omega)]
    · rw [if_neg h1]
      by_cases h2 : i0 = 7 - c
      · rw [if_pos ⟨h, by rw [h2]⟩, if_pos (by omega), h2]
      · rw [if_neg (fun z => h2 (pow2_inj z.2)), if_neg (by omega)]
section Fits
variable {S : Shp} {M : Mem} {Q : Res → Prop}
theorem sp_canBe (hS : KC S) {n L : Nat} (hT : Tn M 8 0 n) (hL : L ≤ 8) (hl2 : ∀ k, k < L → M 169 k = M 182 (2 * k) ∧ M 170 k = M 182 (2 * k + 1)) {M1 : Mem} (hl : LN M M1 n) {r i : Nat} (hr : r < L) (hi : i < n) (h : Q (S, M1, some (.inl (bI (cM M n r i))))) : Ca 7 [.inr (.inr 169), .inl (r : Int), .inl (i : Int), .inr (.inr 145)] S M1 Q := by
  have hn8 := hT.1.1
  obtain ⟨c1, c2, c3, c4, -⟩ := LN_S hT hl
  have tfe : tf M1 146 i = mf M 0 i := by
    rw [Lr_tf (Tn_sok hT) (Lr_LN hT hl) hi]
    unfold mf f0
    simp
  apply r_X1_canBe_0 hS
  refine sp_first (t := 146) hS (by decide) (by omega) ⟨_, _, rfl, by omega, ?_⟩
  rw [Int.toNat_natCast, hl.1 169 (by decide), (hl2 r hr).1, tfe]
  refine ⟨fun z => ?_, fun z => sp_getsNow hS c1 hi ⟨_, _, rfl, by omega, ?_⟩⟩
  · have : cM M n r i = false := decide_eq_false (fun q => z q.1)
    rw [this] at h; exact h
  · rw [lsum_congr n (fun j hj => ⟨c2 j hj, c3 j hj⟩), c2 i hi, c3 i hi, c4, hl.1 170 (by decide), (hl2 r hr).2]
    refine ⟨fun w => ?_, fun w => ?_⟩
    · have : cM M n r i = false := decide_eq_false (fun q => w q.2)
      rw [this] at h; exact h
    · have : cM M n r i = true := decide_eq_true ⟨z, w⟩
      rw [this] at h; exact h
theorem sp_candidates (hS : KC S) {n L : Nat} (hT : Tn M 8 0 n) (hL : L ≤ 8) (hl2 : ∀ k, k < L → M 169 k = M 182 (2 * k) ∧ M 170 k = M 182 (2 * k + 1)) {M1 : Mem} (hl : LN M M1 n) {r : Nat} (hr : r < L) (h : Q (S, M1, some (.inl (cnd (cM M n) n r)))) : Ca 8 [.inr (.inr 169), .inl (r : Int), .inr (.inr 145)] S M1 Q := by
  have hn8 := hT.1.1
  have e0 : M1 146 0 = n := (LN_S hT hl).1.1
  have loop : ∀ d i : Nat, i + d = n → En 8 4 [some (.inr (.inr 169)), some (.inl (r : Int)), some (.inr (.inr 145)), some (.inl (cntB (cM M n r) i)), some (.inl (i : Int))] [] S M1 Q := by
    intro d
    induction d with
    | zero =>
      intro i hi
      have e : i = n := by omega
      subst e
      apply r_X1_candidates_4 hS
      rw [e0]
      exact ⟨fun _ => h, fun z => by omega⟩
    | succ d ih =>
      intro i hi
      have nx := ih (i + 1) (by omega)
      rw [cntB] at nx
      have b := cntB_in (p := cM M n r) i
      apply r_X1_candidates_4 hS
      rw [e0, show ((i : Int) + 1) = ((i + 1 : Nat) : Int) by omega]
      refine ⟨fun z => by omega, fun _ => sp_canBe hS hT hL hl2 hl hr (by omega) ⟨_, _, rfl, fun z => ⟨by unfold inR; omega, by unfold inR; omega, ?_⟩, fun z => ⟨by unfold inR; omega, by unfold inR; omega, ?_⟩⟩⟩
      · rw [bI_z.1 z] at nx; exact nx
      · rw [bI_z.2 z] at nx; exact nx
  apply r_X1_candidates_0 hS
  exact loop n 0 (by omega)
theorem sp_alikeAbove (hS : KC S) {L : Nat} (hL : L ≤ 8) {M1 : Mem} (hl2 : ∀ k, k < L → M1 169 k = M 182 (2 * k) ∧ M1 170 k = M 182 (2 * k + 1)) {r : Nat} (hr : r < L) (h : Q (S, M1, some (.inl (alk (aM M) r)))) : Ca 9 [.inr (.inr 169), .inl (r : Int)] S M1 Q := by
  have loop : ∀ d i : Nat, i + d = r → En 9 4 [some (.inr (.inr 169)), some (.inl (r : Int)), some (.inl (cntB (fun k => aM M k r) i)), some (.inl (i : Int))] [] S M1 Q := by
    intro d
    induction d with
    | zero =>
      intro i hi
      have e : i = r := by omega
      subst e
      apply r_X1_alikeAbove_4 hS
      exact ⟨fun _ => h, fun z => by omega⟩
    | succ d ih =>
      intro i hi
      have nx := ih (i + 1) (by omega)
      rw [cntB] at nx
      have b := cntB_in (p := fun k => aM M k r) i
      apply r_X1_alikeAbove_4 hS
      rw [Int.toNat_natCast, Int.toNat_natCast, (hl2 i (by omega)).1, (hl2 r hr).1, (hl2 i (by omega)).2, (hl2 r hr).2, show ((i : Int) + 1) = ((i + 1 : Nat) : Int) by omega]
      refine ⟨fun z => by omega, fun _ => ⟨by omega, by omega, fun z => ⟨by unfold inR; omega, by unfold inR; omega, ?_⟩, fun z => ⟨by omega, by omega, fun w => ⟨by unfold inR; omega, by unfold inR; omega, ?_⟩, fun w => ⟨by unfold inR; omega, by unfold inR; omega, ?_⟩⟩⟩⟩
      · have : aM M i r = false := decide_eq_false (fun q => z q.1)
        rw [this] at nx; exact nx
      · have : aM M i r = false := decide_eq_false (fun q => w q.2)
        rw [this] at nx; exact nx
      · have : aM M i r = true := decide_eq_true ⟨z, w⟩
        rw [this] at nx; exact nx
  apply r_X1_alikeAbove_0 hS
  exact loop r 0 (by omega)
theorem sp_countWays (hS : KC S) {n L : Nat} (hT : Tn M 8 0 n) (hL : L ≤ 8) (h168 : M 168 2 = L) (hl2 : ∀ k, k < L → M 169 k = M 182 (2 * k) ∧ M 170 k = M 182 (2 * k + 1)) {M1 : Mem} (hl : LN M M1 n) (h : Q (S, M1, some (.inl (pw (cM M n) (aM M) n L)))) : Ca 10 [.inr (.inr 169), .inr (.inr 145)] S M1 Q := by
  have hn8 := hT.1.1
  have e0 : M1 168 2 = L := by rw [hl.1 168 (by decide)]; exact h168
  have loop : ∀ d r : Nat, r + d = L → En 10 4 [some (.inr (.inr 169)), some (.inr (.inr 145)), some (.inl (pw (cM M n) (aM M) n r)), some (.inl (r : Int))] [] S M1 Q := by
    intro d
    induction d with
    | zero =>
      intro r hr
      have e : r = L := by omega
      subst e
      apply r_X1_countWays_4 hS
      rw [e0]
      exact ⟨fun _ => h, fun z => by omega⟩
    | succ d ih =>
      intro r hr
      have nx := ih (r + 1) (by omega)
      have pb := pw_in (ca := cM M n) (al := aM M) hn8 (r + 1)
      have p8 := pow8 (r + 1) (by omega)
      rw [pw] at nx pb
      have b1 := cntB_in (p := cM M n r) n
      have b2 := cntB_in (p := fun k => aM M k r) r
      apply r_X1_countWays_4 hS
      rw [e0, show ((r : Int) + 1) = ((r + 1 : Nat) : Int) by omega]
      refine ⟨fun z => by omega, fun _ => sp_candidates hS hT hL hl2 hl (by omega) ⟨_, _, rfl, sp_alikeAbove (M := M) hS hL (fun k hk => by rw [hl.1 169 (by decide), hl.1 170 (by decide)]; exact hl2 k hk) (by omega) ⟨_, _, rfl, ?_, ?_, by unfold inR; omega, nx⟩⟩⟩
      · unfold cnd alk inR; omega
      · show inR (pw (cM M n) (aM M) n r * fac (cM M n) (aM M) n r)
        unfold inR; omega
  apply r_X1_countWays_0 hS
  exact loop L 0 (by omega)
theorem sp_onlyPerson (hS : KC S) {n L : Nat} (hT : Tn M 8 0 n) (hL : L ≤ 8) (hl2 : ∀ k, k < L → M 169 k = M 182 (2 * k) ∧ M 170 k = M 182 (2 * k + 1)) {M1 : Mem} (hl : LN M M1 n) {r : Nat} (hr : r < L) (hno : cnd (cM M n) n r ≠ 1 → Q (S, M1, some (.inl (-4)))) (hyes : ∀ i, i < n → cM M n r i = true → cnd (cM M n) n r = 1 → Q (S, M1, some (.inl (i : Int)))) : Ca 11 [.inr (.inr 169), .inl (r : Int), .inr (.inr 145)] S M1 Q := by
  have hn8 := hT.1.1
  have e0 : M1 146 0 = n := (LN_S hT hl).1.1
  apply r_X1_onlyPerson_0 hS
  refine sp_candidates hS hT hL hl2 hl hr ⟨_, _, rfl, fun z => ?_, fun z => hno z⟩
  obtain ⟨i0, hi0, hc0⟩ := cntB_ex (p := cM M n r) n (by unfold cnd at z; omega)
  have loop : ∀ d i : Nat, i + d = n → i ≤ i0 → En 11 10 [some (.inr (.inr 169)), some (.inl (r : Int)), some (.inr (.inr 145)), some (.inl (i : Int))] [] S M1 Q := by
    intro d
    induction d with
    | zero => intro i hi h2; omega
    | succ d ih =>
      intro i hi h2
      apply r_X1_onlyPerson_10 hS
      rw [e0, show ((i : Int) + 1) = ((i + 1 : Nat) : Int) by omega]
      refine ⟨fun z => by omega, fun _ => sp_canBe hS hT hL hl2 hl hr (by omega) ⟨_, _, rfl, fun w => ⟨by unfold inR; omega, ih (i + 1) (by omega) ?_⟩, fun w => hyes i (by omega) (bI_z.2 w) z⟩⟩
      by_cases e : i = i0
      · rw [e, hc0] at w; exact absurd w (by decide)
      · omega
  exact loop n 0 (by omega) (by omega)
theorem sm_20 (hM : KM S) {x1 tot : Int} {reach : Nat} {M1 : Mem} (h20 : M1 172 20 = (reach : Int)) : ∀ (c i : Nat) (x3 : Int), i + c = 8 → Q (S, M1, some (.inl (sF tot reach c x3))) → En 214 20 [some (.inr (.inr 173)), some (.inl x1), some (.inl tot), some (.inl x3), some (.inl (i : Int))] [] S M1 Q := by
  intro c
  induction c with
  | zero =>
    intro i x3 hi h
    apply r_X9_sure_20 hM
    exact ⟨fun _ => h, fun z => by omega⟩
  | succ c ih =>
    intro i x3 hi h
    have e7 : 7 - c = i := by omega
    rw [sF, e7] at h
    apply r_X9_sure_20 hM
    have e : (1 : Int) * 2 ^ i = ((2 ^ i : Nat) : Int) := by simp
    obtain ⟨q1, q2, q3⟩ := p2_in (v := i) (by omega)
    rw [show ((i : Int) + 1) = ((i + 1 : Nat) : Int) by omega, Int.toNat_natCast, h20, e]
    rw [e] at q2
    refine ⟨fun z => by omega, fun _ => ⟨fun z => ⟨by unfold inR; omega, ih (i + 1) x3 (by omega) ?_⟩, fun z => ⟨⟨by omega, by omega, by omega, q2⟩, fun w => ⟨by unfold inR; omega, ih (i + 1) x3 (by omega) ?_⟩, fun w => ⟨by unfold inR; omega, ih (i + 1) _ (by omega) ?_⟩⟩⟩⟩
    · rw [if_neg (by omega)] at h; exact h
    · rw [if_neg (fun q => w (by rw [q.2]))] at h; exact h
    · rw [if_pos ⟨z, by exact_mod_cast w⟩] at h; exact h
theorem Ledg_rows {M : Mem} (h : Ledg M) : ∃ L : Nat, L ≤ 8 ∧ M 168 2 = L ∧ M 172 14 = L ∧ ∀ k, k < L → M 169 k = M 182 (2 * k) ∧ M 170 k = M 182 (2 * k + 1) := by
  obtain ⟨l, l1, l2, l3, l4⟩ := h
  exact ⟨l, l1, l2, l3, fun k hk => ⟨(l4 k hk).1.1, (l4 k hk).2.1⟩⟩
theorem cM_row {M1 : Mem} (k1 : ∀ q, 172 ≤ q → M1 q = M q) (n : Nat) : cM M1 n = cM M n ∧ aM M1 = aM M := by
  refine ⟨?_, ?_⟩
  · funext d i
    unfold cM mf
    rw [mK_same (k1 180 (by decide)) 0, k1 180 (by decide), k1 182 (by decide), k1 175 (by decide), k1 174 (by decide)]
  · funext a b
    unfold aM
    rw [k1 182 (by decide)]
theorem sim_fits (hS : KC S) (hM : KM S) (hR : Rel M) : Sim S M 126 213 [] := by
  obtain ⟨n, hT, -, -, -, -, hLg⟩ := id hR
  obtain ⟨L, l1, l2, l3, l4⟩ := Ledg_rows hLg
  have hn : M 8 0 = n := hT.2.1.1
  refine Sim.query2 hR (pw (cM M n) (aM M) n L) (fun Q h => ?_) (fun M1 s1 k1 hR1 Q h => ?_)
  · apply r_X8_fits_0 hS
    refine sp_lineNow hS hn (Tn_names hT) (fun M' hl => ⟨_, rfl, ?_⟩)
    exact sp_countWays hS hT l1 l2 l4 hl ⟨_, _, rfl, h M' (LN_same hl) (fun q hq => hl.1 q (by omega))⟩
  · have hT1 := Rel_n hT s1 hR1
    apply r_X9_fits_0 hM
    refine sq_ways hM hT1 l1 (by rw [k1 172 (by decide)]; exact l3) (Or.inl (by decide)) (fun M' w' _ => ⟨_, _, rfl, ?_⟩)
    rw [(cM_row k1 n).1, (cM_row k1 n).2]
    exact h M' (Mw_same w')
theorem sim_sure (hS : KC S) (hM : KM S) (hR : Rel M) (p : Int) : Sim S M 127 214 [.inl p] := by
  obtain ⟨n, hT, -, -, -, -, hLg⟩ := id hR
  obtain ⟨L, l1, l2, l3, l4⟩ := Ledg_rows hLg
  have hn : M 8 0 = n := hT.2.1.1
  have hn8 := hT.1.1
  have pb := pw_in (ca := cM M n) (al := aM M) hn8 L
  by_cases hp : 0 ≤ p ∧ p ≤ (L : Int) - 1
  · obtain ⟨w, rfl, hw⟩ := int_nat hp
    have cls : ∀ {v : Int}, (pw (cM M n) (aM M) n L = 0 → v = -4) → (pw (cM M n) (aM M) n L ≠ 0 → cnd (cM M n) n w ≠ 1 → v = -4) → (pw (cM M n) (aM M) n L ≠ 0 → ∀ i, i < n → cM M n w i = true → cnd (cM M n) n w = 1 → v = (i : Int)) → ∀ Q : Res → Prop, (∀ M', Same M M' → (∀ q, 172 ≤ q → M' q = M q) → Q (S, M', some (.inl v))) → Ca 127 [.inr (.inr 5), .inl (w : Int)] S M Q := fun {v} v1 v2 v3 Q h => by
      apply r_X8_sure_0 hS
      rw [l2]
      refine ⟨fun z => by omega, fun _ => ⟨fun _ => sp_lineNow hS hn (Tn_names hT) (fun M' hl => ⟨_, rfl, ?_⟩), fun z => by omega⟩⟩
      have hh := h M' (LN_same hl) (fun q hq => hl.1 q (by omega))
      refine sp_countWays hS hT l1 l2 l4 hl ⟨_, _, rfl, fun z => sp_onlyPerson hS hT l1 l4 hl hw (fun y => ⟨_, _, rfl, ?_⟩) (fun i hi hc h1 => ⟨_, _, rfl, ?_⟩), fun z => ?_⟩
      · rw [v2 z y] at hh; exact hh
      · rw [v3 z i hi hc h1] at hh; exact hh
      · rw [v1 z] at hh; exact hh
    have mdl : ∀ {v : Int}, v = sF (pw (cM M n) (aM M) n L) (fr (cM M n) n L (w : Int) L (fun _ => 0)) 8 (-4) → ∀ M1, Same M M1 → (∀ q, 172 ≤ q → M1 q = M q) → Rel M1 → ∀ Q : Res → Prop, (∀ M', Same M1 M' → Q (S, M', some (.inl v))) → Ca 214 [.inr (.inr 173), .inl (w : Int)] S M1 Q := fun {v} hv M1 s1 k1 hR1 Q h => by
      have hT1 := Rel_n hT s1 hR1
      have e14 : M1 172 14 = L := by rw [k1 172 (by decide)]; exact l3
      apply r_X9_sure_0 hM
      rw [e14]
      refine ⟨by unfold inR; omega, sq_in hM ⟨_, _, rfl, ?_⟩⟩
      rw [if_pos hp]
      refine ⟨fun _ => sq_ways hM hT1 l1 e14 (Or.inr (by omega)) (fun M' w' t' => ⟨_, _, rfl, ?_⟩), fun z => absurd z (by decide)⟩
      rw [(cM_row k1 n).1] at t' ⊢
      rw [(cM_row k1 n).2]
      refine sm_20 hM t' 8 0 (-4) rfl ?_
      rw [← hv]
      exact h M' (Mw_same w')
    by_cases h0 : pw (cM M n) (aM M) n L = 0
    · refine Sim.query2 hR (-4) (fun Q h => cls (fun _ => rfl) (fun z => absurd h0 z) (fun z => absurd h0 z) Q h) (fun M1 s1 k1 hR1 Q h => mdl ?_ M1 s1 k1 hR1 Q h)
      rw [sF_no (fun i _ q => by have := q.1; omega)]
    · have hpos := sp_pos hn8 L h0
      have fb := (fr_bits (ca := cM M n) (al := aM M) (cM_kind M n L) hw hpos L (fun _ => 0) (Nat.le_refl _) (fun k hk => by omega)).2 (by omega)
      have fb' : ∀ b, (fr (cM M n) n L (w : Int) L (fun _ => 0)).testBit b = true ↔ (b < n ∧ cM M n w b = true) := fun b => by
        rw [fb b]
        exact ⟨fun q => ⟨q.1, q.2.1⟩, fun q => ⟨q.1, q.2, fun k hk => by omega⟩⟩
      have hc1 : 1 ≤ cnd (cM M n) n w := by
        have a := hpos w hw
        have b := (cntB_in (p := fun k => aM M k w) w).1
        unfold alk at a
        omega
      by_cases h1 : cnd (cM M n) n w = 1
      · obtain ⟨i0, hi0, hc0⟩ := cntB_ex (p := cM M n w) n hc1
        have uniq : ∀ i, i < n → cM M n w i = true → i = i0 := fun i hi hc => by
          by_cases e : i = i0
          · exact e
          · have := cntB_two e hc hc0 hi hi0
            unfold cnd at h1
            omega
        refine Sim.query2 hR (i0 : Int) (fun Q h => cls (fun z => absurd z h0) (fun _ z => absurd h1 z) (fun _ i hi hc _ => by rw [uniq i hi hc]) Q h) (fun M1 s1 k1 hR1 Q h => mdl ?_ M1 s1 k1 hR1 Q h)
        have e : fr (cM M n) n L (w : Int) L (fun _ => 0) = 2 ^ i0 := set_ext (fun b => by
          rw [Bool.eq_iff_iff, fb' b, Nat.testBit_two_pow, decide_eq_true_eq]
          exact ⟨fun q => (uniq b q.1 q.2).symm, fun q => by subst q; exact ⟨hi0, hc0⟩⟩)
        rw [e, sF_yes (by omega) (by omega) 8 _ (Nat.le_refl 8), if_pos (by omega)]
      · refine Sim.query2 hR (-4) (fun Q h => cls (fun z => absurd z h0) (fun _ _ => rfl) (fun _ i _ _ z => absurd z h1) Q h) (fun M1 s1 k1 hR1 Q h => mdl ?_ M1 s1 k1 hR1 Q h)
        obtain ⟨a, ha, hca⟩ := cntB_ex (p := cM M n w) n hc1
        obtain ⟨b, hb, hcb, hab⟩ := cntB_ex2 (p := cM M n w) (b := a) (m := n) (by unfold cnd at h1 hc1; omega)
        rw [sF_no (fun i _ q => ?_)]
        have x := (fb' a).mpr ⟨ha, hca⟩
        have y := (fb' b).mpr ⟨hb, hcb⟩
        rw [q.2, Nat.testBit_two_pow, decide_eq_true_eq] at x y
        exact hab (by omega)
  · refine Sim.query2 hR (-1) (fun Q h => ?_) (fun M1 s1 k1 hR1 Q h => ?_)
    · apply r_X8_sure_0 hS
      rw [l2]
      exact ⟨fun z => h M (Same.refl M) (fun _ _ => rfl), fun _ => ⟨fun z => by omega, fun z => h M (Same.refl M) (fun _ _ => rfl)⟩⟩
    · have e14 : M1 172 14 = L := by rw [k1 172 (by decide)]; exact l3
      apply r_X9_sure_0 hM
      rw [e14]
      refine ⟨by unfold inR; omega, sq_in hM ⟨_, _, rfl, ?_⟩⟩
      rw [if_neg hp]
      exact ⟨fun z => absurd rfl z, fun _ => h M1 (Same.refl M1)⟩
end Fits
