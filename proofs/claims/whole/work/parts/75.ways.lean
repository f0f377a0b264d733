/-! the reference's search -/
def cM (M : Mem) (n d i : Nat) : Bool := decide (mf M 0 i = M 182 (2 * d) ∧ mget (mK M 0) (M 175) (M 174 1) n i = M 182 (2 * d + 1))
def aM (M : Mem) (k d : Nat) : Bool := decide (M 182 (2 * k) = M 182 (2 * d) ∧ M 182 (2 * k + 1) = M 182 (2 * d + 1))
theorem cM_kind (M : Mem) (n L : Nat) : kind (cM M n) (aM M) n L := by
  refine ⟨fun k d i _ _ _ h => ?_, fun k d h i => ?_, fun a b c h => ?_, fun a b h => ?_⟩
  · unfold cM at h ⊢
    unfold aM
    rw [decide_eq_true_eq] at h
    rw [decide_eq_true_eq, decide_eq_true_eq, ← h.1, ← h.2]
  · unfold aM at h
    rw [decide_eq_true_eq] at h
    unfold cM
    rw [h.1, h.2]
  · unfold aM at h ⊢
    rw [decide_eq_true_eq] at h
    rw [h.1, h.2]
  · unfold aM at h ⊢
    rw [decide_eq_true_eq] at h ⊢
    exact ⟨h.1.symm, h.2.symm⟩
def Mw (M M1 : Mem) (n : Nat) : Prop := (∀ q, q ≠ 183 → q ≠ 185 → q ≠ 172 → M1 q = M q) ∧ (∀ k, k ≠ 20 → M1 172 k = M 172 k) ∧ ∀ i, i < n → M1 183 i = mget (mK M 0) (M 175) (M 174 1) n i
theorem Mw_same {M M1 : Mem} {n : Nat} (h : Mw M M1 n) : Same M M1 := fun q k hq => by
  unfold scr at hq
  by_cases h2 : q = 172
  · subst h2; exact h.2.1 k (by omega)
  · rw [h.1 q (by omega) (by omega) h2]
theorem Mw_up5 {M M1 : Mem} {n : Nat} (h : Mw M M1 n) (k : Nat) (v : Int) : Mw M (up2 M1 185 k v) n := ⟨fun q q1 q2 q3 => by rw [up2_row _ _ _ _ q2]; exact h.1 q q1 q2 q3, fun j hj => by rw [up2_row _ _ _ _ (by decide)]; exact h.2.1 j hj, fun i hi => by rw [up2_row _ _ _ _ (by decide)]; exact h.2.2 i hi⟩
theorem Mw_up2 {M M1 : Mem} {n : Nat} (h : Mw M M1 n) (v : Int) : Mw M (up2 M1 172 20 v) n := ⟨fun q q1 q2 q3 => by rw [up2_row _ _ _ _ q3]; exact h.1 q q1 q2 q3, fun j hj => by rw [up2_off _ _ _ _ hj]; exact h.2.1 j hj, fun i hi => by rw [up2_row _ _ _ _ (by decide)]; exact h.2.2 i hi⟩
theorem sumB_skip {p : Nat → Bool} {W : Nat → Int} {a : Nat} : ∀ b, a ≤ b → (∀ j, a ≤ j → j < b → p j = false) → sumB p W b = sumB p W a := by
  intro b
  induction b with
  | zero => intro h _; have : a = 0 := by omega
            rw [this]
  | succ b ih =>
    intro h hp
    by_cases hab : a = b + 1
    · rw [hab]
    · rw [sumB, ih (by omega) (fun j h1 h2 => hp j h1 (by omega)), hp b (by omega) (by omega), if_neg (by decide), Int.add_zero]
theorem orB_skip {p : Nat → Bool} {f : Nat → Nat} {a : Nat} : ∀ b, a ≤ b → (∀ j, a ≤ j → j < b → p j = false) → orB p f b = orB p f a := by
  intro b
  induction b with
  | zero => intro h _; have : a = 0 := by omega
            rw [this]
  | succ b ih =>
    intro h hp
    by_cases hab : a = b + 1
    · rw [hab]
    · rw [orB, ih (by omega) (fun j h1 h2 => hp j h1 (by omega)), hp b (by omega) (by omega), if_neg (by decide), Nat.or_zero]
theorem sumB_up {p : Nat → Bool} {W : Nat → Int} (h : ∀ j, 0 ≤ W j) {a : Nat} : ∀ b, a ≤ b → sumB p W a ≤ sumB p W b := by
  intro b
  induction b with
  | zero => intro h; have : a = 0 := by omega
            rw [this]; exact Int.le_refl _
  | succ b ih =>
    intro hab
    by_cases e : a = b + 1
    · rw [e]; exact Int.le_refl _
    · have := ih (by omega)
      have := h b
      rw [sumB]; split <;> omega
section Ways
variable {S : Shp} {M : Mem} {Q : Res → Prop}
theorem nx_43 (hM : KM S) {n d i : Nat} {R : Nat → Nat} {M1 : Mem} (hd : d < 8) (hi : i < 8) (hr : ∀ k, k < d → M1 185 k = (R k : Int)) (hno : okb (cM M n) d R i = false → En 212 7 [some (.inr (.inr 173)), some (.inl (d : Int)), some (.inl ((i + 1 : Nat) : Int)), none, none] [] S M1 Q) (hyes : okb (cM M n) d R i = true → Q (S, up2 M1 185 d (i : Int), some (.inl 1))) : ∀ c k : Nat, k + c = d → En 212 43 [some (.inr (.inr 173)), some (.inl (d : Int)), some (.inl (i : Int)), some (.inl (bI (cM M n d i && nin R i k))), some (.inl (k : Int))] [] S M1 Q := by
  intro c
  induction c with
  | zero =>
    intro k hk
    have e : k = d := by omega
    subst e
    apply r_X9_isNext_43 hM
    rw [show ((i : Int) + 1) = ((i + 1 : Nat) : Int) by omega, Int.toNat_natCast]
    refine ⟨fun _ => ⟨fun z => ⟨by unfold inR; omega, hno (bI_z.1 z)⟩, fun z => ⟨by omega, hyes (bI_z.2 z)⟩⟩, fun z => by omega⟩
  | succ c ih =>
    intro k hk
    have nx := ih (k + 1) (by omega)
    rw [nin] at nx
    apply r_X9_isNext_43 hM
    rw [show ((k : Int) + 1) = ((k + 1 : Nat) : Int) by omega, Int.toNat_natCast k, hr k (by omega)]
    refine ⟨fun z => by omega, fun _ => ⟨fun z => ⟨by unfold inR; omega, ?_⟩, fun z => ⟨by omega, fun w => ⟨by unfold inR; omega, ?_⟩, fun w => ⟨by unfold inR; omega, ?_⟩⟩⟩⟩
    · have := bI_z.1 z
      rw [← Bool.and_assoc, this, Bool.false_and] at nx
      exact nx
    · have e : R k = i := by omega
      rw [e] at nx
      simp [bI] at nx
      exact nx
    · have e : R k ≠ i := by omega
      have := bI_z.2 z
      rw [← Bool.and_assoc, this, decide_eq_true e] at nx
      exact nx
theorem nx_7 (hM : KM S) {n : Nat} (hT : Tn M 8 0 n) {d i0 : Nat} {R : Nat → Nat} {M1 : Mem} (hd : d < 8) (hw : Mw M M1 n) (hr : ∀ k, k < d → M1 185 k = (R k : Int)) (hno : (∀ i, i0 ≤ i → i < n → okb (cM M n) d R i = false) → Q (S, M1, some (.inl 0))) (hyes : ∀ i, i0 ≤ i → i < n → okb (cM M n) d R i = true → (∀ j, i0 ≤ j → j < i → okb (cM M n) d R j = false) → Q (S, up2 M1 185 d (i : Int), some (.inl 1))) : ∀ c i : Nat, i + c = n → i0 ≤ i → (∀ j, i0 ≤ j → j < i → okb (cM M n) d R j = false) → En 212 7 [some (.inr (.inr 173)), some (.inl (d : Int)), some (.inl (i : Int)), none, none] [] S M1 Q := by
  have hn8 := hT.1.1
  have e0 : M1 174 (0 : Int).toNat = n := by rw [hw.1 174 (by decide) (by decide) (by decide)]; exact hT.2.1.2.1
  intro c
  induction c with
  | zero =>
    intro i hi h1 h2
    apply r_X9_isNext_7 hM
    rw [e0]
    exact ⟨by decide, fun _ => hno (fun j a b => h2 j a (by omega)), fun z => by omega⟩
  | succ c ih =>
    intro i hi h1 h2
    apply r_X9_isNext_7 hM
    rw [e0]
    refine ⟨by decide, fun z => by omega, fun _ => sq_first (s := 0) hM (by decide) (by omega) ⟨_, _, rfl, ?_⟩⟩
    have emf : mf M1 0 i = mf M 0 i := by unfold mf; rw [hw.1 180 (by decide) (by decide) (by decide)]
    have t1 : ((2 : Int) * d).toNat = 2 * d := by omega
    have t2 : ((2 : Int) * d + 1).toNat = 2 * d + 1 := by omega
    have e182 := hw.1 182 (by decide) (by decide) (by decide)
    rw [emf, t1, t2, e182, Int.toNat_natCast, hw.2.2 i (by omega)]
    have k43 := nx_43 (Q := Q) (M := M) hM (n := n) (d := d) (i := i) (R := R) (M1 := M1) hd (by omega) hr (fun q => ih (i + 1) (by omega) (by omega) (fun j a b => by
      by_cases hji : j = i
      · rw [hji]; exact q
      · exact h2 j a (by omega))) (fun q => hyes i h1 (by omega) q h2) d 0 (by omega)
    have nz : nin R i 0 = true := rfl
    rw [nz, Bool.and_true] at k43
    refine ⟨by unfold inR; omega, by omega, fun z => ?_, fun z => ⟨by omega, by unfold inR; omega, by unfold inR; omega, by omega, fun w => ?_, fun w => ?_⟩⟩
    · have : cM M n d i = false := decide_eq_false (fun q => z q.1)
      rw [this] at k43; exact k43
    · have : cM M n d i = false := decide_eq_false (fun q => w q.2)
      rw [this] at k43; exact k43
    · have : cM M n d i = true := decide_eq_true ⟨z, w⟩
      rw [this] at k43; exact k43
theorem sq_isNext (hM : KM S) {n : Nat} (hT : Tn M 8 0 n) {d i0 : Nat} {R : Nat → Nat} {M1 : Mem} (hd : d < 8) (hi0 : i0 ≤ n) (hw : Mw M M1 n) (hr : ∀ k, k < d → M1 185 k = (R k : Int)) (h5 : M1 185 d = (i0 : Int) - 1) (hno : (∀ i, i0 ≤ i → i < n → okb (cM M n) d R i = false) → Q (S, M1, some (.inl 0))) (hyes : ∀ i, i0 ≤ i → i < n → okb (cM M n) d R i = true → (∀ j, i0 ≤ j → j < i → okb (cM M n) d R j = false) → Q (S, up2 M1 185 d (i : Int), some (.inl 1))) : Ca 212 [.inr (.inr 173), .inl (d : Int)] S M1 Q := by
  have hn8 := hT.1.1
  apply r_X9_isNext_0 hM
  rw [Int.toNat_natCast, h5, show ((i0 : Int) - 1 + 1) = (i0 : Int) by omega]
  exact ⟨by omega, by unfold inR; omega, nx_7 hM hT hd hw hr hno hyes (n - i0) i0 (by omega) (Nat.le_refl _) (fun j a b => by omega)⟩
theorem ws_main (hM : KM S) {n L : Nat} {w x2 x5 : Int} (hT : Tn M 8 0 n) (hL : L ≤ 8) (h14 : M 172 14 = L) (hwL : w < 0 ∨ (0 ≤ w ∧ w < (L : Int))) : ∀ (e : Nat), e ≤ L → ∀ (R : Nat → Nat) (M1 : Mem) (nn : Int) (rr : Nat), Mw M M1 n → (∀ k, k < L - e → M1 185 k = (R k : Int)) → (∀ k, L - e ≤ k → k < 8 → M1 185 k = -1) → (∀ k, k < L - e → R k < 8) → M1 172 20 = (rr : Int) → 0 ≤ nn → nn + fc (cM M n) n L e R ≤ 16777216 → (∀ M', Mw M M' n → (∀ k, k < L - e → M' 185 k = (R k : Int)) → (∀ k, L - e ≤ k → k < 8 → M' 185 k = -1) → M' 172 20 = ((rr ||| fr (cM M n) n L w e R : Nat) : Int) → En 211 25 [some (.inr (.inr 173)), some (.inl w), some (.inl x2), some (.inl (nn + fc (cM M n) n L e R)), some (.inl (((L - e : Nat) : Int) - 1)), some (.inl x5)] [] S M' Q) → En 211 25 [some (.inr (.inr 173)), some (.inl w), some (.inl x2), some (.inl nn), some (.inl ((L - e : Nat) : Int)), some (.inl x5)] [] S M1 Q := by
  have hn8 := hT.1.1
  intro e
  induction e with
  | zero =>
    intro _ R M1 nn rr hw hr h1 h8 h20 hnn hb hk
    apply r_X9_ways_25 hM
    have e14 : M1 172 14 = L := by rw [hw.2.1 14 (by decide)]; exact h14
    rw [e14, h20, Nat.sub_zero, show ((L : Int) + -1) = (L : Int) - 1 by omega]
    rw [Nat.sub_zero] at hr h1 h8
    rw [fc] at hb
    refine ⟨fun z => by omega, fun _ => ⟨fun z => absurd rfl z, fun _ => ⟨by unfold inR; omega, fun z => ⟨by omega, by unfold inR; omega, ?_⟩, fun z => ?_⟩⟩⟩
    · refine hk _ (Mw_up2 hw _) (fun k hk' => by rw [up2_row _ _ _ _ (by decide)]; exact hr k hk') (fun k a b => by rw [up2_row _ _ _ _ (by decide)]; exact h1 k a b) ?_
      rw [up2_get, fr]
      unfold lb
      rw [if_pos z, Int.toNat_natCast]
      rfl
    · have hwn : w.toNat < L := by omega
      have r1 := h8 w.toNat hwn
      obtain ⟨q1, q2, q3⟩ := p2_in (v := R w.toNat) (by omega)
      rw [hr w.toNat hwn]
      refine ⟨by omega, p2k (k := R w.toNat) (by omega), ⟨by omega, ?_⟩, by unfold inR; omega, ?_⟩
      · rw [Int.toNat_natCast]; exact q1
      · refine hk _ (Mw_up2 hw _) (fun k hk' => by rw [up2_row _ _ _ _ (by decide)]; exact hr k hk') (fun k a b => by rw [up2_row _ _ _ _ (by decide)]; exact h1 k a b) ?_
        rw [up2_get, fr]
        unfold lb
        rw [if_neg (by omega), Int.toNat_natCast, Int.toNat_natCast, q3]
  | succ e ih =>
    intro he R M1 nn rr hw hr h1 h8 h20 hnn hb hk
    have ih := ih (by omega)
    obtain ⟨d, hd⟩ : ∃ d, d = L - (e + 1) := ⟨_, rfl⟩
    have ed : L - e = d + 1 := by omega
    rw [ed] at ih
    rw [fc, ← hd] at hb hk
    rw [fr, ← hd] at hk
    rw [← hd] at hr h1 h8 ⊢
    have inner : ∀ (c i0 : Nat) (M2 : Mem), n - i0 ≤ c → i0 ≤ n → Mw M M2 n → (∀ k, k < d → M2 185 k = (R k : Int)) → M2 185 d = (i0 : Int) - 1 → (∀ k, d < k → k < 8 → M2 185 k = -1) → M2 172 20 = ((rr ||| orB (okb (cM M n) d R) (fun i => fr (cM M n) n L w e (rset R d i)) i0 : Nat) : Int) → En 211 25 [some (.inr (.inr 173)), some (.inl w), some (.inl x2), some (.inl (nn + sumB (okb (cM M n) d R) (fun i => fc (cM M n) n L e (rset R d i)) i0)), some (.inl (d : Int)), some (.inl x5)] [] S M2 Q := by
      intro c
      induction c with
      | zero =>
        intro i0 M2 hc hi0 w2 r2 d2 a2 t2
        have ei : i0 = n := by omega
        subst ei
        apply r_X9_ways_25 hM
        have e14 : M2 172 14 = L := by rw [w2.2.1 14 (by decide)]; exact h14
        rw [e14, Int.toNat_natCast, show ((d : Int) + -1) = (d : Int) - 1 by omega]
        refine ⟨fun z => by omega, fun _ => ⟨fun _ => sq_isNext hM hT (by omega) hi0 w2 r2 d2 (fun _ => ⟨_, _, rfl, fun _ => ⟨by omega, by unfold inR; omega, hk _ (Mw_up5 w2 _ _) (fun k q => by rw [up2_off _ _ _ _ (by omega)]; exact r2 k q) (fun k q1 q2 => ?_) (by rw [up2_row _ _ _ _ (by decide)]; exact t2)⟩, fun z => absurd rfl z⟩) (fun i a b => by omega), fun z => by omega⟩⟩
        rw [up2_any]
        split
        · rfl
        · exact a2 k (by omega) q2
      | succ c ihc =>
        intro i0 M2 hc hi0 w2 r2 d2 a2 t2
        apply r_X9_ways_25 hM
        have e14 : M2 172 14 = L := by rw [w2.2.1 14 (by decide)]; exact h14
        rw [e14, Int.toNat_natCast, show ((d : Int) + -1) = (d : Int) - 1 by omega, show ((d : Int) + 1) = ((d + 1 : Nat) : Int) by omega]
        refine ⟨fun z => by omega, fun _ => ⟨fun _ => sq_isNext hM hT (by omega) hi0 w2 r2 d2 (fun hn => ⟨_, _, rfl, fun _ => ⟨by omega, by unfold inR; omega, ?_⟩, fun z => absurd rfl z⟩) (fun i a b ok hskip => ⟨_, _, rfl, fun z => absurd z (by decide), fun _ => ⟨by unfold inR; omega, ?_⟩⟩), fun z => by omega⟩⟩
        · have s1 := sumB_skip (p := okb (cM M n) d R) (W := fun i => fc (cM M n) n L e (rset R d i)) n hi0 hn
          have s2 := orB_skip (p := okb (cM M n) d R) (f := fun i => fr (cM M n) n L w e (rset R d i)) n hi0 hn
          rw [← s1]
          refine hk _ (Mw_up5 w2 _ _) (fun k q => by rw [up2_off _ _ _ _ (by omega)]; exact r2 k q) (fun k q1 q2 => ?_) (by rw [up2_row _ _ _ _ (by decide), t2, s2])
          rw [up2_any]
          split
          · rfl
          · exact a2 k (by omega) q2
        · have s1 := sumB_skip (p := okb (cM M n) d R) (W := fun i => fc (cM M n) n L e (rset R d i)) i a hskip
          have s2 := orB_skip (p := okb (cM M n) d R) (f := fun i => fr (cM M n) n L w e (rset R d i)) i a hskip
          have pe : sumB (okb (cM M n) d R) (fun i => fc (cM M n) n L e (rset R d i)) (i + 1) = sumB (okb (cM M n) d R) (fun i => fc (cM M n) n L e (rset R d i)) i + fc (cM M n) n L e (rset R d i) := by rw [sumB, if_pos ok]
          have oe : orB (okb (cM M n) d R) (fun i => fr (cM M n) n L w e (rset R d i)) (i + 1) = orB (okb (cM M n) d R) (fun i => fr (cM M n) n L w e (rset R d i)) i ||| fr (cM M n) n L w e (rset R d i) := by rw [orB, if_pos ok]
          have up1 := sumB_up (p := okb (cM M n) d R) (W := fun i => fc (cM M n) n L e (rset R d i)) (fun j => fc_nn e _) (a := i + 1) n (by omega)
          have up0 := sumB_up (p := okb (cM M n) d R) (W := fun i => fc (cM M n) n L e (rset R d i)) (fun j => fc_nn e _) (a := 0) i (by omega)
          have z0 : sumB (okb (cM M n) d R) (fun i => fc (cM M n) n L e (rset R d i)) 0 = 0 := rfl
          have rs : ∀ k, k ≠ d → rset R d i k = R k := fun k h => if_neg h
          have rd : rset R d i d = i := if_pos rfl
          rw [← s1]
          rw [← s2] at t2
          refine ih (rset R d i) _ _ _ (Mw_up5 w2 _ _) (fun k q => ?_) (fun k q1 q2 => ?_) (fun k q => ?_) (by rw [up2_row _ _ _ _ (by decide)]; exact t2) (by omega) (by omega) (fun M3 w3 r3 a3 t3 => ?_)
          · by_cases hkd : k = d
            · rw [hkd, up2_get, rd]
            · rw [up2_off _ _ _ _ hkd, rs k hkd]; exact r2 k (by omega)
          · rw [up2_off _ _ _ _ (by omega)]; exact a2 k (by omega) q2
          · by_cases hkd : k = d
            · rw [hkd, rd]; omega
            · rw [rs k hkd]; exact h8 k (by omega)
          · have := ihc (i + 1) M3 (by omega) (by omega) w3 (fun k q => by rw [r3 k (by omega), rs k (by omega)]) (by rw [r3 d (by omega), rd]; omega) (fun k q1 q2 => a3 k (by omega) q2) (by rw [t3, oe, Nat.or_assoc])
            rw [pe, ← Int.add_assoc] at this
            rw [show (((d + 1 : Nat) : Int) - 1) = (d : Int) by omega]
            exact this
    have := inner n 0 M1 (by omega) (by omega) hw hr (by rw [h1 d (Nat.le_refl _) (by omega)]; rfl) (fun k q1 q2 => h1 k (by omega) q2) (by rw [orB, Nat.or_zero]; exact h20)
    rw [sumB, Int.add_zero] at this
    exact this
theorem ws_15 (hM : KM S) {n : Nat} {w x2 : Int} (h : ∀ M', Mw M M' n → (∀ k, k < 8 → M' 185 k = -1) → M' 172 20 = 0 → En 211 25 [some (.inr (.inr 173)), some (.inl w), some (.inl x2), some (.inl (0 : Int)), some (.inl (0 : Int)), some (.inl (8 : Int))] [] S M' Q) : ∀ (c k : Nat) (M1 : Mem), k + c = 8 → Mw M M1 n → M1 172 20 = 0 → (∀ j, j < k → M1 185 j = -1) → En 211 15 [some (.inr (.inr 173)), some (.inl w), some (.inl x2), some (.inl (0 : Int)), some (.inl (0 : Int)), some (.inl (k : Int))] [] S M1 Q := by
  intro c
  induction c with
  | zero =>
    intro k M1 hk hw h20 h1
    have e : k = 8 := by omega
    subst e
    apply r_X9_ways_15 hM
    exact ⟨fun _ => h M1 hw h1 h20, fun z => by omega⟩
  | succ c ih =>
    intro k M1 hk hw h20 h1
    apply r_X9_ways_15 hM
    rw [Int.toNat_natCast, show ((k : Int) + 1) = ((k + 1 : Nat) : Int) by omega]
    refine ⟨fun z => by omega, fun _ => ⟨by omega, by unfold inR; omega, ih (k + 1) _ (by omega) (Mw_up5 hw _ _) (by rw [up2_row _ _ _ _ (by decide)]; exact h20) (fun j hj => ?_)⟩⟩
    rw [up2_any]
    split
    · rfl
    · rename_i z; exact h1 j (by omega)
theorem sq_ways (hM : KM S) {n L : Nat} {w : Int} (hT : Tn M 8 0 n) (hL : L ≤ 8) (h14 : M 172 14 = L) (hwL : w < 0 ∨ (0 ≤ w ∧ w < (L : Int))) (h : ∀ M', Mw M M' n → M' 172 20 = ((fr (cM M n) n L w L (fun _ => 0) : Nat) : Int) → Q (S, M', some (.inl (pw (cM M n) (aM M) n L)))) : Ca 211 [.inr (.inr 173), .inl w] S M Q := by
  have hn8 := hT.1.1
  have ef : fc (cM M n) n L L (fun _ => 0) = pw (cM M n) (aM M) n L := by
    rw [fc_sp (cM_kind M n L) L _ (Nat.le_refl _) (fun k hk => by omega), pw_sp L (Nat.le_refl _), Nat.sub_self, pw, Int.one_mul]
  have pb := pw_in (ca := cM M n) (al := aM M) hn8 L
  have p8 := pow8 L hL
  apply r_X9_ways_0 hM
  refine sq_morning (s := 0) hM (by decide) (Tn_bnd hT) (Tn_mN hT) (fun M1 g1 g2 => ⟨_, _, rfl, ?_, ?_⟩)
  · rw [Int.sub_self]; unfold inR; omega
  · rw [Int.sub_self]
    have w1 : Mw M M1 n := ⟨fun q q1 _ _ => g1 q q1, fun k _ => by rw [g1 172 (by decide)], g2⟩
    refine ws_15 hM (n := n) (fun M2 w2 r2 t2 => ?_) 8 0 _ rfl (Mw_up2 w1 _) (up2_get _ _ _ _) (fun j hj => by omega)
    have := ws_main (Q := Q) hM (w := w) (x2 := lfull (mK M 0) (M 175) (M 174 1) n n) (x5 := 8) hT hL h14 hwL L (Nat.le_refl _) (fun _ => 0) M2 0 0 w2 (fun k hk => by omega) (fun k _ hk => r2 k hk) (fun k hk => by omega) t2 (Int.le_refl 0) (by rw [ef]; omega) (fun M3 w3 _ _ t3 => by
      rw [Nat.zero_or] at t3
      rw [ef, Int.zero_add, Nat.sub_self]
      apply r_X9_ways_25 hM
      exact ⟨fun _ => h M3 w3 t3, fun z => by omega⟩)
    rw [Nat.sub_self] at this
    exact this
end Ways
