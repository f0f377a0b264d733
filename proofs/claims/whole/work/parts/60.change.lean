/-! change, run -/
/-- a call that changes nothing that lasts; the class touches nothing of the reference -/
theorem Sim.query2 {S : Shp} {M : Mem} {a b : Nat} {as : List AV} (hR : Rel M) (v : Int) (h1 : ∀ Q : Res → Prop, (∀ M', Same M M' → (∀ q, 172 ≤ q → M' q = M q) → Q (S, M', some (.inl v))) → Ca a (.inr (.inr 5) :: as) S M Q) (h2 : ∀ M1, Same M M1 → (∀ q, 172 ≤ q → M1 q = M q) → Rel M1 → ∀ Q : Res → Prop, (∀ M', Same M1 M' → Q (S, M', some (.inl v))) → Ca b (.inr (.inr 173) :: as) S M1 Q) : Sim S M a b as := by
  refine h1 _ (fun M1 s1 k1 => ⟨M1, v, rfl, h2 M1 s1 k1 (Rel_same s1 hR) _ (fun M2 s2 => ⟨M2, rfl, Rel_same (s1.trans s2) hR, ?_⟩)⟩)
  funext k
  exact (s1.trans s2) 0 k (by unfold scr; omega)
def Lr (M M1 : Mem) (f : Nat → Int) (n : Nat) : Prop := (∀ q, q < 145 ∨ 156 < q → M1 q = M q) ∧ LnS M1 n ∧ (∀ i, i < n → M1 145 i = nk (M 180) f i) ∧ (∀ i, i < n → M1 147 i = M 180 i) ∧ (∀ (i k : Nat), i < n → (k : Int) < M 180 i → M1 148 (6 * i + k) = fl (fun k => M 180 (8 + 6 * i + k)) (f i) k) ∧ (∀ i, i < n → M1 149 i = M 175 i) ∧ (M1 146 1 = M 174 1 ∧ M1 146 3 = M 174 3 ∧ M1 146 4 = M 174 5) ∧ (∀ x, x < 26 → M1 154 x = M 180 (144 + x)) ∧ (∀ r, r < 26 → M1 155 r = M 17 r)
theorem nk_f0 (M : Mem) (i : Nat) : nk (M 180) (f0 M) i = mK M 0 i := by
  have e : fl (fun k => M 180 (8 + 6 * i + k)) (f0 M i) = (fun k => M 180 (8 + 6 * i + k)) := fl_id (fun k => M 180 (8 + 6 * i + k))
  unfold nk mK
  rw [e]
  simp only [Nat.mul_zero, Nat.zero_add]
theorem f0_ok {M : Mem} {n : Nat} (hs : sok (M 180) n) : fok (M 180) (f0 M) n := fun i hi hz => by
  have g := hs.1 i hi
  have g1 := g.1
  exact g.2 0 (by omega)
theorem Lr_LN {M M1 : Mem} {n : Nat} (hT : Tn M 8 0 n) (hl : LN M M1 n) : Lr M M1 (f0 M) n := by
  obtain ⟨t0, t1, t2, t3, t4, t5, t6, t7, t8, t9, t10⟩ := Tn_TT hT
  obtain ⟨c1, c2, c3, c4, c5⟩ := LN_S hT hl
  obtain ⟨l1, l2, l3⟩ := hl
  refine ⟨l1, c1, fun i hi => by rw [nk_f0]; exact c2 i hi, fun i hi => ?_, fun i k hi hk => ?_, c3, ⟨c4, c5, ?_⟩, fun x hx => ?_, fun r hr => ?_⟩
  · have a : M1 147 i = M 9 i := l2 1 (by decide) i (show i < 8 by omega)
    rw [a]; exact (t1 i hi).1
  · have b := (t1 i hi).2
    have a : M1 148 (6 * i + k) = M 10 (6 * i + k) := l2 2 (by decide) (6 * i + k) (show 6 * i + k < 48 by omega)
    rw [a, (t2 i k hi hk).1]
    exact (congrFun (fl_id (fun k => M 180 (8 + 6 * i + k))) k).symm
  · have a : M1 146 4 = M 8 4 := l2 0 (by decide) 4 (by decide)
    have b : M 8 4 = M 174 5 := hT.2.2.2.2.2.1.1
    rw [a, b]
  · have a : M1 154 x = M 16 x := l2 8 (by decide) x hx
    rw [a]; exact t8 x hx
  · exact l2 9 (by decide) r hr
theorem Lr_same {M M1 : Mem} {f : Nat → Int} {n : Nat} (h : Lr M M1 f n) : Same M M1 ∧ ∀ q, 172 ≤ q → M1 q = M q := ⟨fun q k hq => by
  have : q < 145 ∨ 156 < q := by unfold scr at hq; omega
  rw [h.1 q this], fun q hq => h.1 q (by omega)⟩
theorem Lr_tf {M M1 : Mem} {f : Nat → Int} {n : Nat} (hs : sok (M 180) n) (h : Lr M M1 f n) {i : Nat} (hi : i < n) : tf M1 146 i = if M 180 i = 0 then -4 else f i := by
  have g := (hs.1 i hi).1
  have a : M1 (146 + 1) i = M 180 i := h.2.2.2.1 i hi
  unfold tf
  rw [a]
  by_cases hz : M 180 i = 0
  · rw [if_neg (by omega), if_pos hz]
  · rw [if_pos (by omega), if_neg hz]
    exact h.2.2.2.2.1 i 0 hi (by omega)
theorem Lr_g {M M1 : Mem} {f : Nat → Int} {n : Nat} (hs : sok (M 180) n) (hf : fok (M 180) f n) (h : Lr M M1 f n) {i : Nat} (hi : i < n) (hz : M 180 i ≠ 0) {x : Nat} (hx : x < 26) : lg M1 n i x = pg M f n i x := by
  have tfi := Lr_tf hs h hi
  rw [if_neg hz] at tfi
  obtain ⟨a0, a1, a2, a3, a4, a5, a6, a7, a8⟩ := h
  have e : lkx (M1 145) (M1 154) i x = nk (M 180) (fset f i (x : Int)) i := by
    rw [nk_lkx hs hf hi hz hx]
    unfold lkx
    rw [a2 i hi, a7 x hx]
  unfold lg lgain pg
  rw [e, tfi, a5 i hi, a6.1, a6.2.1, lsum_congr (K := nk (M 180) f) (W := M 175) n (fun j hj => ⟨a2 j hj, a5 j hj⟩), lsum_skip (K := nk (M 180) f) (K' := nk (M 180) (fset f i (x : Int))) n (fun j _ hji => nk_ne hji)]
theorem Lr_best {M M1 : Mem} {f : Nat → Int} {n : Nat} (hT : Tn M 8 0 n) (hf : fok (M 180) f n) (h : Lr M M1 f n) {i : Nat} (hi : i < n) (hz : M 180 i ≠ 0) : lbest (lg M1 n i) (lord M1) 25 = lbest (pg M f n i) (pord M) 25 :=
  lbest_congr (fun x hx => Lr_g (Tn_sok hT) hf h hi hz hx) (fun r hr => by
    have e : lord M1 r = pord M r := by unfold lord pord; rw [h.2.2.2.2.2.2.2.2 r hr]
    exact ⟨e, by rw [e]; exact (Tn_ord hT hr).2.1⟩) 25 (by decide)
theorem pbest_in {M : Mem} {n : Nat} (hT : Tn M 8 0 n) (f : Nat → Int) (i : Nat) : (lbest (pg M f n i) (pord M) 25).1 < 26 := lbest_in (fun r hr => (Tn_ord hT hr).2.1) 25 (by decide)
/-- a round: first letters behind m of them; whether one is new -/
def rF (M : Mem) (n : Nat) (f : Nat → Int) : Nat → (Nat → Int)
  | 0 => f
  | m + 1 => if M 180 m = 0 then rF M n f m else fset (rF M n f m) m ((lbest (pg M (rF M n f m) n m) (pord M) 25).1 : Int)
def rB (M : Mem) (n : Nat) (f : Nat → Int) : Nat → Bool
  | 0 => false
  | m + 1 => if M 180 m = 0 then rB M n f m else (rB M n f m || decide (((lbest (pg M (rF M n f m) n m) (pord M) 25).1 : Int) ≠ rF M n f m m))
theorem rF_ok {M : Mem} {n : Nat} (hT : Tn M 8 0 n) {f : Nat → Int} (hf : fok (M 180) f n) : ∀ m, fok (M 180) (rF M n f m) n := by
  intro m
  induction m with
  | zero => exact hf
  | succ m ih =>
    rw [rF]
    split
    · exact ih
    · have := pbest_in hT (rF M n f m) m
      exact fok_set ih (by omega)
def bI (b : Bool) : Int := if b = true then 1 else 0
theorem bI_01 (b : Bool) : bI b = 0 ∨ bI b = 1 := by cases b <;> simp [bI]
section Change
variable {S : Shp} {M : Mem} {Q : Res → Prop}
theorem Lr_best_call (hS : KC S) {n : Nat} (hT : Tn M 8 0 n) {f : Nat → Int} (hf : fok (M 180) f n) {M1 : Mem} (h : Lr M M1 f n) {i : Nat} (hi : i < n) (hz : M 180 i ≠ 0) (hQ : Q (S, M1, some (.inl ((lbest (pg M f n i) (pord M) 25).1 : Int)))) : Ca 23 [.inr (.inr 145), .inl (i : Int)] S M1 Q := by
  have hs := Tn_sok hT
  obtain ⟨a0, a1, a2, a3, a4, a5, a6, a7, a8⟩ := id h
  refine sp_bestFirst hS a1 hi (by rw [a2 i hi]; exact nk_in hs hf hi) (fun x hx => by rw [a7 x hx]; exact hs.2.1 x hx) (fun r hr => by rw [a8 r hr]; exact (Tn_ord hT hr).1) ?_
  rw [Lr_best hT hf h hi hz]
  exact hQ
theorem Lr_gain_call (hS : KC S) {n : Nat} (hT : Tn M 8 0 n) {f : Nat → Int} (hf : fok (M 180) f n) {M1 : Mem} (h : Lr M M1 f n) {i x : Nat} (hi : i < n) (hz : M 180 i ≠ 0) (hx : x < 26) (hQ : Q (S, M1, some (.inl (pg M f n i x)))) : Ca 22 [.inr (.inr 145), .inl (i : Int), .inl (x : Int)] S M1 Q := by
  have hs := Tn_sok hT
  obtain ⟨a0, a1, a2, a3, a4, a5, a6, a7, a8⟩ := id h
  refine sp_gainBy hS a1 hi hx (by rw [a2 i hi]; exact nk_in hs hf hi) (by rw [a7 x hx]; exact hs.2.1 x hx) ?_
  have := Lr_g hs hf h hi hz hx
  unfold lg at this
  rw [this]
  exact hQ
theorem Lr_set {n : Nat} (hT : Tn M 8 0 n) {f : Nat → Int} (hf : fok (M 180) f n) {M1 : Mem} (h : Lr M M1 f n) {i x : Nat} (hi : i < n) (hz : M 180 i ≠ 0) (hx : x < 26) : Lr M (up2 (up2 M1 148 (6 * i) (x : Int)) 145 i (lkx (M1 145) (M1 154) i x)) (fset f i (x : Int)) n := by
  have hs := Tn_sok hT
  obtain ⟨a0, a1, a2, a3, a4, a5, a6, a7, a8⟩ := id h
  have R : ∀ q, q ≠ 145 → q ≠ 148 → up2 (up2 M1 148 (6 * i) (x : Int)) 145 i (lkx (M1 145) (M1 154) i x) q = M1 q := fun q q1 q2 => by rw [up2_row _ _ _ _ q1, up2_row _ _ _ _ q2]
  have e : lkx (M1 145) (M1 154) i x = nk (M 180) (fset f i (x : Int)) i := by
    rw [nk_lkx hs hf hi hz hx]
    unfold lkx
    rw [a2 i hi, a7 x hx]
  refine ⟨fun q hq => by rw [R q (by omega) (by omega)]; exact a0 q hq, ?_, fun j hj => ?_, fun j hj => by rw [R 147 (by decide) (by decide)]; exact a3 j hj, fun j k hj hk => ?_, fun j hj => by rw [R 149 (by decide) (by decide)]; exact a5 j hj, by rw [R 146 (by decide) (by decide)]; exact a6, fun y hy => by rw [R 154 (by decide) (by decide)]; exact a7 y hy, fun r hr => by rw [R 155 (by decide) (by decide)]; exact a8 r hr⟩
  · unfold LnS
    rw [R 146 (by decide) (by decide), R 149 (by decide) (by decide)]
    exact a1
  · rw [up2_any]
    by_cases hji : j = i
    · rw [if_pos ⟨rfl, hji⟩, hji]; exact e
    · rw [if_neg (by omega), up2_row _ _ _ _ (by decide), nk_ne hji]; exact a2 j hj
  · rw [up2_row _ _ _ _ (by decide), up2_any]
    have g := (hs.1 j hj).1
    by_cases hji : j = i
    · subst hji
      rw [fset_at]
      by_cases hk0 : k = 0
      · subst hk0; rw [if_pos ⟨rfl, rfl⟩]; rfl
      · rw [if_neg (by omega), a4 j k hj hk]
        unfold fl
        rw [if_neg hk0, if_neg hk0]
    · rw [if_neg (by omega), fset_ne f _ hji]; exact a4 j k hj hk
theorem aC_loop (hS : KC S) {n : Nat} (hT : Tn M 8 0 n) {f : Nat → Int} (hf : fok (M 180) f n) (h : ∀ M', Lr M M' (rF M n f n) n → Q (S, M', some (.inl (bI (rB M n f n))))) : ∀ (d m : Nat) (M1 : Mem), m + d = n → Lr M M1 (rF M n f m) n → En 24 4 [some (.inr (.inr 145)), some (.inl (bI (rB M n f m))), some (.inl (m : Int)), none] [] S M1 Q := by
  have hn8 := hT.1.1
  have hs := Tn_sok hT
  intro d
  induction d with
  | zero =>
    intro m M1 hm hl
    have e : m = n := by omega
    subst e
    apply r_X2_allChange_4 hS
    rw [hl.2.1.1]
    exact ⟨fun _ => ⟨bI_01 _, h M1 hl⟩, fun z => by omega⟩
  | succ d ih =>
    intro m M1 hm hl
    have ek : ((m : Int) + 1) = ((m + 1 : Nat) : Int) := by omega
    have fk := rF_ok hT hf m
    apply r_X2_allChange_4 hS
    rw [hl.2.1.1, ek, Int.toNat_natCast]
    refine ⟨fun z => by omega, fun _ => sp_isNameless (t := 146) hS (by decide) (by omega) ⟨_, _, rfl, ?_⟩⟩
    have e147 : M1 (146 + 1) m = M 180 m := hl.2.2.2.1 m (by omega)
    rw [e147]
    by_cases hz : M 180 m = 0
    · rw [if_pos hz]
      refine ⟨fun _ => ⟨by unfold inR; omega, ?_⟩, fun z => absurd z (by decide)⟩
      have := ih (m + 1) M1 (by omega) (by rw [rF, if_pos hz]; exact hl)
      rw [rB, if_pos hz] at this
      exact this
    · rw [if_neg hz]
      refine ⟨fun z => absurd rfl z, fun _ => Lr_best_call hS hT fk hl (by omega) hz ⟨_, _, rfl, ?_⟩⟩
      obtain ⟨x, hx⟩ : ∃ x, x = (lbest (pg M (rF M n f m) n m) (pord M) 25).1 := ⟨_, rfl⟩
      have hx26 : x < 26 := by rw [hx]; exact pbest_in hT _ _
      have r1 : rF M n f (m + 1) = fset (rF M n f m) m (x : Int) := by rw [rF, if_neg hz, hx]
      have r2 : rB M n f (m + 1) = (rB M n f m || decide ((x : Int) ≠ rF M n f m m)) := by rw [rB, if_neg hz, hx]
      rw [← hx]
      have st : ∀ c : Int, c = bI (rB M n f (m + 1)) → Ca 77 [.inr (.inr 147), .inl (m : Int), .inl (x : Int)] S M1 (fun r => ∃ M6 : Mem, r = (S, M6, none) ∧ Ca 21 [.inr (.inr 145), .inl (m : Int), .inl (x : Int)] S M6 (fun r => ∃ (M7 : Mem) (v8 : Int), r = (S, M7, some (.inl v8)) ∧ (0 ≤ (m : Int) ∧ (m : Int) < 8) ∧ (inR ((m + 1 : Nat) : Int)) ∧ En 24 4 [some (.inr (.inr 145)), some (.inl c), some (.inl ((m + 1 : Nat) : Int)), none] [] S (up2 M7 145 m v8) Q)) := fun c hc => by
        refine sp_setFirst (t := 146) hS (by decide) (by omega) ⟨_, rfl, ?_⟩
        rw [e147, if_neg hz]
        show Ca 21 _ S (up2 M1 148 (6 * m) (x : Int)) _
        have b1 : up2 M1 148 (6 * m) (x : Int) 145 = M1 145 := up2_row _ _ _ _ (by decide)
        have b2 : up2 M1 148 (6 * m) (x : Int) 154 = M1 154 := up2_row _ _ _ _ (by decide)
        refine sp_keyWithFirst hS (by omega) hx26 (by rw [b1, hl.2.2.1 m (by omega)]; exact nk_in hs fk (by omega)) (by rw [b2, hl.2.2.2.2.2.2.2.1 x hx26]; exact hs.2.1 x hx26) ⟨_, _, rfl, by omega, by unfold inR; omega, ?_⟩
        rw [b1, b2, hc]
        exact ih (m + 1) _ (by omega) (by rw [r1]; exact Lr_set hT fk hl (by omega) hz hx26)
      refine ⟨fun z => ?_, fun z => sp_first (t := 146) hS (by decide) (by omega) ⟨_, _, rfl, fun w => ?_, fun w => ?_⟩⟩
      · have hb : rB M n f m = true := by cases hb : rB M n f m <;> simp_all [bI]
        exact st 1 (by rw [r2, hb]; rfl)
      · rw [Lr_tf hs hl (by omega), if_neg hz] at w
        have hb : rB M n f m = false := by cases hb : rB M n f m <;> simp_all [bI]
        exact st 0 (by rw [r2, hb]; simp [bI, w])
      · rw [Lr_tf hs hl (by omega), if_neg hz] at w
        have hb : rB M n f m = false := by cases hb : rB M n f m <;> simp_all [bI]
        exact st 1 (by rw [r2, hb]; simp [bI, w])
theorem sp_allChange (hS : KC S) {n : Nat} (hT : Tn M 8 0 n) {f : Nat → Int} (hf : fok (M 180) f n) {M1 : Mem} (hl : Lr M M1 f n) (h : ∀ M', Lr M M' (rF M n f n) n → Q (S, M', some (.inl (bI (rB M n f n))))) : Ca 24 [.inr (.inr 145)] S M1 Q := by
  apply r_X2_allChange_0 hS
  exact aC_loop hS hT hf h n 0 M1 (by omega) hl
theorem iR_loop (hM : KM S) {n : Nat} (hT : Tn M 8 0 n) {f : Nat → Int} (hf : fok (M 180) f n) (h : ∀ M', Tr M M' (rF M n f n) → Q (S, M', some (.inl (bI (rB M n f n))))) : ∀ (d m : Nat) (M1 : Mem), m + d = n → Tr M M1 (rF M n f m) → En 191 4 [some (.inr (.inr 173)), some (.inl (bI (rB M n f m))), some (.inl (m : Int)), none] [] S M1 Q := by
  have hn8 := hT.1.1
  intro d
  induction d with
  | zero =>
    intro m M1 hm ht
    have e : m = n := by omega
    subst e
    apply r_X9_isRound_4 hM
    have e0 : M1 174 (0 : Int).toNat = m := (Tr_bnd hT ht).1
    rw [e0]
    exact ⟨by decide, fun _ => ⟨bI_01 _, h M1 ht⟩, fun z => by omega⟩
  | succ d ih =>
    intro m M1 hm ht
    have ek : ((m : Int) + 1) = ((m + 1 : Nat) : Int) := by omega
    have e1 : ((1878 : Int) + (6 : Int) * m).toNat = 1878 + 6 * m := by omega
    have fk := rF_ok hT hf m
    apply r_X9_isRound_4 hM
    have e0 : M1 174 (0 : Int).toNat = n := (Tr_bnd hT ht).1
    rw [e0, ek, e1]
    refine ⟨by decide, fun z => by omega, fun _ => sq_first (s := 11) hM (by decide) (by omega) ⟨_, _, rfl, ?_⟩⟩
    rw [Tr_mf ht (by omega)]
    by_cases hz : M 180 m = 0
    · rw [if_pos hz]
      refine ⟨fun _ => ⟨by unfold inR; omega, ?_⟩, fun z => absurd z (by decide)⟩
      have := ih (m + 1) M1 (by omega) (by rw [rF, if_pos hz]; exact ht)
      rw [rB, if_pos hz] at this
      exact this
    · rw [if_neg hz]
      have fm := fk m (by omega) hz
      refine ⟨fun z => by omega, fun _ => sq_bestFirst hM hT fk (by omega) hz ht (fun M5 t5 _ => ⟨_, _, rfl, ?_⟩)⟩
      obtain ⟨x, hx⟩ : ∃ x, x = (lbest (pg M (rF M n f m) n m) (pord M) 25).1 := ⟨_, rfl⟩
      have hx26 : x < 26 := by rw [hx]; exact pbest_in hT _ _
      have r1 : rF M n f (m + 1) = fset (rF M n f m) m (x : Int) := by rw [rF, if_neg hz, hx]
      have r2 : rB M n f (m + 1) = (rB M n f m || decide ((x : Int) ≠ rF M n f m m)) := by rw [rB, if_neg hz, hx]
      rw [← hx]
      have st : ∀ c : Int, c = bI (rB M n f (m + 1)) → En 191 4 [some (.inr (.inr 173)), some (.inl c), some (.inl ((m + 1 : Nat) : Int)), none] [] S (up2 M5 180 (1878 + 6 * m) (x : Int)) Q := fun c hc => by
        rw [hc]
        exact ih (m + 1) _ (by omega) (by rw [r1]; exact Tr_up t5 (by omega) _)
      refine ⟨fun z => ⟨by unfold inR; omega, by unfold inR; omega, by omega, by unfold inR; omega, ?_⟩, fun z => sq_first (s := 11) hM (by decide) (by omega) ⟨_, _, rfl, fun w => ⟨by unfold inR; omega, by unfold inR; omega, by omega, by unfold inR; omega, ?_⟩, fun w => ⟨by unfold inR; omega, by unfold inR; omega, by omega, by unfold inR; omega, ?_⟩⟩⟩
      · have hb : rB M n f m = true := by cases hb : rB M n f m <;> simp_all [bI]
        exact st 1 (by rw [r2, hb]; rfl)
      · rw [Tr_mf t5 (by omega), if_neg hz] at w
        have hb : rB M n f m = false := by cases hb : rB M n f m <;> simp_all [bI]
        exact st 0 (by rw [r2, hb]; simp [bI, w])
      · rw [Tr_mf t5 (by omega), if_neg hz] at w
        have hb : rB M n f m = false := by cases hb : rB M n f m <;> simp_all [bI]
        exact st 1 (by rw [r2, hb]; simp [bI, w])
theorem sq_isRound (hM : KM S) {n : Nat} (hT : Tn M 8 0 n) {f : Nat → Int} (hf : fok (M 180) f n) {M1 : Mem} (ht : Tr M M1 f) (h : ∀ M', Tr M M' (rF M n f n) → Q (S, M', some (.inl (bI (rB M n f n))))) : Ca 191 [.inr (.inr 173)] S M1 Q := by
  apply r_X9_isRound_0 hM
  exact iR_loop hM hT hf h n 0 M1 (by omega) ht
/-- what run answers of rounds, of a person -/
def rvN (M : Mem) (n : Nat) : Nat → Nat → (Nat → Int) → Int
  | 0, r, f => if rB M n f n = true then -4 else (r : Int)
  | d + 1, r, f => if rB M n f n = true then rvN M n d (r + 1) (rF M n f n) else (r : Int)
def rvI (M : Mem) (n i : Nat) : Nat → (Nat → Int) → Int
  | 0, f => f i
  | d + 1, f => if rB M n f n = true then rvI M n i d (rF M n f n) else rF M n f n i
theorem bI_z {b : Bool} : (bI b = 0 → b = false) ∧ (bI b ≠ 0 → b = true) := by cases b <;> simp [bI]
theorem runN_C (hS : KC S) {n : Nat} (hT : Tn M 8 0 n) : ∀ (d r : Nat) (f : Nat → Int) (M1 : Mem), r + d = 20 → fok (M 180) f n → Lr M M1 f n → (∀ M' f', Lr M M' f' n → Q (S, M', some (.inl (rvN M n d r f)))) → En 114 24 [some (.inr (.inr 5)), some (.inl (-1 : Int)), some (.inl (r : Int))] [] S M1 Q := by
  intro d
  induction d with
  | zero =>
    intro r f M1 hr hf hl h
    apply r_X8_run_24 hS
    refine ⟨fun _ => ⟨fun _ => ⟨fun z => by omega, fun _ => sp_allChange hS hT hf hl (fun M2 l2 => ⟨_, _, rfl, fun z => ?_, fun z => ?_⟩)⟩, fun z => absurd rfl z⟩, fun z => by omega⟩
    · have := h M2 _ l2; rw [rvN, if_neg (by rw [bI_z.1 z]; decide)] at this; exact this
    · have := h M2 _ l2; rw [rvN, if_pos (bI_z.2 z)] at this; exact this
  | succ d ih =>
    intro r f M1 hr hf hl h
    apply r_X8_run_24 hS
    rw [show ((r : Int) + 1) = ((r + 1 : Nat) : Int) by omega]
    refine ⟨fun z => by omega, fun _ => sp_allChange hS hT hf hl (fun M2 l2 => ⟨_, _, rfl, fun z => ⟨fun _ => ⟨fun _ => ?_, fun z => by omega⟩, fun z => absurd rfl z⟩, fun z => ⟨by unfold inR; omega, ?_⟩⟩)⟩
    · have := h M2 _ l2; rw [rvN, if_neg (by rw [bI_z.1 z]; decide)] at this; exact this
    · refine ih (r + 1) _ M2 (by omega) (rF_ok hT hf n) l2 (fun M' f' l' => ?_)
      have := h M' f' l'; rw [rvN, if_pos (bI_z.2 z)] at this; exact this
theorem runI_C (hS : KC S) {n i : Nat} (hT : Tn M 8 0 n) (hi : i < n) (hz : M 180 i ≠ 0) : ∀ (d r : Nat) (f : Nat → Int) (M1 : Mem), r + d = 20 → fok (M 180) f n → Lr M M1 f n → (∀ M' f', Lr M M' f' n → Q (S, M', some (.inl (rvI M n i d f)))) → En 114 24 [some (.inr (.inr 5)), some (.inl (i : Int)), some (.inl (r : Int))] [] S M1 Q := by
  have hn8 := hT.1.1
  have hs := Tn_sok hT
  intro d
  induction d with
  | zero =>
    intro r f M1 hr hf hl h
    apply r_X8_run_24 hS
    refine ⟨fun _ => ⟨fun z => by omega, fun _ => sp_first (t := 146) hS (by decide) (by omega) ⟨_, _, rfl, ?_⟩⟩, fun z => by omega⟩
    rw [Lr_tf hs hl hi, if_neg hz]
    exact h M1 _ hl
  | succ d ih =>
    intro r f M1 hr hf hl h
    apply r_X8_run_24 hS
    rw [show ((r : Int) + 1) = ((r + 1 : Nat) : Int) by omega]
    refine ⟨fun z => by omega, fun _ => sp_allChange hS hT hf hl (fun M2 l2 => ⟨_, _, rfl, fun z => ⟨fun z => by omega, fun _ => sp_first (t := 146) hS (by decide) (by omega) ⟨_, _, rfl, ?_⟩⟩, fun z => ⟨by unfold inR; omega, ?_⟩⟩)⟩
    · rw [Lr_tf hs l2 hi, if_neg hz]
      have := h M2 _ l2; rw [rvI, if_neg (by rw [bI_z.1 z]; decide)] at this; exact this
    · refine ih (r + 1) _ M2 (by omega) (rF_ok hT hf n) l2 (fun M' f' l' => ?_)
      have := h M' f' l'; rw [rvI, if_pos (bI_z.2 z)] at this; exact this
theorem runN_M (hM : KM S) {n : Nat} (hT : Tn M 8 0 n) : ∀ (d r : Nat) (f : Nat → Int) (M1 : Mem), r + d = 20 → fok (M 180) f n → Tr M M1 f → (∀ M' f', Tr M M' f' → Q (S, M', some (.inl (rvN M n d r f)))) → En 192 20 [some (.inr (.inr 173)), some (.inl (-1 : Int)), some (.inl (r : Int))] [] S M1 Q := by
  intro d
  induction d with
  | zero =>
    intro r f M1 hr hf hl h
    have e : r = 20 := by omega
    subst e
    apply r_X9_run_20 hM
    refine ⟨fun _ => ⟨fun _ => sq_isRound hM hT hf hl (fun M2 l2 => ⟨_, _, rfl, fun z => ?_, fun z => ?_⟩), fun z => by omega⟩, fun z => by omega⟩
    · have := h M2 _ l2; rw [rvN, if_neg (by rw [bI_z.1 z]; decide)] at this; exact this
    · have := h M2 _ l2; rw [rvN, if_pos (bI_z.2 z)] at this; exact this
  | succ d ih =>
    intro r f M1 hr hf hl h
    apply r_X9_run_20 hM
    rw [show ((r : Int) + 1) = ((r + 1 : Nat) : Int) by omega]
    refine ⟨fun z => by omega, fun _ => sq_isRound hM hT hf hl (fun M2 l2 => ⟨_, _, rfl, fun z => ⟨by unfold inR; omega, ?_⟩, fun z => ⟨fun z => by omega, fun _ => ?_⟩⟩)⟩
    · refine ih (r + 1) _ M2 (by omega) (rF_ok hT hf n) l2 (fun M' f' l' => ?_)
      have := h M' f' l'; rw [rvN, if_pos (bI_z.2 z)] at this; exact this
    · have := h M2 _ l2; rw [rvN, if_neg (by rw [bI_z.1 z]; decide)] at this; exact this
theorem runI_M (hM : KM S) {n i : Nat} (hT : Tn M 8 0 n) (hi : i < n) (hz : M 180 i ≠ 0) : ∀ (d r : Nat) (f : Nat → Int) (M1 : Mem), r + d = 20 → fok (M 180) f n → Tr M M1 f → (∀ M' f', Tr M M' f' → Q (S, M', some (.inl (rvI M n i d f)))) → En 192 20 [some (.inr (.inr 173)), some (.inl (i : Int)), some (.inl (r : Int))] [] S M1 Q := by
  have hn8 := hT.1.1
  intro d
  induction d with
  | zero =>
    intro r f M1 hr hf hl h
    apply r_X9_run_20 hM
    refine ⟨fun _ => ⟨fun z => by omega, fun _ => sq_first (s := 11) hM (by decide) (by omega) ⟨_, _, rfl, ?_⟩⟩, fun z => by omega⟩
    rw [Tr_mf hl (by omega), if_neg hz]
    exact h M1 _ hl
  | succ d ih =>
    intro r f M1 hr hf hl h
    apply r_X9_run_20 hM
    rw [show ((r : Int) + 1) = ((r + 1 : Nat) : Int) by omega]
    refine ⟨fun z => by omega, fun _ => sq_isRound hM hT hf hl (fun M2 l2 => ⟨_, _, rfl, fun z => ⟨by unfold inR; omega, ?_⟩, fun z => ⟨fun _ => sq_first (s := 11) hM (by decide) (by omega) ⟨_, _, rfl, ?_⟩, fun z => by omega⟩⟩)⟩
    · refine ih (r + 1) _ M2 (by omega) (rF_ok hT hf n) l2 (fun M' f' l' => ?_)
      have := h M' f' l'; rw [rvI, if_pos (bI_z.2 z)] at this; exact this
    · rw [Tr_mf l2 (by omega), if_neg hz]
      have := h M2 _ l2; rw [rvI, if_neg (by rw [bI_z.1 z]; decide)] at this; exact this
/-- nameless ones stay so -/
theorem runZ_M (hM : KM S) {n i : Nat} (hT : Tn M 8 0 n) (hi : i < n) (hz : M 180 i = 0) : ∀ (d r : Nat) (f : Nat → Int) (M1 : Mem), r + d = 20 → fok (M 180) f n → Tr M M1 f → (∀ M' f', Tr M M' f' → Q (S, M', some (.inl (-4 : Int)))) → En 192 20 [some (.inr (.inr 173)), some (.inl (i : Int)), some (.inl (r : Int))] [] S M1 Q := by
  have hn8 := hT.1.1
  intro d
  induction d with
  | zero =>
    intro r f M1 hr hf hl h
    apply r_X9_run_20 hM
    refine ⟨fun _ => ⟨fun z => by omega, fun _ => sq_first (s := 11) hM (by decide) (by omega) ⟨_, _, rfl, ?_⟩⟩, fun z => by omega⟩
    rw [Tr_mf hl (by omega), if_pos hz]
    exact h M1 _ hl
  | succ d ih =>
    intro r f M1 hr hf hl h
    apply r_X9_run_20 hM
    rw [show ((r : Int) + 1) = ((r + 1 : Nat) : Int) by omega]
    refine ⟨fun z => by omega, fun _ => sq_isRound hM hT hf hl (fun M2 l2 => ⟨_, _, rfl, fun z => ⟨by unfold inR; omega, ?_⟩, fun z => ⟨fun _ => sq_first (s := 11) hM (by decide) (by omega) ⟨_, _, rfl, ?_⟩, fun z => by omega⟩⟩)⟩
    · exact ih (r + 1) _ M2 (by omega) (rF_ok hT hf n) l2 h
    · rw [Tr_mf l2 (by omega), if_pos hz]
      exact h M2 _ l2
theorem pg_row {M1 : Mem} (k1 : ∀ q, 172 ≤ q → M1 q = M q) (f : Nat → Int) (n i : Nat) : pg M1 f n i = pg M f n i := by
  funext x
  unfold pg
  rw [k1 180 (by decide), k1 175 (by decide), k1 174 (by decide)]
theorem pord_row {M1 : Mem} (s1 : Same M M1) : pord M1 = pord M := by
  funext r
  unfold pord
  rw [s1 17 r (by unfold scr; omega)]
theorem f0_row {M1 : Mem} (k1 : ∀ q, 172 ≤ q → M1 q = M q) : f0 M1 = f0 M := by
  unfold f0
  rw [k1 180 (by decide)]
theorem rF_row {M1 : Mem} (s1 : Same M M1) (k1 : ∀ q, 172 ≤ q → M1 q = M q) (n : Nat) (f : Nat → Int) : ∀ m, rF M1 n f m = rF M n f m ∧ rB M1 n f m = rB M n f m := by
  intro m
  induction m with
  | zero => exact ⟨rfl, rfl⟩
  | succ m ih => rw [rF, rF, rB, rB, ih.1, ih.2, pg_row k1, pord_row s1, k1 180 (by decide)]; exact ⟨rfl, rfl⟩
theorem rvN_row {M1 : Mem} (s1 : Same M M1) (k1 : ∀ q, 172 ≤ q → M1 q = M q) (n : Nat) : ∀ (d r : Nat) (f : Nat → Int), rvN M1 n d r f = rvN M n d r f := by
  intro d
  induction d with
  | zero => intro r f; rw [rvN, rvN, (rF_row s1 k1 n f n).2]
  | succ d ih => intro r f; rw [rvN, rvN, (rF_row s1 k1 n f n).2, (rF_row s1 k1 n f n).1, ih]
theorem rvI_row {M1 : Mem} (s1 : Same M M1) (k1 : ∀ q, 172 ≤ q → M1 q = M q) (n i : Nat) : ∀ (d : Nat) (f : Nat → Int), rvI M1 n i d f = rvI M n i d f := by
  intro d
  induction d with
  | zero => intro f; rfl
  | succ d ih => intro f; rw [rvI, rvI, (rF_row s1 k1 n f n).2, (rF_row s1 k1 n f n).1, ih]
end Change
