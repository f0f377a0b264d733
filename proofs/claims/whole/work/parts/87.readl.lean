/-! the class reads all items -/
section Read3
variable {S : Shp} {M : Mem} {Q : Res → Prop} {T : Nat → Int} {L p t : Nat} {σ : Nat → Int}
theorem sp_readGoods (hS : KC S) (ht : t ∈ bx_tw) (hp : Pg M T L p) (hpb : p ≤ 201) (hc : CR M t σ) (h1 : num T L p ∧ nV T L p ≤ 99 ∧ sg T L (p + nF T L p) = 59 → ∀ M', Pg M' T L (p + nF T L p + 1) → CR M' t (up1 σ 1 (nV T L p)) → Cd M M' t → Q (S, M', some (.inl 1))) (h0 : ¬ (num T L p ∧ nV T L p ≤ 99 ∧ sg T L (p + nF T L p) = 59) → ∀ M', Cd M M' t → Q (S, M', some (.inl 0))) : Ca 41 [.inr (.inr 6), .inr (.inr (t + 1))] S M Q := r_X5_readGoods_0 hS ht (rd_num hS ht hp hpb hc (by omega) (by omega) h1 h0)
theorem sp_readReach (hS : KC S) (ht : t ∈ bx_tw) (hp : Pg M T L p) (hpb : p ≤ 201) (hc : CR M t σ) (h1 : num T L p ∧ nV T L p ≤ 25 ∧ sg T L (p + nF T L p) = 59 → ∀ M', Pg M' T L (p + nF T L p + 1) → CR M' t (up1 σ 2 (nV T L p)) → Cd M M' t → Q (S, M', some (.inl 1))) (h0 : ¬ (num T L p ∧ nV T L p ≤ 25 ∧ sg T L (p + nF T L p) = 59) → ∀ M', Cd M M' t → Q (S, M', some (.inl 0))) : Ca 42 [.inr (.inr 6), .inr (.inr (t + 1))] S M Q := r_X5_readReach_0 hS ht (rd_num hS ht hp hpb hc (by omega) (by omega) h1 h0)
theorem sp_readCost (hS : KC S) (ht : t ∈ bx_tw) (hp : Pg M T L p) (hpb : p ≤ 201) (hc : CR M t σ) (h1 : num T L p ∧ nV T L p ≤ 9 ∧ sg T L (p + nF T L p) = 59 → ∀ M', Pg M' T L (p + nF T L p + 1) → CR M' t (up1 σ 3 (nV T L p)) → Cd M M' t → Q (S, M', some (.inl 1))) (h0 : ¬ (num T L p ∧ nV T L p ≤ 9 ∧ sg T L (p + nF T L p) = 59) → ∀ M', Cd M M' t → Q (S, M', some (.inl 0))) : Ca 43 [.inr (.inr 6), .inr (.inr (t + 1))] S M Q := r_X5_readCost_0 hS ht (rd_num hS ht hp hpb hc (by omega) (by omega) h1 h0)
theorem sp_readItem (hS : KC S) (ht : t ∈ bx_tw) {a : Nat} (hp : Pg M T L a) (ha : a < L) (hc : CR M t σ) (hs : SO σ) (h1 : ∀ a' σ' M', pI T L a σ = some (a', σ') → Pg M' T L a' → CR M' t σ' → Cd M M' t → Q (S, M', some (.inl 1))) (h0 : pI T L a σ = none → ∀ M', Cd M M' t → Q (S, M', some (.inl 0))) : Ca 39 [.inr (.inr 6), .inr (.inr (t + 1))] S M Q := by
  have h8 := tw_8 t ht
  have hL := hp.2.1
  have es : sg T L a = T a := if_pos ha
  apply r_X5_readItem_0 hS ht
  refine sp_sign hS hp ⟨_, _, rfl, ?_⟩
  have p1 : Pg (up2 M 5 3 (M 5 3 + 1)) T L (a + 1) := Pg_Pn hp (Pn_up _ _) (by rw [up2_get, hp.2.2.1]; omega)
  have c1 : CR (up2 M 5 3 (M 5 3 + 1)) t σ := CR_Pn h8 hc (Pn_up _ _)
  have d1 : Cd M (up2 M 5 3 (M 5 3 + 1)) t := Cd_Pn (Pn_up _ _)
  have i3 : inR (M 5 3 + 1) := by rw [hp.2.2.1]; unfold inR; omega
  obtain ⟨M1, hM1⟩ : ∃ z, z = up2 M 5 3 (M 5 3 + 1) := ⟨_, rfl⟩
  rw [← hM1] at p1 c1 d1 ⊢
  rw [es]
  have no : ∀ v : Int, T a = v → v ≠ 110 → v ≠ 103 → v ≠ 119 → v ≠ 99 → v ≠ 111 → v ≠ 118 → v ≠ 113 → Q (S, M1, some (.inl 0)) := fun v e n1 n2 n3 n4 n5 n6 n7 => h0 (by unfold pI; rw [e, if_neg n1, if_neg n2, if_neg n3, if_neg n4, if_neg n5, if_neg n6, if_neg n7]) _ d1
  refine ⟨i3, fun z => no _ rfl (by omega) (by omega) (by omega) (by omega) (by omega) (by omega) (by omega), fun z => ?_, fun z => no _ z (by decide) (by decide) (by decide) (by decide) (by decide) (by decide) (by decide), fun z => no _ z (by decide) (by decide) (by decide) (by decide) (by decide) (by decide) (by decide), fun z => no _ z (by decide) (by decide) (by decide) (by decide) (by decide) (by decide) (by decide), fun z => ?_, fun z => no _ z (by decide) (by decide) (by decide) (by decide) (by decide) (by decide) (by decide), fun z => no _ z (by decide) (by decide) (by decide) (by decide) (by decide) (by decide) (by decide), fun z => no _ z (by decide) (by decide) (by decide) (by decide) (by decide) (by decide) (by decide), fun z => no _ z (by decide) (by decide) (by decide) (by decide) (by decide) (by decide) (by decide), fun z => no _ z (by decide) (by decide) (by decide) (by decide) (by decide) (by decide) (by decide), fun z => no _ z (by decide) (by decide) (by decide) (by decide) (by decide) (by decide) (by decide), fun z => ?_, fun z => ?_, fun z => no _ z (by decide) (by decide) (by decide) (by decide) (by decide) (by decide) (by decide), fun z => ?_, fun z => no _ z (by decide) (by decide) (by decide) (by decide) (by decide) (by decide) (by decide), fun z => no _ z (by decide) (by decide) (by decide) (by decide) (by decide) (by decide) (by decide), fun z => no _ z (by decide) (by decide) (by decide) (by decide) (by decide) (by decide) (by decide), fun z => no _ z (by decide) (by decide) (by decide) (by decide) (by decide) (by decide) (by decide), fun z => ?_, fun z => ?_⟩
  · unfold pI at h0 h1; rw [z, if_neg (by decide), if_neg (by decide), if_neg (by decide), if_pos rfl] at h0 h1
    refine sp_readCost hS ht p1 (by omega) c1 (fun q M2 p2 c2 d2 => ⟨_, _, rfl, Or.inr rfl, ?_⟩) (fun q M2 d2 => ⟨_, _, rfl, Or.inl rfl, ?_⟩)
    · rw [if_pos q] at h1
      exact h1 _ _ _ rfl p2 c2 (d1.trans d2)
    · rw [if_neg q] at h0
      exact h0 rfl _ (d1.trans d2)
  · unfold pI at h0 h1; rw [z, if_neg (by decide), if_pos rfl] at h0 h1
    refine sp_readGoods hS ht p1 (by omega) c1 (fun q M2 p2 c2 d2 => ⟨_, _, rfl, Or.inr rfl, ?_⟩) (fun q M2 d2 => ⟨_, _, rfl, Or.inl rfl, ?_⟩)
    · rw [if_pos ⟨q.1, q.2.2⟩] at h1
      exact h1 _ _ _ rfl p2 c2 (d1.trans d2)
    · rw [if_neg (fun w => q ⟨w.1, (nV_in w.1.1).2, w.2⟩)] at h0
      exact h0 rfl _ (d1.trans d2)
  · unfold pI at h0 h1; rw [z, if_pos rfl] at h0 h1
    refine sp_readPerson hS ht p1 ha c1 hs (fun q M2 p2 c2 d2 => ⟨_, _, rfl, Or.inr rfl, ?_⟩) (fun q M2 d2 => ⟨_, _, rfl, Or.inl rfl, ?_⟩)
    · rw [if_pos q] at h1
      exact h1 _ _ _ rfl p2 c2 (d1.trans d2)
    · rw [if_neg q] at h0
      exact h0 rfl _ (d1.trans d2)
  · unfold pI at h0 h1; rw [z, if_neg (by decide), if_neg (by decide), if_neg (by decide), if_neg (by decide), if_pos rfl] at h0 h1
    refine sp_readOrder hS ht p1 ha c1 hs (fun q M2 p2 c2 d2 => ⟨_, _, rfl, Or.inr rfl, ?_⟩) (fun q M2 d2 => ⟨_, _, rfl, Or.inl rfl, ?_⟩)
    · rw [if_pos q] at h1
      exact h1 _ _ _ rfl p2 c2 (d1.trans d2)
    · rw [if_neg q] at h0
      exact h0 rfl _ (d1.trans d2)
  · unfold pI at h0 h1; rw [z, if_neg (by decide), if_neg (by decide), if_neg (by decide), if_neg (by decide), if_neg (by decide), if_neg (by decide), if_pos rfl] at h0 h1
    refine sp_readQuarrel hS ht p1 ha c1 hs (fun q M2 p2 c2 d2 => ⟨_, _, rfl, Or.inr rfl, ?_⟩) (fun q M2 d2 => ⟨_, _, rfl, Or.inl rfl, ?_⟩)
    · rw [if_pos q] at h1
      exact h1 _ _ _ rfl p2 c2 (d1.trans d2)
    · rw [if_neg q] at h0
      exact h0 rfl _ (d1.trans d2)
  · unfold pI at h0 h1; rw [z, if_neg (by decide), if_neg (by decide), if_neg (by decide), if_neg (by decide), if_neg (by decide), if_pos rfl] at h0 h1
    refine sp_readVowels hS ht p1 ha c1 (fun q M2 p2 c2 d2 => ⟨_, _, rfl, Or.inr rfl, ?_⟩) (fun q M2 d2 => ⟨_, _, rfl, Or.inl rfl, ?_⟩)
    · rw [if_pos q] at h1
      exact h1 _ _ _ rfl p2 c2 (d1.trans d2)
    · rw [if_neg q] at h0
      exact h0 rfl _ (d1.trans d2)
  · unfold pI at h0 h1; rw [z, if_neg (by decide), if_neg (by decide), if_pos rfl] at h0 h1
    refine sp_readReach hS ht p1 (by omega) c1 (fun q M2 p2 c2 d2 => ⟨_, _, rfl, Or.inr rfl, ?_⟩) (fun q M2 d2 => ⟨_, _, rfl, Or.inl rfl, ?_⟩)
    · rw [if_pos q] at h1
      exact h1 _ _ _ rfl p2 c2 (d1.trans d2)
    · rw [if_neg q] at h0
      exact h0 rfl _ (d1.trans d2)
/-- an empty town -/
theorem sp_clear (hS : KC S) (ht : t ∈ bx_tw) (h : ∀ M', (∀ q, ¬ (t ≤ q ∧ q ≤ t + 10) → M' q = M q) → CR (up2 M' 5 4 0) t σ0 → Q (S, M', none)) : Ca 64 [.inr (.inr (t + 1))] S M Q := by
  have h8 := tw_8 t ht
  have fin : ∀ M1 : Mem, (∀ q, ¬ (t ≤ q ∧ q ≤ t + 10) → M1 q = M q) → (M1 t 0 = 0 ∧ M1 t 1 = 20 ∧ M1 t 2 = 3 ∧ M1 t 3 = 1 ∧ M1 t 4 = 1065233) → (∀ i, i < 8 → M1 (t + 5) i = -4 ∧ M1 (t + 6) i = 0) → (∀ k, k < 64 → M1 (t + 7) k = 0) → (∀ k : Nat, k < 26 → M1 (t + 8) k = (k : Int) ∧ M1 (t + 9) k = (k : Int) ∧ M1 (t + 10) k = 0) → Q (S, M1, none) := fun M1 f0 f1 f2 f3 f4 => by
    refine h M1 f0 ?_
    have R : ∀ q, q ≠ 5 → up2 M1 5 4 0 q = M1 q := fun q hq => up2_row _ _ _ _ hq
    refine ⟨⟨?_, ?_, ?_, ?_, ?_, ?_⟩, fun i hi => ?_, fun i hi => ?_, fun k hk => ?_, fun x hx => ?_, fun r hr => ?_, fun x hx => ?_, fun x y hx hy => ?_⟩
    · rw [R _ (by omega)]; exact f1.1
    · rw [R _ (by omega)]; exact f1.2.1
    · rw [R _ (by omega)]; exact f1.2.2.1
    · rw [R _ (by omega)]; exact f1.2.2.2.1
    · rw [R _ (by omega)]; exact f1.2.2.2.2
    · rw [up2_get]; rfl
    · have : σ0 0 = 0 := rfl
      omega
    · rw [R _ (by omega), R _ (by omega)]; exact f2 i hi
    · rw [R _ (by omega)]; exact f3 k hk
    · rw [R _ (by omega), (f4 x hx).1]
      unfold σ0
      rw [if_neg (by omega), if_neg (by omega), if_neg (by omega), if_neg (by omega), if_pos (by omega)]
      omega
    · rw [R _ (by omega), R _ (by omega), (f4 r hr).2.1, Int.toNat_natCast, (f4 r hr).1]
      omega
    · rw [R _ (by omega), (f4 x hx).2.2]; decide
    · rw [R _ (by omega), (f4 x hx).2.2]
      constructor
      · intro q; exact absurd q (by simp)
      · rintro ⟨k, hk, _⟩
        have : σ0 5 = 0 := rfl
        omega
  have loop3 : ∀ (d k : Nat) (M1 : Mem), k + d = 26 → (∀ q, ¬ (t ≤ q ∧ q ≤ t + 10) → M1 q = M q) → (M1 t 0 = 0 ∧ M1 t 1 = 20 ∧ M1 t 2 = 3 ∧ M1 t 3 = 1 ∧ M1 t 4 = 1065233) → (∀ i, i < 8 → M1 (t + 5) i = -4 ∧ M1 (t + 6) i = 0) → (∀ k, k < 64 → M1 (t + 7) k = 0) → (∀ j : Nat, j < k → M1 (t + 8) j = (j : Int) ∧ M1 (t + 9) j = (j : Int) ∧ M1 (t + 10) j = 0) → En 64 46 [some (.inr (.inr (t + 1))), some (.inl (k : Int))] [] S M1 Q := by
    intro d
    induction d with
    | zero =>
      intro k M1 hk f0 f1 f2 f3 f4
      have e : k = 26 := by omega
      subst e
      apply r_X7_clear_46 hS ht
      exact ⟨fun _ => fin M1 f0 f1 f2 f3 f4, fun z => by omega⟩
    | succ d ih =>
      intro k M1 hk f0 f1 f2 f3 f4
      apply r_X7_clear_46 hS ht
      rw [show ((k : Int) + 1) = ((k + 1 : Nat) : Int) by omega, Int.toNat_natCast]
      have R : ∀ q, q ≠ t + 8 → q ≠ t + 9 → q ≠ t + 10 → (up2 (up2 (up2 M1 (t + 10) k (0 : Int)) (t + 8) k (k : Int)) (t + 9) k (k : Int)) q = M1 q := fun q a b c => by rw [up2_row _ _ _ _ b, up2_row _ _ _ _ a, up2_row _ _ _ _ c]
      refine ⟨fun z => by omega, fun _ => ⟨by omega, by omega, by omega, by unfold inR; omega, ih (k + 1) _ (by omega) (fun q hq => by rw [R q (by omega) (by omega) (by omega)]; exact f0 q hq) (by rw [R t (by omega) (by omega) (by omega)]; exact f1) (fun i hi => by rw [R _ (by omega) (by omega) (by omega), R _ (by omega) (by omega) (by omega)]; exact f2 i hi) (fun i hi => by rw [R _ (by omega) (by omega) (by omega)]; exact f3 i hi) (fun j hj => ?_)⟩⟩
      by_cases hjk : j = k
      · subst hjk
        rw [up2_row _ _ _ _ (by omega), up2_get, up2_get, up2_row _ _ _ _ (by omega), up2_row _ _ _ _ (by omega), up2_get]
        exact ⟨rfl, rfl, rfl⟩
      · rw [up2_row _ _ _ _ (by omega), up2_off _ _ _ _ hjk, up2_row _ _ _ _ (by omega), up2_off _ _ _ _ hjk, up2_row _ _ _ _ (by omega), up2_row _ _ _ _ (by omega), up2_row _ _ _ _ (by omega), up2_row _ _ _ _ (by omega), up2_off _ _ _ _ hjk]
        exact f4 j (by omega)
  have loop2 : ∀ (d k : Nat) (M1 : Mem), k + d = 64 → (∀ q, ¬ (t ≤ q ∧ q ≤ t + 10) → M1 q = M q) → (M1 t 0 = 0 ∧ M1 t 1 = 20 ∧ M1 t 2 = 3 ∧ M1 t 3 = 1 ∧ M1 t 4 = 1065233) → (∀ i, i < 8 → M1 (t + 5) i = -4 ∧ M1 (t + 6) i = 0) → (∀ j, j < k → M1 (t + 7) j = 0) → En 64 34 [some (.inr (.inr (t + 1))), some (.inl (k : Int))] [] S M1 Q := by
    intro d
    induction d with
    | zero =>
      intro k M1 hk f0 f1 f2 f3
      have e : k = 64 := by omega
      subst e
      apply r_X7_clear_34 hS ht
      exact ⟨fun _ => loop3 26 0 M1 rfl f0 f1 f2 f3 (fun j hj => by omega), fun z => by omega⟩
    | succ d ih =>
      intro k M1 hk f0 f1 f2 f3
      apply r_X7_clear_34 hS ht
      rw [show ((k : Int) + 1) = ((k + 1 : Nat) : Int) by omega, Int.toNat_natCast]
      refine ⟨fun z => by omega, fun _ => ⟨by omega, by unfold inR; omega, ih (k + 1) _ (by omega) (fun q hq => by rw [up2_row _ _ _ _ (by omega)]; exact f0 q hq) (by rw [up2_row _ _ _ _ (by omega)]; exact f1) (fun i hi => by rw [up2_row _ _ _ _ (by omega), up2_row _ _ _ _ (by omega)]; exact f2 i hi) (fun j hj => ?_)⟩⟩
      by_cases hjk : j = k
      · subst hjk; rw [up2_get]
      · rw [up2_off _ _ _ _ hjk]; exact f3 j (by omega)
  have loop1 : ∀ (d k : Nat) (M1 : Mem), k + d = 8 → (∀ q, ¬ (t ≤ q ∧ q ≤ t + 10) → M1 q = M q) → (M1 t 0 = 0 ∧ M1 t 1 = 20 ∧ M1 t 2 = 3 ∧ M1 t 3 = 1 ∧ M1 t 4 = 1065233) → (∀ i, i < k → M1 (t + 5) i = -4 ∧ M1 (t + 6) i = 0) → En 64 17 [some (.inr (.inr (t + 1))), some (.inl (k : Int))] [] S M1 Q := by
    intro d
    induction d with
    | zero =>
      intro k M1 hk f0 f1 f2
      have e : k = 8 := by omega
      subst e
      apply r_X7_clear_17 hS ht
      exact ⟨fun _ => loop2 64 0 M1 rfl f0 f1 f2 (fun j hj => by omega), fun z => by omega⟩
    | succ d ih =>
      intro k M1 hk f0 f1 f2
      apply r_X7_clear_17 hS ht
      rw [show ((k : Int) + 1) = ((k + 1 : Nat) : Int) by omega, Int.toNat_natCast]
      refine ⟨fun z => by omega, fun _ => ⟨by omega, by omega, by unfold inR; omega, ih (k + 1) _ (by omega) (fun q hq => by rw [up2_row _ _ _ _ (by omega), up2_row _ _ _ _ (by omega)]; exact f0 q hq) (by rw [up2_row _ _ _ _ (by omega), up2_row _ _ _ _ (by omega)]; exact f1) (fun j hj => ?_)⟩⟩
      by_cases hjk : j = k
      · subst hjk; rw [up2_row _ _ _ _ (by omega), up2_get, up2_get]; exact ⟨rfl, rfl⟩
      · rw [up2_row _ _ _ _ (by omega), up2_off _ _ _ _ hjk, up2_off _ _ _ _ hjk, up2_row _ _ _ _ (by omega)]; exact f2 j (by omega)
  apply r_X7_clear_0 hS ht
  refine loop1 8 0 _ rfl (fun q hq => by rw [up2_row _ _ _ _ (by omega), up2_row _ _ _ _ (by omega), up2_row _ _ _ _ (by omega), up2_row _ _ _ _ (by omega), up2_row _ _ _ _ (by omega)]) ?_ (fun j hj => by omega)
  simp [up2_any]
theorem rd_loop (hS : KC S) (ht : t ∈ bx_tw) : ∀ (f : Nat) (M : Mem) (a : Nat) (σ : Nat → Int) (x : Int), x + f = 200 → 0 ≤ x → Pg M T L a → CR M t σ → SO σ → (∀ M', Cd M M' t → ((pL T L f a σ).1 = -4 → CR M' t (pL T L f a σ).2 ∧ SO (pL T L f a σ).2) → Q (S, M', some (.inl (pL T L f a σ).1))) → En 38 10 [some (.inr (.inr 6)), some (.inr (.inr (t + 1))), some (.inl x), none] [] S M Q := by
  intro f
  induction f with
  | zero =>
    intro M a σ x hx h0 hp hc hs h
    apply r_X5_readInto_10 hS ht
    exact ⟨fun _ => h M (Cd.refl M t) (fun _ => ⟨hc, hs⟩), fun z => by omega⟩
  | succ f ih =>
    intro M a σ x hx h0 hp hc hs h
    apply r_X5_readInto_10 hS ht
    rw [hp.1, hp.2.2.1]
    rw [pL] at h
    refine ⟨fun z => by omega, fun _ => ⟨fun z => ?_, fun z => ?_⟩⟩
    · rw [if_pos (by omega)] at h
      exact h M (Cd.refl M t) (fun _ => ⟨hc, hs⟩)
    · rw [if_neg (by omega)] at h
      refine sp_readItem hS ht hp (by omega) hc hs (fun a' σ' M1 e p1 c1 d1 => ⟨_, _, rfl, fun _ => ⟨by unfold inR; omega, ?_⟩, fun y => absurd y (by decide)⟩) (fun e M1 d1 => ⟨_, _, rfl, fun y => absurd rfl y, fun _ => ?_⟩)
      · rw [e] at h
        exact ih M1 a' σ' (x + 1) (by omega) (by omega) p1 c1 (pI_so hs e).1 (fun M' d2 q => h M' (d1.trans d2) q)
      · rw [e] at h
        exact h M1 d1 (fun q => absurd q (by simp only []; omega))
/-- what the class reads into a town -/
theorem sp_readInto (hS : KC S) (ht : t ∈ bx_tw) (hp : M 5 2 = L ∧ L ≤ 200 ∧ ∀ k, k < L → M 6 k = T k ∧ 32 ≤ T k ∧ T k ≤ 126) (h : ∀ M', Cd M M' t → ((pL T L 200 0 σ0).1 = -4 → CR M' t (pL T L 200 0 σ0).2 ∧ SO (pL T L 200 0 σ0).2) → Q (S, M', some (.inl (pL T L 200 0 σ0).1))) : Ca 38 [.inr (.inr 6), .inr (.inr (t + 1))] S M Q := by
  have h8 := tw_8 t ht
  apply r_X5_readInto_0 hS ht
  refine sp_clear hS ht (fun M1 g1 g2 => ⟨_, rfl, ?_⟩)
  have d : Cd M (up2 (up2 M1 5 3 0) 5 4 0) t := ⟨fun q a b c => by rw [up2_row _ _ _ _ a, up2_row _ _ _ _ a]; exact g1 q c, fun k hk => by rw [up2_off _ _ _ _ (by omega), up2_off _ _ _ _ (by omega), g1 5 (by omega)]⟩
  refine rd_loop hS ht 200 _ 0 σ0 0 rfl (by decide) ⟨?_, hp.2.1, ?_, fun k hk => ?_⟩ (CR_rows g2 (fun j hj => ?_) ?_) SO_0 (fun M' d2 q => h M' (d.trans d2) q)
  · rw [up2_off _ _ _ _ (by decide), up2_off _ _ _ _ (by decide), g1 5 (by omega)]; exact hp.1
  · rw [up2_off _ _ _ _ (by decide), up2_get]; rfl
  · rw [up2_row _ _ _ _ (by decide), up2_row _ _ _ _ (by decide), g1 6 (by omega)]; exact hp.2.2 k hk
  · rw [up2_row _ _ _ _ (by omega), up2_row _ _ _ _ (by omega), up2_row _ _ _ _ (by omega)]
  · rw [up2_get, up2_get]
end Read3
