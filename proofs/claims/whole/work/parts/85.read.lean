/-! the class reads items into a town -/
theorem tw_8 : ∀ t, t ∈ bx_tw → 8 ≤ t := by decide
def Cd (M M' : Mem) (t : Nat) : Prop := (∀ q, q ≠ 5 → q ≠ 7 → ¬ (t ≤ q ∧ q ≤ t + 10) → M' q = M q) ∧ ∀ k, k < 3 → M' 5 k = M 5 k
theorem Cd.refl (M : Mem) (t : Nat) : Cd M M t := ⟨fun _ _ _ _ => rfl, fun _ _ => rfl⟩
theorem Cd.trans {M M1 M2 : Mem} {t : Nat} (h : Cd M M1 t) (h2 : Cd M1 M2 t) : Cd M M2 t := ⟨fun q a b c => (h2.1 q a b c).trans (h.1 q a b c), fun k hk => (h2.2 k hk).trans (h.2 k hk)⟩
theorem Cd_Pn {M M1 : Mem} {t : Nat} (h : Pn M M1) : Cd M M1 t := ⟨fun q a _ _ => h.1 q a, fun k hk => h.2 k (by omega)⟩
theorem Cd_row {M : Mem} {t q : Nat} (h : t ≤ q ∧ q ≤ t + 10) (ht : 8 ≤ t) (k : Nat) (v : Int) : Cd M (up2 M q k v) t := ⟨fun q' a b c => up2_row _ _ _ _ (by omega), fun k _ => by rw [up2_row _ _ _ _ (by omega)]⟩
/-- the town t is as told -/
def CR (M : Mem) (t : Nat) (σ : Nat → Int) : Prop :=
  (M t 0 = σ 0 ∧ M t 1 = σ 1 ∧ M t 2 = σ 2 ∧ M t 3 = σ 3 ∧ M t 4 = σ 4 ∧ M 5 4 = σ 5) ∧
  (∀ i : Nat, (i : Int) < σ 0 → M (t + 1) i = σ (10 + i) ∧ M (t + 3) i = σ (70 + i) ∧ M (t + 4) i = σ (80 + i) ∧ ∀ k : Nat, (k : Int) < σ (10 + i) → M (t + 2) (6 * i + k) = σ (20 + 6 * i + k)) ∧
  (∀ i, i < 8 → M (t + 5) i = -4 ∧ M (t + 6) i = 0) ∧ (∀ k, k < 64 → M (t + 7) k = 0) ∧
  (∀ x, x < 26 → M (t + 8) x = σ (90 + x)) ∧ (∀ r : Nat, r < 26 → 0 ≤ M (t + 9) r ∧ M (t + 9) r < 26 ∧ M (t + 8) (M (t + 9) r).toNat = (r : Int)) ∧
  (∀ x, x < 26 → 0 ≤ M (t + 10) x ∧ M (t + 10) x < 67108864) ∧
  (∀ x y : Nat, x < 26 → y < 26 → ((M (t + 10) x).toNat.testBit y = true ↔ ∃ k : Nat, (k : Int) < σ 5 ∧ ((σ (120 + 2 * k) = x ∧ σ (121 + 2 * k) = y) ∨ (σ (120 + 2 * k) = y ∧ σ (121 + 2 * k) = x))))
theorem CR_rows {M M' : Mem} {t : Nat} {σ : Nat → Int} (h : CR M t σ) (hr : ∀ j, j ≤ 10 → M' (t + j) = M (t + j)) (h4 : M' 5 4 = M 5 4) : CR M' t σ := by
  have r0 := hr 0 (by decide)
  rw [Nat.add_zero] at r0
  unfold CR
  rw [r0, hr 1 (by decide), hr 2 (by decide), hr 3 (by decide), hr 4 (by decide), hr 5 (by decide), hr 6 (by decide), hr 7 (by decide), hr 8 (by decide), hr 9 (by decide), hr 10 (by decide), h4]
  exact h
theorem CR_Pn {M M' : Mem} {t : Nat} {σ : Nat → Int} (ht : 8 ≤ t) (h : CR M t σ) (hp : Pn M M') : CR M' t σ := CR_rows h (fun j _ => hp.1 _ (by omega)) (hp.2 4 (by decide))
theorem CR_up {M : Mem} {t : Nat} {σ : Nat → Int} (ht : 8 ≤ t) (h : CR M t σ) {j : Nat} (hj : 1 ≤ j ∧ j ≤ 4) (v : Int) : CR (up2 M t j v) t (up1 σ j v) := by
  obtain ⟨⟨a0, a1, a2, a3, a4, a5⟩, b1, b2, b3, b4, b5, b6, b7⟩ := h
  have R : ∀ q, q ≠ t → up2 M t j v q = M q := fun q hq => up2_row _ _ _ _ hq
  have o : ∀ k, k ≠ j → up1 σ j v k = σ k := fun k hk => if_neg hk
  have at1 : ∀ k, up2 M t j v t k = if k = j then v else M t k := fun k => by rw [up2_any]; simp
  have at2 : ∀ k, up1 σ j v k = if k = j then v else σ k := fun k => rfl
  refine ⟨⟨?_, ?_, ?_, ?_, ?_, ?_⟩, fun i hi => ?_, fun i hi => ?_, fun k hk => ?_, fun x hx => ?_, fun r hr => ?_, fun x hx => ?_, fun x y hx hy => ?_⟩
  · rw [at1, at2, a0]
  · rw [at1, at2, a1]
  · rw [at1, at2, a2]
  · rw [at1, at2, a3]
  · rw [at1, at2, a4]
  · rw [R 5 (by omega), o 5 (by omega)]; exact a5
  · rw [o 0 (by omega)] at hi
    rw [R _ (by omega), R _ (by omega), R _ (by omega), R _ (by omega), o (10 + i) (by omega), o (70 + i) (by omega), o (80 + i) (by omega)]
    have := b1 i hi
    exact ⟨this.1, this.2.1, this.2.2.1, fun k hk => by rw [o _ (by omega)]; exact this.2.2.2 k hk⟩
  · rw [R _ (by omega), R _ (by omega)]; exact b2 i hi
  · rw [R _ (by omega)]; exact b3 k hk
  · rw [R _ (by omega), o _ (by omega)]; exact b4 x hx
  · rw [R _ (by omega), R _ (by omega)]; exact b5 r hr
  · rw [R _ (by omega)]; exact b6 x hx
  · rw [R _ (by omega), b7 x y hx hy, o 5 (by omega)]
    constructor
    · rintro ⟨k, hk, q⟩; exact ⟨k, hk, by rw [o _ (by omega), o _ (by omega)]; exact q⟩
    · rintro ⟨k, hk, q⟩; rw [o _ (by omega), o _ (by omega)] at q; exact ⟨k, hk, q⟩
theorem num_stop {T : Nat → Int} {L p : Nat} (h : ¬ nF T L p ≤ 2) : 48 ≤ sg T L (p + m2 (nF T L p)) ∧ sg T L (p + m2 (nF T L p)) ≤ 57 := by
  have e : m2 (nF T L p) = 2 := by unfold m2; rw [if_neg (by omega)]
  have f := nF_fig (T := T) (L := L) (a := p) (k := 2) (by omega)
  have l := nF_le (T := T) (L := L) (a := p)
  rw [e]
  unfold sg
  rw [if_pos (by omega)]
  exact f
theorem num_go {T : Nat → Int} {L p : Nat} (h : nF T L p ≤ 2) : m2 (nF T L p) = nF T L p := by
  unfold m2
  split
  · rfl
  · omega
theorem name_stop {T : Nat → Int} {L p : Nat} (h : ¬ nL T L p ≤ 6) : 97 ≤ sg T L (p + m6 (nL T L p)) ∧ sg T L (p + m6 (nL T L p)) ≤ 122 := by
  have e : m6 (nL T L p) = 6 := by unfold m6; rw [if_neg (by omega)]
  have f := nL_let (T := T) (L := L) (a := p) (k := 6) (by omega)
  have l := nL_le (T := T) (L := L) (a := p)
  rw [e]
  unfold sg
  rw [if_pos (by omega)]
  exact f
theorem name_go {T : Nat → Int} {L p : Nat} (h : nL T L p ≤ 6) : m6 (nL T L p) = nL T L p := by
  unfold m6
  split
  · rfl
  · omega
section Read
variable {S : Shp} {M : Mem} {Q : Res → Prop} {T : Nat → Int} {L p t : Nat} {σ : Nat → Int}
/-- a number that is told, and its end -/
theorem rd_num (hS : KC S) (ht : t ∈ bx_tw) (hp : Pg M T L p) (hpb : p ≤ 201) (hc : CR M t σ) {j : Nat} (hj : 1 ≤ j ∧ j ≤ 4) {most : Int} (hm : 0 ≤ most ∧ most ≤ 99) (h1 : num T L p ∧ nV T L p ≤ most ∧ sg T L (p + nF T L p) = 59 → ∀ M', Pg M' T L (p + nF T L p + 1) → CR M' t (up1 σ j (nV T L p)) → Cd M M' t → Q (S, M', some (.inl 1))) (h0 : ¬ (num T L p ∧ nV T L p ≤ most ∧ sg T L (p + nF T L p) = 59) → ∀ M', Cd M M' t → Q (S, M', some (.inl 0))) : Ca 51 [.inr (.inr 6), .inl most] S M (fun r => ∃ (M1 : Mem) (v2 : Int), r = (S, M1, some (.inl v2)) ∧ ((v2 = (-1 : Int) → Q (S, up2 M1 t j v2, some (.inl (0 : Int)))) ∧ (v2 ≠ (-1 : Int) → Ca 48 [.inr (.inr 6), .inl (59 : Int)] S (up2 M1 t j v2) (fun r => ∃ (M3 : Mem) (v4 : Int), r = (S, M3, some (.inl v4)) ∧ ((v4 = 0 → Q (S, M3, some (.inl (0 : Int)))) ∧ (v4 ≠ 0 → Q (S, M3, some (.inl (1 : Int))))))))) := by
  have h8 := tw_8 t ht
  have hL := hp.2.1
  have fl := nF_le (T := T) (L := L) (a := p)
  refine sp_readNumber hS hp (by omega) hm (fun M1 n1 e1 => ⟨_, _, rfl, fun z => ?_, fun z => ?_⟩)
  · refine h0 (fun q => ?_) _ ((Cd_Pn n1).trans (Cd_row (by omega) h8 _ _))
    have := nV_in q.1.1
    rw [if_neg (by omega)] at z
    omega
  · have zz : ¬ (nF T L p = 0 ∨ most < nV T L p) := fun q => by rw [if_pos q] at z; exact absurd rfl z
    rw [if_neg zz]
    have p2 : Pg (up2 M1 t j (nV T L p)) T L (p + m2 (nF T L p)) := by
      have := Pg_Pn hp n1 e1
      exact ⟨by rw [up2_row _ _ _ _ (by omega)]; exact this.1, this.2.1, by rw [up2_row _ _ _ _ (by omega)]; exact this.2.2.1, fun k hk => by rw [up2_row _ _ _ _ (by omega)]; exact this.2.2.2 k hk⟩
    have c2 := CR_up h8 (CR_Pn h8 hc n1) hj (nV T L p)
    have d2 : Cd M (up2 M1 t j (nV T L p)) t := (Cd_Pn n1).trans (Cd_row (by omega) h8 _ _)
    have em : m2 (nF T L p) ≤ 2 := by unfold m2; split <;> omega
    by_cases h2 : nF T L p ≤ 2
    · rw [num_go h2] at p2
      refine sp_passes hS p2 (by omega) (fun w => ⟨_, _, rfl, fun y => absurd y (by decide), fun _ => ?_⟩) (fun w => ⟨_, _, rfl, fun _ => ?_, fun y => absurd rfl y⟩)
      · exact h1 ⟨⟨by omega, h2⟩, by omega, w⟩ _ (Pg_Pn p2 (Pn_up _ _) (up2_get _ _ _ _)) (CR_Pn h8 c2 (Pn_up _ _)) (d2.trans (Cd_Pn (Pn_up _ _)))
      · exact h0 (fun q => w q.2.2) _ d2
    · have := num_stop h2
      refine sp_passes hS p2 (by omega) (fun w => by omega) (fun w => ⟨_, _, rfl, fun _ => ?_, fun y => absurd rfl y⟩)
      exact h0 (fun q => h2 q.1.2) _ d2
/-- names for a town -/
theorem sp_giveName7 (hS : KC S) (ht : t ∈ bx_tw) {i m : Nat} (hi : i < 8) (hm : m ≤ 6) (h : ∀ M', (∀ q, q ≠ t + 1 → q ≠ t + 2 → M' q = M q) → (∀ k, M' (t + 1) k = if k = i then (m : Int) else M (t + 1) k) → (∀ z, M' (t + 2) z = if 6 * i ≤ z ∧ z < 6 * i + m then M 7 (z - 6 * i) else M (t + 2) z) → Q (S, M', none)) : Ca 67 [.inr (.inr (t + 1)), .inl (i : Int), .inr (.inr 8), .inl (m : Int)] S M Q := by
  have h8 := tw_8 t ht
  have hw : S[7]? = some (0, 6, []) := sh_7 hS
  have loop : ∀ (d k : Nat) (M1 : Mem), k + d = m → (∀ q, q ≠ t + 1 → q ≠ t + 2 → M1 q = M q) → (∀ k, M1 (t + 1) k = if k = i then (m : Int) else M (t + 1) k) → (∀ z, M1 (t + 2) z = if 6 * i ≤ z ∧ z < 6 * i + k then M 7 (z - 6 * i) else M (t + 2) z) → En 67 7 [some (.inr (.inr (t + 1))), some (.inl (i : Int)), some (.inr (.inr 8)), some (.inl (m : Int)), some (.inl (k : Int))] [] S M1 Q := by
    intro d
    induction d with
    | zero =>
      intro k M1 hk f1 f2 f3
      have e : k = m := by omega
      subst e
      refine r_X7_giveName_7 (w := 7) hS ht hw (by decide) ?_
      exact ⟨fun _ => h M1 f1 f2 f3, fun z => by omega⟩
    | succ d ih =>
      intro k M1 hk f1 f2 f3
      refine r_X7_giveName_7 (w := 7) hS ht hw (by decide) ?_
      have e1 : (((i : Int) * 6) + k).toNat = 6 * i + k := by omega
      rw [e1, show ((k : Int) + 1) = ((k + 1 : Nat) : Int) by omega, Int.toNat_natCast]
      refine ⟨fun z => by omega, fun _ => ⟨fun z => by omega, fun _ => ⟨by unfold inR; omega, by unfold inR; omega, by omega, by omega, by unfold inR; omega, ih (k + 1) _ (by omega) (fun q a b => by rw [up2_row _ _ _ _ b]; exact f1 q a b) (fun j => by rw [up2_row _ _ _ _ (by omega)]; exact f2 j) (fun z => ?_)⟩⟩⟩
      rw [up2_any, f1 7 (by omega) (by omega)]
      by_cases hz : z = 6 * i + k
      · rw [if_pos ⟨rfl, hz⟩, if_pos (by omega)]; congr 1; omega
      · rw [if_neg (fun y => hz y.2), f3 z]
        by_cases hy : 6 * i ≤ z ∧ z < 6 * i + k
        · rw [if_pos hy, if_pos (by omega)]
        · rw [if_neg hy, if_neg (by omega)]
  refine r_X7_giveName_0 (w := 7) hS ht hw (by decide) ?_
  rw [Int.toNat_natCast]
  refine ⟨by omega, loop m 0 _ (by omega) (fun q a b => by rw [up2_row _ _ _ _ a]) (fun k => by rw [up2_any]; simp) (fun z => ?_)⟩
  rw [up2_row _ _ _ _ (by omega), if_neg (by omega)]
theorem sp_settle (hS : KC S) (ht : t ∈ bx_tw) (hc : CR M t σ) (hs : SO σ) {m : Nat} (hm : m ≤ 6) {f : Nat → Int} (hf : ∀ k, k < m → M 7 k = f k) {v w : Int} (h1 : σ 0 < 8 → ∀ M', (∀ q, ¬ (t ≤ q ∧ q ≤ t + 10) → M' q = M q) → CR M' t (putN σ f (σ 0).toNat m v w) → Q (S, M', some (.inl 1))) (h0 : ¬ σ 0 < 8 → Q (S, M, some (.inl 0))) : Ca 66 [.inr (.inr (t + 1)), .inr (.inr 8), .inl (m : Int), .inl v, .inl w] S M Q := by
  have h8 := tw_8 t ht
  have s0 := hs.1
  obtain ⟨i, hi⟩ : ∃ i : Nat, σ 0 = (i : Int) := ⟨(σ 0).toNat, by omega⟩
  have e0 : M t 0 = (i : Int) := by rw [hc.1.1, hi]
  rw [show (σ 0).toNat = i by omega] at h1
  apply r_X7_settle_0 hS ht
  rw [e0]
  refine ⟨fun z => sp_giveName7 hS ht (by omega) hm (fun M1 g1 g2 g3 => ⟨_, rfl, ?_⟩), fun z => h0 (by omega)⟩
  have t0 : M1 t 0 = (i : Int) := by rw [g1 t (by omega) (by omega)]; exact e0
  have t1 : up2 M1 (t + 3) i v t 0 = (i : Int) := by rw [up2_row _ _ _ _ (by omega)]; exact t0
  have t2 : up2 (up2 M1 (t + 3) i v) (t + 4) i w t 0 = (i : Int) := by rw [up2_row _ _ _ _ (by omega)]; exact t1
  rw [t0, Int.toNat_natCast, t1, Int.toNat_natCast, t2]
  obtain ⟨M2, hM2⟩ : ∃ z, z = up2 (up2 (up2 M1 (t + 3) i v) (t + 4) i w) t 0 ((i : Int) + 1) := ⟨_, rfl⟩
  rw [← hM2]
  have R : ∀ q, q ≠ t → q ≠ t + 1 → q ≠ t + 2 → q ≠ t + 3 → q ≠ t + 4 → M2 q = M q := fun q a b c d e => by rw [hM2, up2_row _ _ _ _ a, up2_row _ _ _ _ e, up2_row _ _ _ _ d]; exact g1 q b c
  refine ⟨by omega, by omega, by unfold inR; omega, h1 (by omega) M2 (fun q hq => R q (by omega) (by omega) (by omega) (by omega) (by omega)) ?_⟩
  have x0 : ∀ k, M2 t k = if k = 0 then (i : Int) + 1 else M t k := fun k => by
    rw [hM2, up2_any]
    by_cases hk : k = 0
    · rw [if_pos ⟨rfl, hk⟩, if_pos hk]
    · rw [if_neg (fun y => hk y.2), if_neg hk, up2_row _ _ _ _ (by omega), up2_row _ _ _ _ (by omega), g1 t (by omega) (by omega)]
  have x1 : ∀ k, M2 (t + 1) k = if k = i then (m : Int) else M (t + 1) k := fun k => by rw [hM2, up2_row _ _ _ _ (by omega), up2_row _ _ _ _ (by omega), up2_row _ _ _ _ (by omega)]; exact g2 k
  have x2 : ∀ z, M2 (t + 2) z = if 6 * i ≤ z ∧ z < 6 * i + m then M 7 (z - 6 * i) else M (t + 2) z := fun z => by rw [hM2, up2_row _ _ _ _ (by omega), up2_row _ _ _ _ (by omega), up2_row _ _ _ _ (by omega)]; exact g3 z
  have x3 : ∀ k, M2 (t + 3) k = if k = i then v else M (t + 3) k := fun k => by
    rw [hM2, up2_row _ _ _ _ (by omega), up2_row _ _ _ _ (by omega), up2_any, g1 (t + 3) (by omega) (by omega)]; simp
  have x4 : ∀ k, M2 (t + 4) k = if k = i then w else M (t + 4) k := fun k => by
    rw [hM2, up2_row _ _ _ _ (by omega), up2_any, up2_row _ _ _ _ (by omega), g1 (t + 4) (by omega) (by omega)]; simp
  obtain ⟨⟨a0, a1, a2, a3, a4, a5⟩, b1, b2, b3, b4, b5, b6, b7⟩ := hc
  have P0 : putN σ f i m v w 0 = σ 0 + 1 := if_pos rfl
  have Po : ∀ j, j ≠ 0 → j < 10 ∨ 90 ≤ j → putN σ f i m v w j = σ j := fun j h1 h2 => by unfold putN; rw [if_neg h1, if_neg (by omega), if_neg (by omega), if_neg (by omega), if_neg (by omega)]
  refine ⟨⟨by rw [x0, if_pos rfl, P0, hi], by rw [x0, if_neg (by decide), Po 1 (by decide) (by omega)]; exact a1, by rw [x0, if_neg (by decide), Po 2 (by decide) (by omega)]; exact a2, by rw [x0, if_neg (by decide), Po 3 (by decide) (by omega)]; exact a3, by rw [x0, if_neg (by decide), Po 4 (by decide) (by omega)]; exact a4, by rw [R 5 (by omega) (by omega) (by omega) (by omega) (by omega), Po 5 (by decide) (by omega)]; exact a5⟩, fun j hj => ?_, fun j hj => ?_, fun k hk => ?_, fun x hx => ?_, fun r hr => ?_, fun x hx => ?_, fun x y hx hy => ?_⟩
  · rw [P0] at hj
    rw [x1, x3, x4]
    unfold putN
    by_cases hji : j = i
    · subst hji
      rw [if_pos rfl, if_pos rfl, if_pos rfl, if_neg (by omega), if_pos rfl, if_neg (by omega), if_neg (by omega), if_neg (by omega), if_pos rfl, if_neg (by omega), if_neg (by omega), if_neg (by omega), if_neg (by omega), if_pos rfl]
      refine ⟨rfl, rfl, rfl, fun k hk => ?_⟩
      rw [x2, if_pos (by omega), if_neg (by omega), if_neg (by omega), if_pos (by omega), show 20 + 6 * j + k - (20 + 6 * j) = k by omega, show 6 * j + k - 6 * j = k by omega]
      exact hf k (by omega)
    · have b := b1 j (by omega)
      have sj := hs.2.2.2.2.2.2.1 j (by omega)
      rw [if_neg hji, if_neg hji, if_neg hji, if_neg (by omega), if_neg (by omega), if_neg (by omega), if_neg (by omega), if_neg (by omega), if_neg (by omega), if_neg (by omega), if_neg (by omega), if_neg (by omega), if_neg (by omega), if_neg (by omega), if_neg (by omega), if_neg (by omega), if_neg (by omega), if_neg (by omega)]
      refine ⟨b.1, b.2.1, b.2.2.1, fun k hk => ?_⟩
      rw [x2, if_neg (by omega), if_neg (by omega), if_neg (by omega), if_neg (by omega), if_neg (by omega), if_neg (by omega)]
      exact b.2.2.2 k hk
  · rw [R _ (by omega) (by omega) (by omega) (by omega) (by omega), R _ (by omega) (by omega) (by omega) (by omega) (by omega)]; exact b2 j hj
  · rw [R _ (by omega) (by omega) (by omega) (by omega) (by omega)]; exact b3 k hk
  · rw [R _ (by omega) (by omega) (by omega) (by omega) (by omega), Po _ (by omega) (by omega)]; exact b4 x hx
  · rw [R _ (by omega) (by omega) (by omega) (by omega) (by omega), R _ (by omega) (by omega) (by omega) (by omega) (by omega)]; exact b5 r hr
  · rw [R _ (by omega) (by omega) (by omega) (by omega) (by omega)]; exact b6 x hx
  · rw [R _ (by omega) (by omega) (by omega) (by omega) (by omega), b7 x y hx hy, Po 5 (by decide) (by omega)]
    constructor
    · rintro ⟨k, hk, q⟩; exact ⟨k, hk, by rw [Po _ (by omega) (by omega), Po _ (by omega) (by omega)]; exact q⟩
    · rintro ⟨k, hk, q⟩; rw [Po _ (by omega) (by omega), Po _ (by omega) (by omega)] at q; exact ⟨k, hk, q⟩
theorem CR_nm {M M' : Mem} {t : Nat} {σ : Nat → Int} (ht : 8 ≤ t) (h : CR M t σ) (h1 : ∀ q, q ≠ 5 → q ≠ 7 → M' q = M q) (h2 : ∀ k, k ≠ 3 → M' 5 k = M 5 k) : CR M' t σ := CR_rows h (fun j _ => h1 _ (by omega) (by omega)) (h2 4 (by decide))
theorem Pg_nm {M M' : Mem} {T : Nat → Int} {L a a' : Nat} (h : Pg M T L a) (h1 : ∀ q, q ≠ 5 → q ≠ 7 → M' q = M q) (h2 : ∀ k, k ≠ 3 → M' 5 k = M 5 k) (h3 : M' 5 3 = ((a' : Nat) : Int)) : Pg M' T L a' := ⟨by rw [h2 2 (by decide)]; exact h.1, h.2.1, h3, fun k hk => by rw [h1 6 (by decide) (by decide)]; exact h.2.2.2 k hk⟩
theorem Cd_nm {M M' : Mem} {t : Nat} (h1 : ∀ q, q ≠ 5 → q ≠ 7 → M' q = M q) (h2 : ∀ k, k ≠ 3 → M' 5 k = M 5 k) : Cd M M' t := ⟨fun q a b _ => h1 q a b, fun k hk => h2 k (by omega)⟩
theorem sp_readPerson (hS : KC S) (ht : t ∈ bx_tw) {a : Nat} (hp : Pg M T L (a + 1)) (ha : a < L) (hc : CR M t σ) (hs : SO σ) (h1 : (nL T L (a + 1) ≤ 6 ∧ sg T L (q1 T L a) = 44 ∧ num T L (q1 T L a + 1) ∧ nV T L (q1 T L a + 1) ≤ 9 ∧ sg T L (q2 T L a) = 44 ∧ num T L (q2 T L a + 1) ∧ sg T L (q3 T L a) = 59 ∧ σ 0 < 8) → ∀ M', Pg M' T L (q3 T L a + 1) → CR M' t (putN σ (fun k => T (a + 1 + k) - 97) (σ 0).toNat (nL T L (a + 1)) (nV T L (q1 T L a + 1)) (nV T L (q2 T L a + 1))) → Cd M M' t → Q (S, M', some (.inl 1))) (h0 : ¬ (nL T L (a + 1) ≤ 6 ∧ sg T L (q1 T L a) = 44 ∧ num T L (q1 T L a + 1) ∧ nV T L (q1 T L a + 1) ≤ 9 ∧ sg T L (q2 T L a) = 44 ∧ num T L (q2 T L a + 1) ∧ sg T L (q3 T L a) = 59 ∧ σ 0 < 8) → ∀ M', Cd M M' t → Q (S, M', some (.inl 0))) : Ca 40 [.inr (.inr 6), .inr (.inr (t + 1))] S M Q := by
  have h8 := tw_8 t ht
  have hL := hp.2.1
  have l1 := nL_le (T := T) (L := L) (a := a + 1)
  have l2 := nF_le (T := T) (L := L) (a := q1 T L a + 1)
  have l3 := nF_le (T := T) (L := L) (a := q2 T L a + 1)
  have e1 : q1 T L a = a + 1 + nL T L (a + 1) := rfl
  have e2 : q2 T L a = q1 T L a + 1 + nF T L (q1 T L a + 1) := rfl
  have e3 : q3 T L a = q2 T L a + 1 + nF T L (q2 T L a + 1) := rfl
  have m6le : m6 (nL T L (a + 1)) ≤ 6 := by unfold m6; split <;> omega
  apply r_X5_readPerson_0 hS ht
  refine sp_readName hS hp (by omega) (fun M1 g1 g2 g3 g4 => ⟨_, _, rfl, ?_⟩)
  have p1 := Pg_nm hp g1 g2 g3
  have d1 : Cd M M1 t := Cd_nm g1 g2
  have cr1 := CR_nm h8 hc g1 g2
  by_cases n6 : nL T L (a + 1) ≤ 6
  · rw [name_go n6] at p1 g4 ⊢
    rw [← e1] at p1
    refine sp_passes hS p1 (by omega) (fun w => ⟨_, _, rfl, fun _ => ?_, fun y => absurd y (by decide)⟩) (fun w => ⟨_, _, rfl, fun y => absurd rfl y, fun _ => h0 (fun q => w q.2.1) _ d1⟩)
    have p2 : Pg (up2 M1 5 3 ((q1 T L a + 1 : Nat) : Int)) T L (q1 T L a + 1) := Pg_Pn p1 (Pn_up _ _) (up2_get _ _ _ _)
    refine sp_readNumber hS p2 (by omega) (by omega) (fun M3 n3 e3' => ⟨_, _, rfl, fun z => ?_, fun z => ?_⟩)
    · refine h0 (fun q => ?_) _ (d1.trans ((Cd_Pn (Pn_up _ _)).trans (Cd_Pn n3)))
      have := nV_in q.2.2.1.1
      rw [if_neg (by omega)] at z
      omega
    · have zz : ¬ (nF T L (q1 T L a + 1) = 0 ∨ 9 < nV T L (q1 T L a + 1)) := fun q => by rw [if_pos q] at z; exact absurd rfl z
      rw [if_neg zz]
      have p3 := Pg_Pn p2 n3 e3'
      have pn3 : Pn M1 M3 := (Pn_up _ _).trans n3
      have d3 : Cd M M3 t := d1.trans (Cd_Pn pn3)
      have em : m2 (nF T L (q1 T L a + 1)) ≤ 2 := by unfold m2; split <;> omega
      by_cases h2 : nF T L (q1 T L a + 1) ≤ 2
      · rw [num_go h2, ← e2] at p3
        refine sp_passes hS p3 (by omega) (fun w2 => ⟨_, _, rfl, fun _ => ?_, fun y => absurd y (by decide)⟩) (fun w2 => ⟨_, _, rfl, fun y => absurd rfl y, fun _ => h0 (fun q => w2 q.2.2.2.2.1) _ d3⟩)
        have p4 : Pg (up2 M3 5 3 ((q2 T L a + 1 : Nat) : Int)) T L (q2 T L a + 1) := Pg_Pn p3 (Pn_up _ _) (up2_get _ _ _ _)
        refine sp_readNumber hS p4 (by omega) (by omega) (fun M5 n5 e5 => ⟨_, _, rfl, fun z2 => ?_, fun z2 => ?_⟩)
        · refine h0 (fun q => ?_) _ (d3.trans ((Cd_Pn (Pn_up _ _)).trans (Cd_Pn n5)))
          have := nV_in q.2.2.2.2.2.1.1
          rw [if_neg (by omega)] at z2
          omega
        · have zz2 : ¬ (nF T L (q2 T L a + 1) = 0 ∨ 99 < nV T L (q2 T L a + 1)) := fun q => by rw [if_pos q] at z2; exact absurd rfl z2
          rw [if_neg zz2]
          have p5 := Pg_Pn p4 n5 e5
          have pn5 : Pn M1 M5 := pn3.trans ((Pn_up _ _).trans n5)
          have d5 : Cd M M5 t := d1.trans (Cd_Pn pn5)
          have em2 : m2 (nF T L (q2 T L a + 1)) ≤ 2 := by unfold m2; split <;> omega
          by_cases h3 : nF T L (q2 T L a + 1) ≤ 2
          · rw [num_go h3, ← e3] at p5
            refine sp_passes hS p5 (by omega) (fun w3 => ⟨_, _, rfl, fun y => absurd y (by decide), fun _ => ?_⟩) (fun w3 => ⟨_, _, rfl, fun _ => h0 (fun q => w3 q.2.2.2.2.2.2.1) _ d5, fun y => absurd rfl y⟩)
            have p6 : Pg (up2 M5 5 3 ((q3 T L a + 1 : Nat) : Int)) T L (q3 T L a + 1) := Pg_Pn p5 (Pn_up _ _) (up2_get _ _ _ _)
            have pn6 : Pn M1 (up2 M5 5 3 ((q3 T L a + 1 : Nat) : Int)) := pn5.trans (Pn_up _ _)
            refine sp_settle hS ht (CR_Pn h8 cr1 pn6) hs n6 (f := fun k => T (a + 1 + k) - 97) (fun k hk => by rw [pn6.1 7 (by decide)]; exact g4 k hk) (fun s8 M7 r7 c7 => ⟨_, _, rfl, fun y => absurd y (by decide), fun _ => ?_⟩) (fun s8 => ⟨_, _, rfl, fun _ => h0 (fun q => s8 q.2.2.2.2.2.2.2) _ (d1.trans (Cd_Pn pn6)), fun y => absurd rfl y⟩)
            refine h1 ⟨n6, w, ⟨by omega, h2⟩, by omega, w2, ⟨by omega, h3⟩, w3, s8⟩ M7 ⟨by rw [r7 5 (by omega)]; exact p6.1, p6.2.1, by rw [r7 5 (by omega)]; exact p6.2.2.1, fun k hk => by rw [r7 6 (by omega)]; exact p6.2.2.2 k hk⟩ c7 ((d1.trans (Cd_Pn pn6)).trans ⟨fun q _ _ hq => r7 q hq, fun k _ => by rw [r7 5 (by omega)]⟩)
          · have := num_stop h3
            refine sp_passes hS p5 (by omega) (fun w3 => by omega) (fun w3 => ⟨_, _, rfl, fun _ => h0 (fun q => h3 q.2.2.2.2.2.1.2) _ d5, fun y => absurd rfl y⟩)
      · have := num_stop h2
        refine sp_passes hS p3 (by omega) (fun w2 => by omega) (fun w2 => ⟨_, _, rfl, fun y => absurd rfl y, fun _ => h0 (fun q => h2 q.2.2.1.2) _ d3⟩)
  · have := name_stop n6
    refine sp_passes hS p1 (by omega) (fun w => by omega) (fun w => ⟨_, _, rfl, fun y => absurd rfl y, fun _ => h0 (fun q => n6 q.1) _ d1⟩)
end Read
