/-! chain -/
def eC (M : Mem) (a b : Nat) : Bool := decide (0 < mD M 0 b a)
def St (E : Nat → Nat → Bool) (n : Nat) (B0 B : Nat → Int) (i j : Nat) (g c : Int) : Prop :=
  (g = 0 ∨ g = 1) ∧ (∀ k, k < n → B0 k ≤ B k) ∧ (∀ a b, a < n → b < n → (a < i ∨ (a = i ∧ b < j)) → E a b = true → B0 b + 1 ≤ B a) ∧ (g = 0 → ∀ k, k < n → B k = B0 k) ∧ cJ E n B ∧ (∀ k, k < n → B k ≤ c + 8 * i + j) ∧ (∀ F : Nat → Int, cF E n F → (∀ k, k < n → B0 k ≤ F k) → ∀ k, k < n → B k ≤ F k) ∧ (cF E n B0 → g = 0)
theorem St_no {E : Nat → Nat → Bool} {n : Nat} {B0 B : Nat → Int} {i j : Nat} {g c : Int} (h : St E n B0 B i j g c) (hi : i < n) (hj : j < n) (hno : E i j = true → B j + 1 ≤ B i) : St E n B0 B i (j + 1) g c := by
  obtain ⟨h1, h2, h3, h4, h5, h6, h7, h8⟩ := h
  refine ⟨h1, h2, fun a b ha hb hab hE => ?_, h4, h5, fun k hk => by have := h6 k hk; omega, h7, h8⟩
  by_cases q : a = i ∧ b = j
  · obtain ⟨rfl, rfl⟩ := q
    have := h2 b hb
    have := hno hE
    omega
  · exact h3 a b ha hb (by omega) hE
theorem St_yes {E : Nat → Nat → Bool} {n : Nat} {B0 B B' : Nat → Int} {i j : Nat} {g c : Int} (h : St E n B0 B i j g c) (hi : i < n) (hj : j < n) (hE : E i j = true) (hlt : B i < B j + 1) (hb1 : B' i = B j + 1) (hb2 : ∀ k, k ≠ i → B' k = B k) : St E n B0 B' i (j + 1) 1 c := by
  obtain ⟨h1, h2, h3, h4, h5, h6, h7, h8⟩ := h
  have up : ∀ k, B k ≤ B' k := fun k => by
    by_cases hk : k = i
    · subst hk; omega
    · rw [hb2 k hk]; exact Int.le_refl _
  refine ⟨Or.inr rfl, fun k hk => Int.le_trans (h2 k hk) (up k), fun a b ha hb hab hE' => ?_, fun q => absurd q (by decide), fun k hk => ?_, fun k hk => ?_, fun F hF hle k hk => ?_, fun hF => ?_⟩
  · by_cases q : a = i ∧ b = j
    · obtain ⟨rfl, rfl⟩ := q
      have := h2 b hb
      omega
    · have a1 := h3 a b ha hb (by omega) hE'
      have a2 := up a
      omega
  · have a1 := h5 k hk
    have a2 := up k
    refine ⟨by omega, ?_⟩
    by_cases q : k = i
    · subst q
      have a3 := up j
      exact Or.inr ⟨j, hj, hE, by omega⟩
    · rw [hb2 k q]
      rcases a1.2 with w | ⟨l, hl, w1, w2⟩
      · exact Or.inl w
      · have a3 := up l
        exact Or.inr ⟨l, hl, w1, by omega⟩
  · by_cases q : k = i
    · subst q
      have := h6 j hj
      omega
    · rw [hb2 k q]
      have := h6 k hk
      omega
  · by_cases q : k = i
    · subst q
      have a1 := h7 F hF hle j hj
      have a2 := hF k j hk hj hE
      omega
    · rw [hb2 k q]; exact h7 F hF hle k hk
  · exfalso
    have e := h4 (h8 hF)
    have a1 := e i hi
    have a2 := e j hj
    have a3 := hF i j hi hj hE
    omega
def Lc (M M1 : Mem) : Prop := ∀ q, q ≠ 165 → M1 q = M q
theorem Lc_same {M M1 : Mem} (h : Lc M M1) : Same M M1 ∧ ∀ q, 172 ≤ q → M1 q = M q := ⟨fun q k hq => by rw [h q (by unfold scr at hq; omega)], fun q hq => h q (by omega)⟩
/-- what chain answers -/
def cAns (E : Nat → Nat → Bool) (n : Nat) : Int := if cL (cW E n (n + 1)) n < n then cL (cW E n (n + 1)) n else -4
section Chain
variable {S : Shp} {M : Mem} {Q : Res → Prop}
theorem str_j (hS : KC S) {n : Nat} (hT : Tn M 8 0 n) {B0 : Nat → Int} {c : Int} (hc : 0 ≤ c ∧ c ≤ 1000) {i : Nat} (hi : i < n) (hk : ∀ M' g, Lc M M' → St (eC M) n B0 (M' 165) (i + 1) 0 g c → En 2 4 [some (.inr (.inr 165)), some (.inr (.inr 9)), some (.inl g), some (.inl ((i + 1 : Nat) : Int)), none] [] S M' Q) : ∀ (d j : Nat) (M1 : Mem) (g : Int), j + d = n → Lc M M1 → St (eC M) n B0 (M1 165) i j g c → En 2 10 [some (.inr (.inr 165)), some (.inr (.inr 9)), some (.inl g), some (.inl (i : Int)), some (.inl (j : Int))] [] S M1 Q := by
  have hn8 := hT.1.1
  intro d
  induction d with
  | zero =>
    intro j M1 g hd hl hst
    have e : j = n := by omega
    subst e
    apply r_X0_stretch_10 hS
    have e0 : M1 8 0 = j := by rw [hl 8 (by decide)]; exact hT.2.1.1
    rw [e0]
    refine ⟨fun _ => ⟨by unfold inR; omega, hk M1 g hl ?_⟩, fun z => by omega⟩
    obtain ⟨h1, h2, h3, h4, h5, h6, h7, h8⟩ := hst
    exact ⟨h1, h2, fun a b ha hb hab hE => h3 a b ha hb (by omega) hE, h4, h5, fun k hk => by have := h6 k hk; omega, h7, h8⟩
  | succ d ih =>
    intro j M1 g hd hl hst
    apply r_X0_stretch_10 hS
    have e0 : M1 8 0 = n := by rw [hl 8 (by decide)]; exact hT.2.1.1
    rw [e0, Int.toNat_natCast, Int.toNat_natCast, show ((j : Int) + 1) = ((j + 1 : Nat) : Int) by omega]
    refine ⟨fun z => by omega, fun _ => sp_debt (t := 8) hS (by decide) (by omega) (by omega) ⟨_, _, rfl, ?_⟩⟩
    have ed : M1 (8 + 7) (8 * j + i) = mD M 0 j i := by
      rw [hl 15 (by decide)]
      exact (Tn_D hT (a := j) (b := i) (by omega) hi).1
    rw [ed]
    have bi := (hst.2.2.2.2.1 i hi).1
    have bj := (hst.2.2.2.2.1 j (by omega)).1
    have ui := hst.2.2.2.2.2.1 i hi
    have uj := hst.2.2.2.2.2.1 j (by omega)
    refine ⟨fun z => ⟨by unfold inR; omega, ih (j + 1) M1 g (by omega) hl (St_no hst hi (by omega) (fun q => ?_))⟩, fun z => ⟨by omega, by omega, by unfold inR; omega, fun w => ⟨by unfold inR; omega, ih (j + 1) M1 g (by omega) hl (St_no hst hi (by omega) (fun _ => w))⟩, fun w => ⟨by omega, by unfold inR; omega, by omega, by unfold inR; omega, ih (j + 1) _ 1 (by omega) (fun q hq => by rw [up2_row _ _ _ _ hq]; exact hl q hq) (St_yes hst hi (by omega) (decide_eq_true z) w (up2_get _ _ _ _) (fun k hk => up2_off _ _ _ _ hk))⟩⟩⟩
    have := of_decide_eq_true q
    omega
theorem str_i (hS : KC S) {n : Nat} (hT : Tn M 8 0 n) {B0 : Nat → Int} {c : Int} (hc : 0 ≤ c ∧ c ≤ 1000) (hk : ∀ M' g, Lc M M' → St (eC M) n B0 (M' 165) n 0 g c → Q (S, M', some (.inl g))) : ∀ (d i : Nat) (M1 : Mem) (g : Int), i + d = n → Lc M M1 → St (eC M) n B0 (M1 165) i 0 g c → En 2 4 [some (.inr (.inr 165)), some (.inr (.inr 9)), some (.inl g), some (.inl (i : Int)), none] [] S M1 Q := by
  intro d
  induction d with
  | zero =>
    intro i M1 g hd hl hst
    have e : i = n := by omega
    subst e
    apply r_X0_stretch_4 hS
    have e0 : M1 8 0 = i := by rw [hl 8 (by decide)]; exact hT.2.1.1
    rw [e0]
    exact ⟨fun _ => ⟨hst.1, hk M1 g hl hst⟩, fun z => by omega⟩
  | succ d ih =>
    intro i M1 g hd hl hst
    apply r_X0_stretch_4 hS
    have e0 : M1 8 0 = n := by rw [hl 8 (by decide)]; exact hT.2.1.1
    rw [e0]
    exact ⟨fun z => by omega, fun _ => str_j hS hT hc (by omega) (fun M' g' l' s' => ih (i + 1) M' g' (by omega) l' s') n 0 M1 g (by omega) hl hst⟩
/-- while rows are made longer -/
def CI (E : Nat → Nat → Bool) (n s : Nat) (g : Int) (B : Nat → Int) : Prop :=
  (g = 0 ∨ g = 1) ∧ (∀ k, k < n → cW E n s k ≤ B k) ∧ cJ E n B ∧ (∀ k, k < n → B k ≤ 64 * s) ∧ (∀ F : Nat → Int, cF E n F → (∀ k, k < n → 0 ≤ F k) → ∀ k, k < n → B k ≤ F k) ∧ (g = 0 → cF E n B) ∧ (s = n → cL (cW E n (n + 1)) n < n → g = 0)
theorem cW_cF {E : Nat → Nat → Bool} {n : Nat} (hn : 1 ≤ n) (h : cL (cW E n (n + 1)) n < n) : cF E n (cW E n (n - 1)) := fun i j hi hj hE => by
  have a := cW_E (n := n) (t := n - 1) hj hE
  rw [show n - 1 + 1 = n by omega] at a
  have b := (cW_fix hn h i hi).2
  omega
theorem ch_37 (hS : KC S) {n : Nat} (hT : Tn M 8 0 n) {x2 : Int} {M1 : Mem} (hl : Lc M M1) (h : Q (S, M1, some (.inl (cL (M1 165) n)))) : ∀ d k : Nat, k + d = n → En 1 37 [some (.inr (.inr 165)), some (.inr (.inr 9)), some (.inl x2), some (.inl (cL (M1 165) k)), some (.inl (k : Int))] [] S M1 Q := by
  have hn8 := hT.1.1
  have e0 : M1 8 0 = n := by rw [hl 8 (by decide)]; exact hT.2.1.1
  intro d
  induction d with
  | zero =>
    intro k hk
    have e : k = n := by omega
    subst e
    apply r_X0_longestChain_37 hS
    rw [e0]
    exact ⟨fun _ => h, fun z => by omega⟩
  | succ d ih =>
    intro k hk
    apply r_X0_longestChain_37 hS
    have nx := ih (k + 1) (by omega)
    rw [cL] at nx
    rw [e0, Int.toNat_natCast, show ((k : Int) + 1) = ((k + 1 : Nat) : Int) by omega]
    exact ⟨fun z => by omega, fun _ => ⟨by omega, by unfold inR; omega, nx⟩⟩
theorem ch_17 (hS : KC S) {n : Nat} (hT : Tn M 8 0 n) (h : ∀ M', Lc M M' → Q (S, M', some (.inl (cAns (eC M) n)))) : ∀ (d s : Nat) (M1 : Mem) (g : Int), s + d = n → Lc M M1 → CI (eC M) n s g (M1 165) → En 1 17 [some (.inr (.inr 165)), some (.inr (.inr 9)), some (.inl g), some (.inl (s : Int)), none] [] S M1 Q := by
  have hn8 := hT.1.1
  have hn1 : 1 ≤ n := hT.2.1.2.2.1
  have fin : ∀ (s : Nat) (M1 : Mem) (g : Int), Lc M M1 → CI (eC M) n s g (M1 165) → g = 0 → En 1 37 [some (.inr (.inr 165)), some (.inr (.inr 9)), some (.inl g), some (.inl (0 : Int)), some (.inl (0 : Int))] [] S M1 Q := fun s M1 g hl hc hg => by
    obtain ⟨c1, c2, c3, c4, c5, c6, c7⟩ := hc
    have hF := c6 hg
    have hp := cW_pre (E := eC M) (n := n) (B := M1 165) (fun i hi => (c3 i hi).1) hF
    have hL : cL (cW (eC M) n (n + 1)) n < n := cL_lt (by omega) n (fun j hj => by
      have a := hp (n + 1) j hj
      have b := cJ_lt c3 hF hj
      omega)
    have hh := h M1 hl
    unfold cAns at hh
    rw [if_pos hL] at hh
    refine ch_37 hS hT hl ?_ n 0 (by omega)
    have e : cL (M1 165) n = cL (cW (eC M) n (n + 1)) n := cL_congr n (fun j hj => by
      have a := hp (n + 1) j hj
      have b := c5 _ (cW_cF hn1 hL) (fun k _ => (cW_in _ _).1) j hj
      have f := (cW_fix hn1 hL j hj).1
      omega)
    rw [e]
    exact hh
  intro d
  induction d with
  | zero =>
    intro s M1 g hd hl hc
    apply r_X0_longestChain_17 hS
    have e0 : M1 8 0 = n := by rw [hl 8 (by decide)]; exact hT.2.1.1
    rw [e0]
    refine ⟨fun _ => ⟨fun z => fin s M1 g hl hc z, fun z => ?_⟩, fun z => by omega⟩
    have hh := h M1 hl
    unfold cAns at hh
    rw [if_neg (fun q => z (hc.2.2.2.2.2.2 (by omega) q))] at hh
    exact hh
  | succ d ih =>
    intro s M1 g hd hl hc
    apply r_X0_longestChain_17 hS
    have e0 : M1 8 0 = n := by rw [hl 8 (by decide)]; exact hT.2.1.1
    rw [e0, show ((s : Int) + 1) = ((s + 1 : Nat) : Int) by omega]
    refine ⟨fun z => by omega, fun _ => ⟨fun z => ⟨fun z => fin s M1 g hl hc z, fun w => absurd z w⟩, fun z => ?_⟩⟩
    obtain ⟨c1, c2, c3, c4, c5, c6, c7⟩ := hc
    apply r_X0_stretch_0 hS
    refine str_i hS hT (B0 := M1 165) (c := 64 * (s : Int)) (by omega) (fun M2 g2 l2 st => ⟨_, _, rfl, by unfold inR; omega, ih (s + 1) M2 g2 (by omega) l2 ?_⟩) n 0 M1 0 (by omega) hl ⟨Or.inl rfl, fun k _ => Int.le_refl _, fun a b _ _ hab _ => by omega, fun _ k _ => rfl, c3, fun k hk => by have := c4 k hk; omega, fun F _ hF => hF, fun _ => rfl⟩
    obtain ⟨h1, h2, h3, h4, h5, h6, h7, h8⟩ := st
    refine ⟨h1, fun k hk => ?_, h5, fun k hk => by have := h6 k hk; omega, fun F hF h0 k hk => h7 F hF (fun k hk => c5 F hF h0 k hk) k hk, fun hg i j hi hj hE => ?_, fun hs hL => ?_⟩
    · show cmx (eC M) (cW (eC M) n s) k n ≤ _
      rcases cmx_is (E := eC M) (f := cW (eC M) n s) (j := k) n with q | ⟨i, hi, hE, q⟩
      · rw [q]; exact (h5 k hk).1
      · have a := c2 i hi
        have b := h3 k i hk hi (by omega) hE
        omega
    · have a := h4 hg j hj
      have b := h3 i j hi hj (by omega) hE
      omega
    · refine h8 (fun i j hi hj hE => ?_)
      have cf := cW_cF hn1 hL
      have a := c5 _ cf (fun k _ => (cW_in _ _).1)
      have es : s = n - 1 := by omega
      rw [es] at c2
      have b := cf i j hi hj hE
      have d1 := a j hj
      have d2 := c2 i hi
      omega
theorem ch_2 (hS : KC S) {n : Nat} (hT : Tn M 8 0 n) (h : ∀ M', Lc M M' → Q (S, M', some (.inl (cAns (eC M) n)))) : ∀ (d i : Nat) (M1 : Mem), i + d = n → Lc M M1 → (∀ k, k < i → M1 165 k = 0) → En 1 2 [some (.inr (.inr 165)), some (.inr (.inr 9)), some (.inl (i : Int)), none, none] [] S M1 Q := by
  have hn8 := hT.1.1
  have hn1 : 1 ≤ n := hT.2.1.2.2.1
  intro d
  induction d with
  | zero =>
    intro i M1 hd hl h0
    have e : i = n := by omega
    subst e
    apply r_X0_longestChain_2 hS
    have e0 : M1 8 0 = i := by rw [hl 8 (by decide)]; exact hT.2.1.1
    rw [e0]
    refine ⟨fun _ => ch_17 hS hT h i 0 M1 1 (by omega) hl ⟨Or.inr rfl, fun k hk => ?_, fun k hk => ⟨?_, Or.inl (h0 k hk)⟩, fun k hk => ?_, fun F _ hF k hk => ?_, fun z => absurd z (by decide), fun z => by omega⟩, fun z => by omega⟩
    · rw [h0 k hk]; exact Int.le_refl 0
    · rw [h0 k hk]; exact Int.le_refl 0
    · rw [h0 k hk]; omega
    · rw [h0 k hk]; exact hF k hk
  | succ d ih =>
    intro i M1 hd hl h0
    apply r_X0_longestChain_2 hS
    have e0 : M1 8 0 = n := by rw [hl 8 (by decide)]; exact hT.2.1.1
    rw [e0, Int.toNat_natCast, show ((i : Int) + 1) = ((i + 1 : Nat) : Int) by omega]
    refine ⟨fun z => by omega, fun _ => ⟨by omega, by unfold inR; omega, ih (i + 1) _ (by omega) (fun q hq => by rw [up2_row _ _ _ _ hq]; exact hl q hq) (fun k hk => ?_)⟩⟩
    rw [up2_any]
    split
    · rfl
    · rename_i z; exact h0 k (by omega)
/-! the reference's chain -/
def Mc (M M1 : Mem) : Prop := ∀ q, q ≠ 184 → q ≠ 185 → M1 q = M q
theorem Mc_same {M M1 : Mem} (h : Mc M M1) : Same M M1 := fun q k hq => by rw [h q (by unfold scr at hq; omega) (by unfold scr at hq; omega)]
theorem cm_36 (hM : KM S) {n : Nat} (hT : Tn M 8 0 n) {t j : Nat} (ht : t ≤ 8) (hj : j < n) {M1 : Mem} {x1 : Int} (hl : Mc M M1) (hB : ∀ k, k < n → M1 184 k = cW (eC M) n t k) (h : ∀ v, v = (if x1 < cW (eC M) n (t + 1) j then cW (eC M) n (t + 1) j else x1) → inR ((j + 1 : Nat) : Int) ∧ En 201 26 [some (.inr (.inr 173)), some (.inl v), some (.inl (t : Int)), some (.inl ((j + 1 : Nat) : Int)), none, none] [] S (up2 M1 185 j (cW (eC M) n (t + 1) j)) Q) : ∀ d i : Nat, i + d = n → En 201 36 [some (.inr (.inr 173)), some (.inl x1), some (.inl (t : Int)), some (.inl (j : Int)), some (.inl (cmx (eC M) (cW (eC M) n t) j i)), some (.inl (i : Int))] [] S M1 Q := by
  have hn8 := hT.1.1
  have e0 : M1 174 (0 : Int).toNat = n := by rw [hl 174 (by decide) (by decide)]; exact hT.2.1.2.1
  intro d
  induction d with
  | zero =>
    intro i hd
    have e : i = n := by omega
    subst e
    apply r_X9_chain_36 hM
    have e1 : cmx (eC M) (cW (eC M) i t) j i = cW (eC M) i (t + 1) j := rfl
    rw [e0, Int.toNat_natCast, e1, show ((j : Int) + 1) = ((j + 1 : Nat) : Int) by omega]
    refine ⟨by decide, fun _ => ⟨by omega, fun z => h _ ?_, fun z => h _ ?_⟩, fun z => by omega⟩
    · rw [if_neg (by omega)]
    · rw [if_pos z]
  | succ d ih =>
    intro i hd
    have nx := ih (i + 1) (by omega)
    rw [cmx] at nx
    apply r_X9_chain_36 hM
    rw [e0, Int.toNat_natCast, show ((i : Int) + 1) = ((i + 1 : Nat) : Int) by omega]
    refine ⟨by decide, fun z => by omega, fun _ => sq_owes hM (by omega) (by omega) ⟨_, _, rfl, ?_⟩⟩
    have eo : M1 180 (80 + 8 * j + i) = mD M 0 i j := by rw [hl 180 (by decide) (by decide)]; unfold mD; rw [Nat.mul_zero, Nat.zero_add]
    have hb := cW_in (E := eC M) (n := n) t i
    rw [eo, Int.toNat_natCast, hB i (by omega)]
    refine ⟨fun z => ⟨by unfold inR; omega, ?_⟩, fun z => ⟨by omega, by unfold inR; omega, fun w => ⟨by unfold inR; omega, ?_⟩, fun w => ⟨by omega, by unfold inR; omega, by unfold inR; omega, ?_⟩⟩⟩
    · rw [if_neg (fun q => by have := of_decide_eq_true q.1; omega)] at nx
      exact nx
    · rw [if_neg (by omega)] at nx
      exact nx
    · rw [if_pos ⟨decide_eq_true z, w⟩] at nx
      exact nx
theorem cm_26 (hM : KM S) {n : Nat} (hT : Tn M 8 0 n) {t : Nat} (ht : t ≤ 8) (hk : ∀ M', Mc M M' → (∀ k, k < n → M' 185 k = cW (eC M) n (t + 1) k) → En 201 82 [some (.inr (.inr 173)), some (.inl (cL (cW (eC M) n (t + 1)) n)), some (.inl (t : Int)), some (.inl (0 : Int)), none, none] [] S M' Q) : ∀ (d j : Nat) (M1 : Mem), j + d = n → Mc M M1 → (∀ k, k < n → M1 184 k = cW (eC M) n t k) → (∀ k, k < j → M1 185 k = cW (eC M) n (t + 1) k) → En 201 26 [some (.inr (.inr 173)), some (.inl (cL (cW (eC M) n (t + 1)) j)), some (.inl (t : Int)), some (.inl (j : Int)), none, none] [] S M1 Q := by
  have hn8 := hT.1.1
  intro d
  induction d with
  | zero =>
    intro j M1 hd hl hB hR
    have e : j = n := by omega
    subst e
    apply r_X9_chain_26 hM
    have e0 : M1 174 (0 : Int).toNat = j := by rw [hl 174 (by decide) (by decide)]; exact hT.2.1.2.1
    rw [e0]
    exact ⟨by decide, fun _ => hk M1 hl hR, fun z => by omega⟩
  | succ d ih =>
    intro j M1 hd hl hB hR
    apply r_X9_chain_26 hM
    have e0 : M1 174 (0 : Int).toNat = n := by rw [hl 174 (by decide) (by decide)]; exact hT.2.1.2.1
    rw [e0]
    refine ⟨by decide, fun z => by omega, fun _ => cm_36 hM hT ht (by omega) hl hB (fun v hv => ⟨by unfold inR; omega, ?_⟩) n 0 (by omega)⟩
    have := ih (j + 1) (up2 M1 185 j (cW (eC M) n (t + 1) j)) (by omega) (fun q q1 q2 => by rw [up2_row _ _ _ _ q2]; exact hl q q1 q2) (fun k hk => by rw [up2_row _ _ _ _ (by decide)]; exact hB k hk) (fun k hk => by
      rw [up2_any]
      by_cases hkj : k = j
      · rw [if_pos ⟨rfl, hkj⟩, hkj]
      · rw [if_neg (fun z => hkj z.2)]; exact hR k (by omega))
    rw [cL] at this
    rw [hv]
    exact this
theorem cm_82 (hM : KM S) {n : Nat} (hT : Tn M 8 0 n) {t : Nat} {x1 : Int} (ht : t ≤ 8) (hk : ∀ M', Mc M M' → (∀ k, k < n → M' 184 k = cW (eC M) n (t + 1) k) → En 201 16 [some (.inr (.inr 173)), some (.inl x1), some (.inl ((t + 1 : Nat) : Int)), none, none, none] [] S M' Q) : ∀ (d j : Nat) (M1 : Mem), j + d = n → Mc M M1 → (∀ k, k < j → M1 184 k = cW (eC M) n (t + 1) k) → (∀ k, k < n → M1 185 k = cW (eC M) n (t + 1) k) → En 201 82 [some (.inr (.inr 173)), some (.inl x1), some (.inl (t : Int)), some (.inl (j : Int)), none, none] [] S M1 Q := by
  have hn8 := hT.1.1
  intro d
  induction d with
  | zero =>
    intro j M1 hd hl hB hR
    have e : j = n := by omega
    subst e
    apply r_X9_chain_82 hM
    have e0 : M1 174 (0 : Int).toNat = j := by rw [hl 174 (by decide) (by decide)]; exact hT.2.1.2.1
    rw [e0, show ((t : Int) + 1) = ((t + 1 : Nat) : Int) by omega]
    exact ⟨by decide, fun _ => ⟨by unfold inR; omega, hk M1 hl hB⟩, fun z => by omega⟩
  | succ d ih =>
    intro j M1 hd hl hB hR
    apply r_X9_chain_82 hM
    have e0 : M1 174 (0 : Int).toNat = n := by rw [hl 174 (by decide) (by decide)]; exact hT.2.1.2.1
    rw [e0, Int.toNat_natCast, show ((j : Int) + 1) = ((j + 1 : Nat) : Int) by omega, hR j (by omega)]
    refine ⟨by decide, fun z => by omega, fun _ => ⟨by omega, by omega, by unfold inR; omega, ih (j + 1) _ (by omega) (fun q q1 q2 => by rw [up2_row _ _ _ _ q1]; exact hl q q1 q2) (fun k hk => ?_) (fun k hk => by rw [up2_row _ _ _ _ (by decide)]; exact hR k hk)⟩⟩
    rw [up2_any]
    by_cases hkj : k = j
    · rw [if_pos ⟨rfl, hkj⟩, hkj]
    · rw [if_neg (fun z => hkj z.2)]; exact hB k (by omega)
theorem cm_16 (hM : KM S) {n : Nat} (hT : Tn M 8 0 n) (h : ∀ M', Mc M M' → Q (S, M', some (.inl (cAns (eC M) n)))) : ∀ (d t : Nat) (M1 : Mem), t + d = n + 1 → Mc M M1 → (∀ k, k < n → M1 184 k = cW (eC M) n t k) → En 201 16 [some (.inr (.inr 173)), some (.inl (cL (cW (eC M) n t) n)), some (.inl (t : Int)), none, none, none] [] S M1 Q := by
  have hn8 := hT.1.1
  intro d
  induction d with
  | zero =>
    intro t M1 hd hl hB
    have e : t = n + 1 := by omega
    subst e
    apply r_X9_chain_16 hM
    have e0 : M1 174 (0 : Int).toNat = n := by rw [hl 174 (by decide) (by decide)]; exact hT.2.1.2.1
    have hh := h M1 hl
    unfold cAns at hh
    rw [e0]
    refine ⟨by decide, fun _ => ⟨by decide, fun z => ?_, fun z => ?_⟩, fun z => by omega⟩
    · rw [if_pos z] at hh; exact hh
    · rw [if_neg (by omega)] at hh; exact hh
  | succ d ih =>
    intro t M1 hd hl hB
    apply r_X9_chain_16 hM
    have e0 : M1 174 (0 : Int).toNat = n := by rw [hl 174 (by decide) (by decide)]; exact hT.2.1.2.1
    rw [e0]
    exact ⟨by decide, fun z => by omega, fun _ => cm_26 hM hT (by omega) (fun M2 l2 r2 => cm_82 hM hT (by omega) (fun M3 l3 b3 => ih (t + 1) M3 (by omega) l3 b3) n 0 M2 (by omega) l2 (fun k hk => by omega) r2) n 0 M1 (by omega) hl hB (fun k hk => by omega)⟩
theorem cm_2 (hM : KM S) {n : Nat} (hT : Tn M 8 0 n) (h : ∀ M', Mc M M' → Q (S, M', some (.inl (cAns (eC M) n)))) : ∀ (d i : Nat) (M1 : Mem), i + d = 8 → Mc M M1 → (∀ k, k < i → M1 184 k = 0) → En 201 2 [some (.inr (.inr 173)), some (.inl (i : Int)), none, none, none, none] [] S M1 Q := by
  have hn8 := hT.1.1
  intro d
  induction d with
  | zero =>
    intro i M1 hd hl h0
    apply r_X9_chain_2 hM
    refine ⟨fun _ => ?_, fun z => by omega⟩
    have := cm_16 hM hT h (n + 1) 0 M1 (by omega) hl (fun k hk => h0 k (by omega))
    have e : cL (cW (eC M) n 0) n = 0 := by
      have : ∀ m, cL (cW (eC M) n 0) m = 0 := fun m => by
        induction m with
        | zero => rfl
        | succ m ih => rw [cL, ih]; rfl
      exact this n
    rw [e] at this
    exact this
  | succ d ih =>
    intro i M1 hd hl h0
    apply r_X9_chain_2 hM
    rw [Int.toNat_natCast, show ((i : Int) + 1) = ((i + 1 : Nat) : Int) by omega]
    refine ⟨fun z => by omega, fun _ => ⟨by omega, by unfold inR; omega, ih (i + 1) _ (by omega) (fun q q1 q2 => by rw [up2_row _ _ _ _ q1]; exact hl q q1 q2) (fun k hk => ?_)⟩⟩
    rw [up2_any]
    split
    · rfl
    · rename_i z; exact h0 k (by omega)
theorem sim_chain (hS : KC S) (hM : KM S) (hR : Rel M) : Sim S M 120 201 [] := by
  obtain ⟨n, hT, -⟩ := id hR
  refine Sim.query2 hR (cAns (eC M) n) (fun Q h => ?_) (fun M1 s1 k1 hR1 Q h => ?_)
  · apply r_X8_chain_0 hS
    apply r_X0_longestChain_0 hS
    exact ch_2 hS hT (fun M' l' => ⟨_, _, rfl, h M' (Lc_same l').1 (Lc_same l').2⟩) n 0 M (by omega) (fun _ _ => rfl) (fun k hk => by omega)
  · have hT1 := Rel_n hT s1 hR1
    have e : eC M1 = eC M := by funext a b; unfold eC mD; rw [k1 180 (by decide)]
    apply r_X9_chain_0 hM
    refine cm_2 hM hT1 (fun M' l' => ?_) 8 0 M1 rfl (fun _ _ _ => rfl) (fun k hk => by omega)
    rw [e]
    exact h M' (Mc_same l')
end Chain
