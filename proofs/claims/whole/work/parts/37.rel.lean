/-! WHAT TIES THE CLASS TO THE REFERENCE between calls -/
/-- cells that a call may leave as it likes -/
def scr (q k : Nat) : Prop := (q = 5 ∧ 3 ≤ k) ∨ q = 7 ∨ (19 ≤ q ∧ q ≤ 29) ∨ (144 ≤ q ∧ q ≤ 167) ∨ (q = 172 ∧ (k = 2 ∨ k = 20 ∨ k = 23 ∨ k = 24)) ∨ (q = 174 ∧ 6 ≤ k) ∨ (q = 175 ∧ 8 ≤ k) ∨ (176 ≤ q ∧ q ≤ 178) ∨ (q = 179 ∧ 12 ≤ k) ∨ (q = 180 ∧ 1870 ≤ k) ∨ 183 ≤ q
def Same (M M' : Mem) : Prop := ∀ q k, ¬ scr q k → M' q k = M q k
theorem Same.refl (M : Mem) : Same M M := fun _ _ _ => rfl
theorem Same.trans {M M1 M2 : Mem} (h : Same M M1) (h2 : Same M1 M2) : Same M M2 := fun q k hq => (h2 q k hq).trans (h q k hq)
/-- a town of the class (its arrays T 1 .. T 10) against a slot -/
def TR (T : Nat → Nat → Int) (σ : Nat → Int) (n : Nat) : Prop :=
  n ≤ 8 ∧
  (∀ i, i < n → T 1 i = σ i ∧ 0 ≤ σ i ∧ σ i ≤ 6) ∧
  (∀ i k, i < n → ((k : Nat) : Int) < σ i → T 2 (6 * i + k) = σ (8 + 6 * i + k) ∧ 0 ≤ σ (8 + 6 * i + k) ∧ σ (8 + 6 * i + k) < 26) ∧
  (∀ i, i < n → T 4 i = σ (56 + i) ∧ 0 ≤ σ (56 + i)) ∧
  (sumB (fun _ => true) (fun i => σ (56 + i)) n ≤ 800) ∧
  (∀ i, i < n → (T 5 i = -4 ∧ σ (64 + i) = 0) ∨ (0 ≤ T 5 i ∧ T 5 i < n ∧ σ (64 + i) = T 5 i + 1)) ∧
  (∀ i, i < 8 → (i < n → T 6 i = σ (72 + i)) ∧ (σ (72 + i) = 0 ∨ σ (72 + i) = 1) ∧ (n ≤ i → σ (72 + i) = 0)) ∧
  (∀ i j, i < n → j < n → T 7 (8 * i + j) = σ (80 + 8 * j + i) ∧ 0 ≤ σ (80 + 8 * j + i) ∧ σ (80 + 8 * j + i) ≤ 999) ∧
  (∀ x, x < 26 → T 8 x = σ (144 + x)) ∧ gal (fun x => σ (144 + x)) ∧
  (∀ r, r < 26 → 0 ≤ T 9 r ∧ T 9 r < 26 ∧ T 8 (T 9 r).toNat = r)
/-- two letters quarrel, by the reference's pairs -/
def mQ (c p : Nat → Int) (x y : Nat) : Prop := ∃ k, k < (c 4).toNat ∧ ((p (2 * k) = x ∧ p (2 * k + 1) = y) ∨ (p (2 * k) = y ∧ p (2 * k + 1) = x))
/-- what no call but lay changes: T the town, c w p the reference's numbers, wants, pairs -/
def TC (T : Nat → Nat → Int) (c w p : Nat → Int) (n : Nat) : Prop :=
  (T 0 0 = n ∧ c 0 = n ∧ 1 ≤ n ∧ n ≤ 8) ∧
  (T 0 1 = c 1 ∧ 0 ≤ c 1 ∧ c 1 ≤ 99) ∧
  (T 0 2 = c 2 ∧ 0 ≤ c 2 ∧ c 2 ≤ 25) ∧
  (T 0 3 = c 3 ∧ 0 ≤ c 3 ∧ c 3 ≤ 9) ∧
  (T 0 4 = c 5 ∧ 0 ≤ c 5 ∧ c 5 < 67108864) ∧
  (∀ i, i < n → T 3 i = w i ∧ 0 ≤ w i ∧ w i ≤ 9) ∧
  (0 ≤ c 4 ∧ c 4 ≤ 6) ∧
  (∀ k, k < (c 4).toNat → (0 ≤ p (2 * k) ∧ p (2 * k) < 26) ∧ (0 ≤ p (2 * k + 1) ∧ p (2 * k + 1) < 26)) ∧
  (∀ x, x < 26 → 0 ≤ T 10 x ∧ T 10 x < 67108864) ∧
  (∀ x y, x < 26 → y < 26 → ((T 10 x).toNat.testBit y = true ↔ mQ c p x y))
theorem sumB_eq {p : Nat → Bool} {W V : Nat → Int} (m : Nat) (h : ∀ k, k < m → W k = V k) : sumB p W m = sumB p V m := sumB_congr m (fun k hk => ⟨rfl, h k hk⟩)
theorem TR_congr {T T' : Nat → Nat → Int} {σ σ' : Nat → Int} {n : Nat} (hT : ∀ j, j ≤ 10 → ∀ k, k < tlen j → T' j k = T j k) (hs : ∀ k, k < 170 → σ' k = σ k) (h : TR T σ n) : TR T' σ' n := by
  obtain ⟨h0, h1, h2, h3, h4, h5, h6, h7, h8, h9, h10⟩ := h
  have eT1 : ∀ k, k < 8 → T' 1 k = T 1 k := fun k hk => hT 1 (by decide) k hk
  have eT2 : ∀ k, k < 48 → T' 2 k = T 2 k := fun k hk => hT 2 (by decide) k hk
  have eT4 : ∀ k, k < 8 → T' 4 k = T 4 k := fun k hk => hT 4 (by decide) k hk
  have eT5 : ∀ k, k < 8 → T' 5 k = T 5 k := fun k hk => hT 5 (by decide) k hk
  have eT6 : ∀ k, k < 8 → T' 6 k = T 6 k := fun k hk => hT 6 (by decide) k hk
  have eT7 : ∀ k, k < 64 → T' 7 k = T 7 k := fun k hk => hT 7 (by decide) k hk
  have eT8 : ∀ k, k < 26 → T' 8 k = T 8 k := fun k hk => hT 8 (by decide) k hk
  have eT9 : ∀ k, k < 26 → T' 9 k = T 9 k := fun k hk => hT 9 (by decide) k hk
  have eg : ∀ x, x < 26 → σ' (144 + x) = σ (144 + x) := fun x hx => hs _ (by omega)
  refine ⟨h0, fun i hi => ?_, fun i k hi hk => ?_, fun i hi => ?_, ?_, fun i hi => ?_, fun i hi => ?_, fun i j hi hj => ?_, fun x hx => ?_, ⟨fun x hx => ?_, fun x y hx hy he => ?_⟩, fun r hr => ?_⟩
  · rw [eT1 i (by omega), hs i (by omega)]; exact h1 i hi
  · rw [hs i (by omega)] at hk
    have := (h1 i hi).2
    rw [eT2 _ (by omega), hs _ (by omega)]; exact h2 i k hi hk
  · rw [eT4 i (by omega), hs _ (by omega)]; exact h3 i hi
  · rw [sumB_eq n (fun k hk => hs (56 + k) (by omega))]; exact h4
  · rw [eT5 i (by omega), hs _ (by omega)]; exact h5 i hi
  · rw [eT6 i hi, hs _ (by omega)]; exact h6 i hi
  · rw [eT7 _ (by omega), hs _ (by omega)]; exact h7 i j hi hj
  · rw [eT8 x hx, eg x hx]; exact h8 x hx
  · show 0 ≤ σ' (144 + x) ∧ σ' (144 + x) < 26
    rw [eg x hx]; exact h9.1 x hx
  · have he' : σ' (144 + x) = σ' (144 + y) := he
    rw [eg x hx, eg y hy] at he'
    exact h9.2 x y hx hy he'
  · have := h10 r hr
    rw [eT9 r hr, eT8 _ (by omega)]; exact this
theorem mQ_congr {c c' p p' : Nat → Int} (h4 : c' 4 = c 4) (hc : 0 ≤ c 4 ∧ c 4 ≤ 6) (hp : ∀ k, k < 12 → p' k = p k) (x y : Nat) : mQ c' p' x y ↔ mQ c p x y := by
  unfold mQ
  rw [h4]
  constructor
  · rintro ⟨k, hk, h⟩; exact ⟨k, hk, by rw [hp _ (by omega), hp _ (by omega)] at h; exact h⟩
  · rintro ⟨k, hk, h⟩; exact ⟨k, hk, by rw [hp _ (by omega), hp _ (by omega)]; exact h⟩
theorem TC_congr {T T' : Nat → Nat → Int} {c c' w w' p p' : Nat → Int} {n : Nat} (hT : ∀ j, j ≤ 10 → ∀ k, k < tlen j → T' j k = T j k) (hc : ∀ k, k < 6 → c' k = c k) (hw : ∀ k, k < 8 → w' k = w k) (hp : ∀ k, k < 12 → p' k = p k) (h : TC T c w p n) : TC T' c' w' p' n := by
  obtain ⟨h0, h1, h2, h3, h4, h5, h6, h7, h8, h9⟩ := h
  have e0 : ∀ k, k < 5 → T' 0 k = T 0 k := fun k hk => hT 0 (by decide) k hk
  have e3 : ∀ k, k < 8 → T' 3 k = T 3 k := fun k hk => hT 3 (by decide) k hk
  have e10 : ∀ k, k < 26 → T' 10 k = T 10 k := fun k hk => hT 10 (by decide) k hk
  refine ⟨by rw [e0 0 (by decide), hc 0 (by decide)]; exact h0, by rw [e0 1 (by decide), hc 1 (by decide)]; exact h1, by rw [e0 2 (by decide), hc 2 (by decide)]; exact h2, by rw [e0 3 (by decide), hc 3 (by decide)]; exact h3, by rw [e0 4 (by decide), hc 5 (by decide)]; exact h4, fun i hi => ?_, by rw [hc 4 (by decide)]; exact h6, fun k hk => ?_, fun x hx => ?_, fun x y hx hy => ?_⟩
  · rw [e3 i (by omega), hw i (by omega)]; exact h5 i hi
  · rw [hc 4 (by decide)] at hk
    rw [hp _ (by omega), hp _ (by omega)]; exact h7 k hk
  · rw [e10 x hx]; exact h8 x hx
  · rw [e10 x hx, mQ_congr (hc 4 (by decide)) h6 hp]; exact h9 x y hx hy
/-- a town of the class against a slot of the reference -/
def Tn (M : Mem) (t s n : Nat) : Prop := TR (fun j k => M (t + j) k) (fun k => M 180 (170 * s + k)) n ∧ TC (fun j k => M (t + j) k) (M 174) (M 175) (M 179) n
theorem Tn_congr {M M' : Mem} {t t' s s' n : Nat} (hT : ∀ j, j ≤ 10 → ∀ k, k < tlen j → M' (t' + j) k = M (t + j) k) (hs : ∀ k, k < 170 → M' 180 (170 * s' + k) = M 180 (170 * s + k)) (hc : ∀ k, k < 6 → M' 174 k = M 174 k) (hw : ∀ k, k < 8 → M' 175 k = M 175 k) (hp : ∀ k, k < 12 → M' 179 k = M 179 k) (h : Tn M t s n) : Tn M' t' s' n :=
  ⟨TR_congr hT hs h.1, TC_congr hT hc hw hp h.2⟩
def undoT : List Nat := [32, 43, 54, 65, 76, 87, 98, 109]
/-- towns that have been -/
def Undo (M : Mem) (n : Nat) : Prop := ∃ h : Nat, h ≤ 8 ∧ M 30 1 = h ∧ M 172 11 = h ∧ (∀ k, k < 8 → ∃ t, t ∈ undoT ∧ M 31 k = ((t + 1 : Nat) : Int)) ∧ (∀ a b, a < 8 → b < 8 → M 31 a = M 31 b → a = b) ∧ ∀ k t, k < h → M 31 k = ((t + 1 : Nat) : Int) → Tn M t (3 + k) n
def keptT (k : Nat) : Nat := 122 + 11 * k
def Kept (M : Mem) (n : Nat) : Prop := ∃ h : Nat, h ≤ 2 ∧ M 120 1 = h ∧ M 172 10 = h ∧ (∀ k, k < 2 → M 121 k = ((keptT k + 1 : Nat) : Int)) ∧ ∀ k, k < h → Tn M (keptT k) (1 + k) n
def Text (M : Mem) : Prop := ∃ h : Nat, h ≤ 200 ∧ M 5 2 = h ∧ M 172 0 = h ∧ ∀ k, k < h → M 6 k = M 173 k ∧ 32 ≤ M 173 k ∧ M 173 k ≤ 126
def Word (M : Mem) : Prop := ∃ h : Nat, h ≤ 6 ∧ M 4 11 = h ∧ M 172 12 = h ∧ ∀ k, k < h → M 171 k = M 181 k ∧ 0 ≤ M 181 k ∧ M 181 k < 26
def Ledg (M : Mem) : Prop := ∃ h : Nat, h ≤ 8 ∧ M 168 2 = h ∧ M 172 14 = h ∧ ∀ k, k < h → (M 169 k = M 182 (2 * k) ∧ 0 ≤ M 182 (2 * k) ∧ M 182 (2 * k) < 26) ∧ (M 170 k = M 182 (2 * k + 1) ∧ 0 ≤ M 182 (2 * k + 1) ∧ M 182 (2 * k + 1) ≤ 9)
def Rel (M : Mem) : Prop := ∃ n, Tn M 8 0 n ∧ Undo M n ∧ Kept M n ∧ Text M ∧ Word M ∧ Ledg M
theorem undoT_in : ∀ t, t ∈ undoT → 32 ≤ t ∧ t ≤ 109 ∧ t ∈ bx_tw := by decide
theorem Tn_same {M M' : Mem} (h : Same M M') {t s n : Nat} (ht : (8 ≤ t ∧ t + 10 ≤ 18) ∨ (32 ≤ t ∧ t + 10 ≤ 143)) (hs : s < 11) (hT : Tn M t s n) : Tn M' t s n :=
  Tn_congr (fun j hj k _ => h _ _ (by unfold scr; omega)) (fun k hk => h _ _ (by unfold scr; omega)) (fun k hk => h _ _ (by unfold scr; omega)) (fun k hk => h _ _ (by unfold scr; omega)) (fun k hk => h _ _ (by unfold scr; omega)) hT
theorem Rel_same {M M' : Mem} (h : Same M M') (hR : Rel M) : Rel M' := by
  have e : ∀ q k, ¬ scr q k → M' q k = M q k := h
  obtain ⟨n, h1, ⟨u, u1, u2, u3, u4, u5, u6⟩, ⟨v, v1, v2, v3, v4, v5⟩, ⟨x, x1, x2, x3, x4⟩, ⟨w, w1, w2, w3, w4⟩, ⟨l, l1, l2, l3, l4⟩⟩ := hR
  refine ⟨n, Tn_same h (by omega) (by decide) h1, ⟨u, u1, ?_, ?_, fun k hk => ?_, fun a b ha hb hab => ?_, fun k t hk ht => ?_⟩, ⟨v, v1, ?_, ?_, fun k hk => ?_, fun k hk => ?_⟩, ⟨x, x1, ?_, ?_, fun k hk => ?_⟩, ⟨w, w1, ?_, ?_, fun k hk => ?_⟩, ⟨l, l1, ?_, ?_, fun k hk => ?_⟩⟩
  · rw [e _ _ (by unfold scr; omega)]; exact u2
  · rw [e _ _ (by unfold scr; omega)]; exact u3
  · rw [e _ _ (by unfold scr; omega)]; exact u4 k hk
  · rw [e _ _ (by unfold scr; omega), e _ _ (by unfold scr; omega)] at hab; exact u5 a b ha hb hab
  · rw [e _ _ (by unfold scr; omega)] at ht
    obtain ⟨t', ht', he⟩ := u4 k (by omega)
    have : t' = t := by rw [ht] at he; omega
    subst this
    have := undoT_in t' ht'
    exact Tn_same h (by omega) (by omega) (u6 k t' hk ht)
  · rw [e _ _ (by unfold scr; omega)]; exact v2
  · rw [e _ _ (by unfold scr; omega)]; exact v3
  · rw [e _ _ (by unfold scr; omega)]; exact v4 k hk
  · exact Tn_same h (by unfold keptT; omega) (by omega) (v5 k hk)
  · rw [e _ _ (by unfold scr; omega)]; exact x2
  · rw [e _ _ (by unfold scr; omega)]; exact x3
  · rw [e 6 _ (by unfold scr; omega), e 173 _ (by unfold scr; omega)]; exact x4 k hk
  · rw [e _ _ (by unfold scr; omega)]; exact w2
  · rw [e _ _ (by unfold scr; omega)]; exact w3
  · rw [e 171 _ (by unfold scr; omega), e 181 _ (by unfold scr; omega)]; exact w4 k hk
  · rw [e _ _ (by unfold scr; omega)]; exact l2
  · rw [e _ _ (by unfold scr; omega)]; exact l3
  · rw [e 169 _ (by unfold scr; omega), e 170 _ (by unfold scr; omega), e 182 _ (by unfold scr; omega), e 182 _ (by unfold scr; omega)]; exact l4 k hk
