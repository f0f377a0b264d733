/-! CHAINS: the longest walk by at most t debts; what a fixed point says -/
def cmx (E : Nat → Nat → Bool) (f : Nat → Int) (j : Nat) : Nat → Int
  | 0 => 0
  | i + 1 => if E j i = true ∧ cmx E f j i < f i + 1 then f i + 1 else cmx E f j i
def cW (E : Nat → Nat → Bool) (n : Nat) : Nat → (Nat → Int)
  | 0 => fun _ => 0
  | t + 1 => fun j => cmx E (cW E n t) j n
def cL (f : Nat → Int) : Nat → Int
  | 0 => 0
  | j + 1 => if cL f j < f j then f j else cL f j
theorem cmx_nn {E : Nat → Nat → Bool} {f : Nat → Int} {j : Nat} : ∀ m, 0 ≤ cmx E f j m ∨ ∃ i, i < m ∧ f i < 0 := by
  intro m
  induction m with
  | zero => exact Or.inl (Int.le_refl 0)
  | succ m ih =>
    rw [cmx]
    split
    · by_cases h : f m < 0
      · exact Or.inr ⟨m, by omega, h⟩
      · exact Or.inl (by omega)
    · rcases ih with q | ⟨i, hi, q⟩
      · exact Or.inl q
      · exact Or.inr ⟨i, by omega, q⟩
theorem cmx_ge {E : Nat → Nat → Bool} {f : Nat → Int} {j i : Nat} (hE : E j i = true) : ∀ m, i < m → f i + 1 ≤ cmx E f j m := by
  intro m
  induction m with
  | zero => intro h; omega
  | succ m ih =>
    intro h
    rw [cmx]
    by_cases him : i = m
    · subst him
      split
      · omega
      · rename_i z
        have : ¬ cmx E f j i < f i + 1 := fun q => z ⟨hE, q⟩
        omega
    · have := ih (by omega)
      split <;> omega
theorem cmx_is {E : Nat → Nat → Bool} {f : Nat → Int} {j : Nat} : ∀ m, cmx E f j m = 0 ∨ ∃ i, i < m ∧ E j i = true ∧ cmx E f j m = f i + 1 := by
  intro m
  induction m with
  | zero => exact Or.inl rfl
  | succ m ih =>
    rw [cmx]
    split
    · rename_i z; exact Or.inr ⟨m, by omega, z.1, rfl⟩
    · rcases ih with q | ⟨i, hi, q, q2⟩
      · exact Or.inl q
      · exact Or.inr ⟨i, by omega, q, q2⟩
theorem cmx_0 {E : Nat → Nat → Bool} {f : Nat → Int} {j : Nat} : ∀ m, 0 ≤ cmx E f j m := by
  intro m
  induction m with
  | zero => exact Int.le_refl 0
  | succ m ih => rw [cmx]; split; omega; exact ih
theorem cW_in {E : Nat → Nat → Bool} {n : Nat} : ∀ t j, 0 ≤ cW E n t j ∧ cW E n t j ≤ t := by
  intro t
  induction t with
  | zero => intro j; exact ⟨Int.le_refl 0, Int.le_refl 0⟩
  | succ t ih =>
    intro j
    refine ⟨cmx_0 n, ?_⟩
    rcases cmx_is (E := E) (f := cW E n t) (j := j) n with q | ⟨i, hi, hE, q⟩
    · show cmx E (cW E n t) j n ≤ _
      omega
    · have := ih i
      show cmx E (cW E n t) j n ≤ _
      omega
theorem cW_E {E : Nat → Nat → Bool} {n t j i : Nat} (hi : i < n) (hE : E j i = true) : cW E n t i + 1 ≤ cW E n (t + 1) j := cmx_ge hE n hi
theorem cW_pre {E : Nat → Nat → Bool} {n : Nat} {B : Nat → Int} (h0 : ∀ i, i < n → 0 ≤ B i) (hB : ∀ i j, i < n → j < n → E i j = true → B j + 1 ≤ B i) : ∀ t j, j < n → cW E n t j ≤ B j := by
  intro t
  induction t with
  | zero => intro j hj; exact h0 j hj
  | succ t ih =>
    intro j hj
    show cmx E (cW E n t) j n ≤ B j
    rcases cmx_is (E := E) (f := cW E n t) (j := j) n with q | ⟨i, hi, hE, q⟩
    · rw [q]; exact h0 j hj
    · have a := ih i hi
      have b := hB j i hj hi hE
      omega
theorem cW_mono {E : Nat → Nat → Bool} {n : Nat} : ∀ t j, j < n → cW E n t j ≤ cW E n (t + 1) j := by
  intro t
  induction t with
  | zero => intro j hj; exact (cW_in 1 j).1
  | succ t ih =>
    intro j hj
    show cmx E (cW E n t) j n ≤ cmx E (cW E n (t + 1)) j n
    rcases cmx_is (E := E) (f := cW E n t) (j := j) n with q | ⟨i, hi, hE, q⟩
    · rw [q]; exact cmx_0 n
    · have a := ih i hi
      have b := cmx_ge (f := cW E n (t + 1)) hE n hi
      omega
theorem cW_step {E : Nat → Nat → Bool} {n : Nat} : ∀ t j, j < n → cW E n (t + 1) j = cW E n t j ∨ cW E n (t + 1) j = t + 1 := by
  intro t
  induction t with
  | zero =>
    intro j hj
    have := cW_in (E := E) (n := n) (0 + 1) j
    have e : cW E n 0 j = 0 := rfl
    omega
  | succ t ih =>
    intro j hj
    rcases cmx_is (E := E) (f := cW E n (t + 1)) (j := j) n with q | ⟨i, hi, hE, q⟩
    · left
      have a := cW_mono (E := E) (n := n) (t + 1) j hj
      have b := (cW_in (E := E) (n := n) (t + 1) j).1
      have c : cW E n (t + 1 + 1) j = 0 := q
      omega
    · have c : cW E n (t + 1 + 1) j = cW E n (t + 1) i + 1 := q
      rcases ih i hi with r | r
      · left
        have a := cW_mono (E := E) (n := n) (t + 1) j hj
        have b := cW_E (n := n) (t := t) hi hE
        omega
      · right
        omega
theorem cL_ge {f : Nat → Int} : ∀ m j, j < m → f j ≤ cL f m := by
  intro m
  induction m with
  | zero => intro j h; omega
  | succ m ih =>
    intro j h
    rw [cL]
    by_cases hj : j = m
    · subst hj; split <;> omega
    · have := ih j (by omega)
      split <;> omega
theorem cL_0 {f : Nat → Int} : ∀ m, 0 ≤ cL f m := by
  intro m
  induction m with
  | zero => exact Int.le_refl 0
  | succ m ih => rw [cL]; split; omega; exact ih
theorem cL_congr {f g : Nat → Int} : ∀ m, (∀ j, j < m → f j = g j) → cL f m = cL g m := by
  intro m
  induction m with
  | zero => intro _; rfl
  | succ m ih => intro h; rw [cL, cL, ih (fun j hj => h j (by omega)), h m (by omega)]
theorem cL_lt {f : Nat → Int} {b : Int} (hb : 0 < b) : ∀ m, (∀ j, j < m → f j < b) → cL f m < b := by
  intro m
  induction m with
  | zero => intro _; exact hb
  | succ m ih => intro h; rw [cL]; split; exact h m (by omega); exact ih (fun j hj => h j (by omega))
/-- fewer than n: then all is reached behind n - 1 steps -/
theorem cW_fix {E : Nat → Nat → Bool} {n : Nat} (hn : 1 ≤ n) (h : cL (cW E n (n + 1)) n < n) : ∀ j, j < n → cW E n (n + 1) j = cW E n (n - 1) j ∧ cW E n n j = cW E n (n - 1) j := by
  intro j hj
  have a := cL_ge (f := cW E n (n + 1)) n j hj
  have b := cW_mono (E := E) (n := n) n j hj
  have c : cW E n (n + 1) j = cW E n n j := by
    rcases cW_step (E := E) (n := n) n j hj with q | q
    · exact q
    · omega
  have e : n - 1 + 1 = n := by omega
  have d := cW_step (E := E) (n := n) (n - 1) j hj
  rw [e] at d
  rcases d with q | q
  · exact ⟨by omega, q⟩
  · omega
theorem pig : ∀ (n : Nat) (B : Nat → Int) (v : Nat), (∀ u : Nat, u ≤ v → ∃ i, i < n ∧ B i = (u : Int)) → v < n := by
  intro n
  induction n with
  | zero =>
    intro B v h
    obtain ⟨i, hi, -⟩ := h 0 (by omega)
    omega
  | succ n ih =>
    intro B v h
    by_cases hv : v = 0
    · omega
    · have := ih (fun i => if B n < B i then B i - 1 else B i) (v - 1) (fun u hu => by
        by_cases hc : (u : Int) < B n
        · obtain ⟨i, hi, e⟩ := h u (by omega)
          refine ⟨i, ?_, ?_⟩
          · by_cases hin : i = n
            · subst hin; omega
            · omega
          · show (if B n < B i then B i - 1 else B i) = _
            rw [if_neg (by omega)]; exact e
        · obtain ⟨i, hi, e⟩ := h (u + 1) (by omega)
          refine ⟨i, ?_, ?_⟩
          · by_cases hin : i = n
            · subst hin; omega
            · omega
          · show (if B n < B i then B i - 1 else B i) = _
            rw [if_pos (by omega)]; omega)
      omega
/-- what is reached by debts only -/
def cJ (E : Nat → Nat → Bool) (n : Nat) (B : Nat → Int) : Prop := ∀ i, i < n → 0 ≤ B i ∧ (B i = 0 ∨ ∃ j, j < n ∧ E i j = true ∧ B i ≤ B j + 1)
def cF (E : Nat → Nat → Bool) (n : Nat) (B : Nat → Int) : Prop := ∀ i j, i < n → j < n → E i j = true → B j + 1 ≤ B i
theorem cJ_lt {E : Nat → Nat → Bool} {n : Nat} {B : Nat → Int} (hJ : cJ E n B) (hF : cF E n B) {i : Nat} (hi : i < n) : B i < n := by
  have down : ∀ d i : Nat, i < n → ∀ u : Nat, B i = (u : Int) + d → ∃ k, k < n ∧ B k = (u : Int) := by
    intro d
    induction d with
    | zero => intro i hi u hu; exact ⟨i, hi, by omega⟩
    | succ d ih =>
      intro i hi u hu
      rcases (hJ i hi).2 with q | ⟨j, hj, hE, q⟩
      · omega
      · have := hF i j hi hj hE
        exact ih j hj u (by omega)
  have h0 := (hJ i hi).1
  have := pig n B (B i).toNat (fun u hu => down ((B i).toNat - u) i hi u (by omega))
  omega
