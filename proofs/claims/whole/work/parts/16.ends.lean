/-! THE INTERPRETER's RUNS put together: more fuel does no harm; 'comes to an end with' -/
theorem be_heap {k k' : Nat → Lcl → List AV → Shp → Mem → Option Res} (hk : ∀ i L st S M r, k i L st S M = some r → k' i L st S M = some r) {op a b i : Nat} {L : Lcl} {st : List AV} {S : Shp} {M : Mem} {r : Res} (h : bi_heap k op a b i L st S M = some r) : bi_heap k' op a b i L st S M = some r := by
  unfold bi_heap at h
  split at h <;> first
    | cases h
    | (split at h <;> first
        | cases h
        | (rename_i hS; obtain ⟨h1, h⟩ := bi_iteO h; simp only [bi_heap, hS]; rw [if_pos h1]; exact hk _ _ _ _ _ _ h)
        | (rename_i hS hS2; obtain ⟨h1, h⟩ := bi_iteO h; simp only [bi_heap, hS, hS2]; rw [if_pos h1]; exact hk _ _ _ _ _ _ h))
theorem be_step {k k' : Nat → Lcl → List AV → Shp → Mem → Option Res} {cl cl' : Nat → List AV → Option Res} (hk : ∀ i L st S M r, k i L st S M = some r → k' i L st S M = some r) (hc : ∀ m as r, cl m as = some r → cl' m as = some r) {ins : Ins} {i : Nat} {L : Lcl} {st : List AV} {S : Shp} {M : Mem} {r : Res} (h : bi_step k cl ins i L st S M = some r) : bi_step k' cl' ins i L st S M = some r := by
  unfold bi_step at h
  split at h <;> first
    | exact hk _ _ _ _ _ _ h
    | (split at h <;> first
        | cases h
        | exact hk _ _ _ _ _ _ h
        | (rename_i hv; simp only [bi_step, hv]; exact hk _ _ _ _ _ _ h)
        | (obtain ⟨h1, h⟩ := bi_iteO h; simp only [bi_step]; rw [if_pos h1]; exact hk _ _ _ _ _ _ h)
        | (rename_i hv; obtain ⟨h1, h⟩ := bi_iteO h; simp only [bi_step, hv]; rw [if_pos h1]; exact hk _ _ _ _ _ _ h)
        | (split at h <;> first
            | cases h
            | (rename_i hv; simp only [bi_step]; rw [if_pos hv]; exact hk _ _ _ _ _ _ h)
            | (rename_i hv; simp only [bi_step]; rw [if_neg hv]; exact hk _ _ _ _ _ _ h)
            | (rename_i hv; simp only [bi_step, hv]; exact hk _ _ _ _ _ _ h)
            | (rename_i hv hv2; obtain ⟨h1, h⟩ := bi_iteO h; simp only [bi_step, hv, hv2]; rw [if_pos h1]; exact hk _ _ _ _ _ _ h))
        | exact h)
    | (obtain ⟨h1, h⟩ := bi_iteO h
       split at h
       · rename_i hv
         simp only [bi_step]
         rw [if_pos h1, hc _ _ _ hv]
         exact hk _ _ _ _ _ _ h
       · cases h)
    | skip
  · rename_i hv
    simp only [bi_step]
    rw [if_pos hv]
  · rfl
  · rfl
  · rename_i ins a b c l hne
    cases a with
    | zero => exact absurd rfl hne
    | succ a => exact hk _ _ _ _ _ _ h
  · have h2 := be_heap hk h
    unfold bi_step
    split <;> first
      | exact h2
      | (rename_i q; cases q; exact h2)
      | (exfalso; simp_all; done)
theorem be_mono1 : ∀ (n m i : Nat) (L : Lcl) (st : List AV) (S : Shp) (M : Mem) (r : Res), bi_exec PR n m i L st S M = some r → bi_exec PR (n + 1) m i L st S M = some r := by
  intro n
  induction n with
  | zero => intro m i L st S M r h; cases h
  | succ n ih =>
    intro m i L st S M r h
    unfold bi_exec at h
    split at h
    · rename_i ins hins
      have h2 := be_step (k' := bi_exec PR (n + 1) m) (cl' := fun m' as => if bi_cats as ≤ (PR m').2 then bi_exec PR (n + 1) m' 0 (bi_entry (PR m').2 as) [] S M else none) (fun i L st S M r h => ih m i L st S M r h) (fun m' as r h => by
        obtain ⟨h1, h⟩ := bi_iteO h
        show (if _ then _ else none) = some r
        rw [if_pos h1]
        exact ih _ _ _ _ _ _ _ h) h
      rw [bi_exec, hins]
      exact h2
    · cases h
theorem be_mono (k : Nat) {n m i : Nat} {L : Lcl} {st : List AV} {S : Shp} {M : Mem} {r : Res} (h : bi_exec PR n m i L st S M = some r) : bi_exec PR (n + k) m i L st S M = some r := by
  induction k with
  | zero => exact h
  | succ k ih => exact be_mono1 _ _ _ _ _ _ _ _ ih
/-- from a place in a method the run comes to an end that is so -/
def En (m i : Nat) (L : Lcl) (st : List AV) (S : Shp) (M : Mem) (Q : Res → Prop) : Prop := ∃ n r, bi_exec PR n m i L st S M = some r ∧ Q r
/-- a call comes back so -/
def Ca (m : Nat) (as : List AV) (S : Shp) (M : Mem) (Q : Res → Prop) : Prop := bi_cats as ≤ (PR m).2 ∧ En m 0 (bi_entry (PR m).2 as) [] S M Q
