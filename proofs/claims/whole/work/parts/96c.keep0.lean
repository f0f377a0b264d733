/-! NOTHING WRITES THE SCRIPT -/
def J0 (S : Shp) (M : Mem) (r : Res) : Prop := 4 ≤ S.length → r.2.1 0 = M 0 ∧ S.length ≤ r.1.length
theorem j0_up {S : Shp} {M : Mem} {r : Res} {q b : Nat} {v : Int} (hq : 4 ≤ q) (h : J0 S (up2 M q b v) r) : J0 S M r := fun h4 => by
  have := h h4
  rw [up2_row _ _ _ _ (by omega)] at this
  exact this
theorem j0_set {S : Shp} {M : Mem} {r : Res} {q : Nat} {x : Nat × Nat × List Nat} (h : J0 (S.set q x) M r) : J0 S M r := fun h4 => by
  have := h (by rw [List.length_set]; exact h4)
  rw [List.length_set] at this
  exact this
theorem j0_new {S : Shp} {M : Mem} {r : Res} {x : Nat × Nat × List Nat} (h : J0 (S ++ [x]) (fun q j => if q = S.length then 0 else M q j) r) : J0 S M r := fun h4 => by
  have := h (by rw [List.length_append]; omega)
  refine ⟨this.1.trans ?_, ?_⟩
  · funext j
    show (if 0 = S.length then 0 else M 0 j) = M 0 j
    rw [if_neg (by omega)]
  · have q := this.2
    rw [List.length_append] at q
    omega
theorem j0_cpy {S : Shp} {M : Mem} {r : Res} {a sp b dp n : Nat} (hb : 4 ≤ b) (h : J0 S (bi_cpy M a sp b dp n) r) : J0 S M r := fun h4 => by
  have := h h4
  rw [bi_cpy_ne _ _ _ _ _ _ 0 (by omega)] at this
  exact this
theorem j0_heap {k : Nat → Lcl → List AV → Shp → Mem → Option Res} (hk : ∀ i L st S M r, k i L st S M = some r → J0 S M r) {op a b i : Nat} {L : Lcl} {st : List AV} {S : Shp} {M : Mem} {r : Res} (h : bi_heap k op a b i L st S M = some r) : J0 S M r := by
  unfold bi_heap at h
  split at h <;> first
    | cases h
    | (split at h <;> first
        | cases h
        | (obtain ⟨h1, h⟩ := bi_iteO h
           have := hk _ _ _ _ _ _ h
           first
             | exact this
             | exact j0_up h1.2.2 this
             | exact j0_up h1.2.2.1 this
             | exact j0_set this))
theorem j0_step {k : Nat → Lcl → List AV → Shp → Mem → Option Res} {cl : Nat → List AV → Option Res} {ins : Ins} {i : Nat} {L : Lcl} {st : List AV} {S : Shp} {M : Mem} {r : Res} (hk : ∀ i L st S M r, k i L st S M = some r → J0 S M r) (hc : ∀ m as r, cl m as = some r → J0 S M r) (h : bi_step k cl ins i L st S M = some r) : J0 S M r := by
  unfold bi_step at h
  split at h <;> first
    | exact hk _ _ _ _ _ _ h
    | exact j0_new (hk _ _ _ _ _ _ h)
    | exact j0_heap hk h
    | (split at h <;> first
        | (cases h; done)
        | (cases h; exact fun _ => ⟨rfl, Nat.le_refl _⟩)
        | exact hk _ _ _ _ _ _ h
        | exact j0_new (hk _ _ _ _ _ _ h)
        | (obtain ⟨h1, h⟩ := bi_iteO h
           first
             | exact hk _ _ _ _ _ _ h
             | exact j0_new (hk _ _ _ _ _ _ h)
             | exact j0_cpy h1.2.2.2.2.2.2.1 (hk _ _ _ _ _ _ h))
        | (obtain ⟨h1, h⟩ := bi_ite h
           subst h
           exact fun _ => ⟨rfl, Nat.le_refl _⟩)
        | (split at h <;> first
            | cases h
            | exact hk _ _ _ _ _ _ h
            | exact j0_new (hk _ _ _ _ _ _ h)
            | (obtain ⟨h1, h⟩ := bi_iteO h
               first
                 | exact hk _ _ _ _ _ _ h
                 | exact j0_new (hk _ _ _ _ _ _ h)
                 | exact j0_cpy h1.2.2.2.2.2.2.1 (hk _ _ _ _ _ _ h))))
    | (obtain ⟨h1, h⟩ := bi_iteO h
       split at h
       · rename_i hv
         intro h4
         have a := hc _ _ _ hv h4
         have b := hk _ _ _ _ _ _ h (Nat.le_trans h4 a.2)
         exact ⟨b.1.trans a.1, Nat.le_trans a.2 b.2⟩
       · cases h)
theorem j0_exec : ∀ (n m i : Nat) (L : Lcl) (st : List AV) (S : Shp) (M : Mem) (r : Res), bi_exec PR n m i L st S M = some r → J0 S M r := by
  intro n
  induction n with
  | zero => intro m i L st S M r h; cases h
  | succ n ih =>
    intro m i L st S M r h
    unfold bi_exec at h
    split at h
    · refine j0_step (fun i L st S M r h => ih m i L st S M r h) (fun m' as r h => ?_) h
      obtain ⟨h1, h⟩ := bi_iteO h
      exact ih _ _ _ _ _ _ _ h
    · cases h
theorem Ca.keep0 {m : Nat} {as : List AV} {S : Shp} {M : Mem} {Q : Res → Prop} (h : Ca m as S M Q) (h4 : 4 ≤ S.length) : Ca m as S M (fun r => Q r ∧ r.2.1 0 = M 0) := by
  obtain ⟨h1, n, r, h2, h3⟩ := h
  exact ⟨h1, n, r, h2, h3, (j0_exec _ _ _ _ _ _ _ _ h2 h4).1⟩
