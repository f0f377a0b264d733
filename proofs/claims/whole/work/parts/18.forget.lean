/-! MORE KNOWN LOCALS do no harm; small rows for the walks -/
def le_L : Lcl → Lcl → Prop
  | [], [] => True
  | a :: l, b :: m => (a = none ∨ a = b) ∧ le_L l m
  | _, _ => False
theorem le_len : ∀ {L L' : Lcl}, le_L L L' → L.length = L'.length
  | [], [], _ => rfl
  | _ :: _, _ :: _, h => by simp [le_len h.2]
theorem le_get : ∀ {L L' : Lcl}, le_L L L' → ∀ (k : Nat) (v : AV), L[k]? = some (some v) → L'[k]? = some (some v)
  | [], [], _, k, v, hk => by simp at hk
  | a :: l, b :: m, h, 0, v, hk => by
    simp at hk
    rcases h.1 with q | q
    · rw [q] at hk; cases hk
    · rw [← q, hk]; rfl
  | a :: l, b :: m, h, k + 1, v, hk => by
    have := le_get h.2 k v (by simpa using hk)
    simpa using this
theorem le_mk : ∀ {L L' : Lcl}, L.length = L'.length → (∀ (k : Nat) (v : AV), L[k]? = some (some v) → L'[k]? = some (some v)) → le_L L L'
  | [], [], _, _ => trivial
  | a :: l, b :: m, hl, h => by
    refine ⟨?_, le_mk (by simpa using hl) (fun k v hk => by have := h (k + 1) v (by simpa using hk); simpa using this)⟩
    cases a with
    | none => exact Or.inl rfl
    | some v => have := h 0 v rfl; simp at this; exact Or.inr this.symm
theorem clr_get {L : Lcl} {a k : Nat} {v : AV} : (bi_clr L a)[k]? = some (some v) ↔ L[k]? = some (some v) ∧ ¬ (k + 1 = a ∧ bi_isL (some (some v)) = true) := by
  unfold bi_clr
  split
  · exact ⟨fun h => ⟨h, fun q => by omega⟩, fun h => h.1⟩
  · rename_i j
    split
    · rename_i hL
      by_cases hk : k = j
      · subst hk
        constructor
        · intro h
          rw [List.getElem?_set] at h
          split at h
          · split at h <;> cases h
          · rename_i q; exact absurd rfl q
        · intro ⟨h1, h2⟩
          rw [h1] at hL
          exact absurd ⟨rfl, hL⟩ h2
      · rw [List.getElem?_set_ne (fun z => hk z.symm)]
        exact ⟨fun h => ⟨h, fun q => by omega⟩, fun h => h.1⟩
    · rename_i hL
      refine ⟨fun h => ⟨h, fun q => ?_⟩, fun h => h.1⟩
      have : k = j := by omega
      subst this
      rw [h] at hL
      exact hL q.2
theorem clr_len (L : Lcl) (a : Nat) : (bi_clr L a).length = L.length := by
  unfold bi_clr
  split
  · rfl
  · split <;> simp
theorem le_st1 {L L' : Lcl} (h : le_L L L') {a : Nat} (ha : a < L.length) (v : AV) : le_L (bi_st1 L a v) (bi_st1 L' a v) := by
  refine le_mk (by rw [bi_st1_len, bi_st1_len]; exact le_len h) (fun k w hk => ?_)
  unfold bi_st1 at hk ⊢
  by_cases hka : k = a
  · subst hka
    rw [List.getElem?_set_self (by rw [clr_len]; exact ha)] at hk
    rw [List.getElem?_set_self (by rw [clr_len, ← le_len h]; exact ha)]
    exact hk
  · rw [List.getElem?_set_ne (fun z => hka z.symm)] at hk ⊢
    have h2 := clr_get.mp hk
    exact clr_get.mpr ⟨le_get h k w h2.1, h2.2⟩
theorem le_st2 {L L' : Lcl} (h : le_L L L') {a : Nat} (ha : a + 1 < L.length) (v : AV) : le_L (bi_st2 L a v) (bi_st2 L' a v) := by
  refine le_mk (by rw [bi_st2_len, bi_st2_len]; exact le_len h) (fun k w hk => ?_)
  unfold bi_st2 at hk ⊢
  by_cases hka : k = a + 1
  · subst hka
    rw [List.getElem?_set] at hk
    split at hk
    · split at hk <;> cases hk
    · rename_i q; exact absurd rfl q
  · rw [List.getElem?_set_ne (fun z => hka z.symm)] at hk ⊢
    exact le_get (le_st1 h (a := a) (by omega) v) k w hk
theorem fg_load {L L' : Lcl} (h : le_L L L') {b a : Nat} {v : AV} (hv : bi_load b L[a]? = some v) : bi_load b L'[a]? = some v := by
  unfold bi_load at hv
  split at hv
  · rename_i hL; rw [le_get h _ _ hL]; exact hv
  · rename_i hL; rw [le_get h _ _ hL]; exact hv
  · rename_i hL; rw [le_get h _ _ hL]; exact hv
  · cases hv
theorem fg_store {L L' L1 : Lcl} (h : le_L L L') {b a : Nat} {v : AV} (hv : bi_store L b a v = some L1) : ∃ L2, bi_store L' b a v = some L2 ∧ le_L L1 L2 := by
  unfold bi_store at hv
  have hl := le_len h
  split at hv
  · obtain ⟨h1, rfl⟩ := bi_ite hv
    exact ⟨_, by simp only [bi_store]; rw [if_pos (by omega)], le_st1 h h1 _⟩
  · rename_i hc
    split at hv
    · cases hv
    · rename_i hc
      obtain ⟨h1, rfl⟩ := bi_ite hv
      exact ⟨_, by simp only [bi_store]; rw [if_neg hc, if_pos (by omega)], le_st1 h h1 _⟩
  · obtain ⟨h1, rfl⟩ := bi_ite hv
    exact ⟨_, by simp only [bi_store]; rw [if_pos (by omega)], le_st2 h h1 _⟩
  · cases hv
theorem fg_heap {k : Nat → Lcl → List AV → Shp → Mem → Option Res} {L L' : Lcl} (hle : le_L L L') (hk : ∀ i L L' st S M r, le_L L L' → k i L st S M = some r → k i L' st S M = some r) {op a b i : Nat} {st : List AV} {S : Shp} {M : Mem} {r : Res} (h : bi_heap k op a b i L st S M = some r) : bi_heap k op a b i L' st S M = some r := by
  unfold bi_heap at h
  split at h <;> first
    | cases h
    | (split at h <;> first
        | cases h
        | (rename_i hS; obtain ⟨h1, h⟩ := bi_iteO h; simp only [bi_heap, hS]; rw [if_pos h1]; exact hk _ _ _ _ _ _ _ hle h)
        | (rename_i hS hS2; obtain ⟨h1, h⟩ := bi_iteO h; simp only [bi_heap, hS, hS2]; rw [if_pos h1]; exact hk _ _ _ _ _ _ _ hle h))
theorem fg_step {k : Nat → Lcl → List AV → Shp → Mem → Option Res} {cl : Nat → List AV → Option Res} {L L' : Lcl} (hle : le_L L L') (hk : ∀ i L L' st S M r, le_L L L' → k i L st S M = some r → k i L' st S M = some r) {ins : Ins} {i : Nat} {st : List AV} {S : Shp} {M : Mem} {r : Res} (h : bi_step k cl ins i L st S M = some r) : bi_step k cl ins i L' st S M = some r := by
  unfold bi_step at h
  split at h
  · exact hk _ _ _ _ _ _ _ hle h
  · split at h
    · rename_i hv
      simp only [bi_step, fg_load hle hv]
      exact hk _ _ _ _ _ _ _ hle h
    · cases h
  · split at h
    · split at h
      · rename_i hv
        obtain ⟨L2, h1, h2⟩ := fg_store hle hv
        simp only [bi_step, h1]
        exact hk _ _ _ _ _ _ _ h2 h
      · cases h
    · cases h
  · split at h
    · split at h
      · rename_i hv; simp only [bi_step, hv]; exact hk _ _ _ _ _ _ _ hle h
      · cases h
    · cases h
  · split at h
    · split at h
      · rename_i hv; simp only [bi_step, hv]; exact hk _ _ _ _ _ _ _ hle h
      · cases h
    · cases h
  · split at h
    · exact hk _ _ _ _ _ _ _ hle h
    · cases h
  · split at h
    · obtain ⟨h1, h⟩ := bi_iteO h; simp only [bi_step]; rw [if_pos h1]; exact hk _ _ _ _ _ _ _ hle h
    · cases h
  · split at h
    · split at h
      · rename_i hv; simp only [bi_step, hv]; exact hk _ _ _ _ _ _ _ hle h
      · cases h
    · cases h
  · split at h
    · exact hk _ _ _ _ _ _ _ hle h
    · cases h
  · exact hk _ _ _ _ _ _ _ hle h
  · split at h
    · rename_i hx
      obtain ⟨h1, h⟩ := bi_iteO h
      simp only [bi_step, le_get hle _ _ hx]
      rw [if_pos h1]
      exact hk _ _ _ _ _ _ _ (le_st1 hle (List.getElem?_eq_some_iff.mp hx).1 _) h
    · cases h
  · exact hk _ _ _ _ _ _ _ hle h
  · split at h
    · split at h
      · rename_i hv; simp only [bi_step]; rw [if_pos hv]; exact hk _ _ _ _ _ _ _ hle h
      · rename_i hv; simp only [bi_step]; rw [if_neg hv]; exact hk _ _ _ _ _ _ _ hle h
    · cases h
  · split at h
    · split at h
      · rename_i hv; simp only [bi_step]; rw [if_pos hv]; exact hk _ _ _ _ _ _ _ hle h
      · rename_i hv; simp only [bi_step]; rw [if_neg hv]; exact hk _ _ _ _ _ _ _ hle h
    · cases h
  · exact hk _ _ _ _ _ _ _ hle h
  · split at h
    · obtain ⟨h1, h⟩ := bi_iteO h; simp only [bi_step]; rw [if_pos h1]; exact hk _ _ _ _ _ _ _ hle h
    · cases h
  · split at h
    · exact hk _ _ _ _ _ _ _ hle h
    · exact hk _ _ _ _ _ _ _ hle h
    · cases h
  · split at h
    · exact hk _ _ _ _ _ _ _ hle h
    · cases h
  · split at h
    · exact hk _ _ _ _ _ _ _ hle h
    · exact hk _ _ _ _ _ _ _ hle h
    · cases h
  · split at h
    · split at h
      · rename_i hv; simp only [bi_step]; rw [if_pos hv]; exact hk _ _ _ _ _ _ _ hle h
      · rename_i hv; simp only [bi_step]; rw [if_neg hv]; exact hk _ _ _ _ _ _ _ hle h
    · cases h
  · split at h
    · exact hk _ _ _ _ _ _ _ hle h
    · cases h
  · exact h
  · exact h
  · exact h
  · obtain ⟨h1, h⟩ := bi_iteO h
    split at h
    · rename_i hv
      simp only [bi_step]
      rw [if_pos h1, hv]
      exact hk _ _ _ _ _ _ _ hle h
    · cases h
  · split at h
    · obtain ⟨h1, h⟩ := bi_iteO h; simp only [bi_step]; rw [if_pos h1]; exact hk _ _ _ _ _ _ _ hle h
    · cases h
  · split at h
    · rename_i hv; obtain ⟨h1, h⟩ := bi_iteO h; simp only [bi_step, hv]; rw [if_pos h1]; exact hk _ _ _ _ _ _ _ hle h
    · cases h
  · split at h
    · split at h
      · rename_i hv hv2; obtain ⟨h1, h⟩ := bi_iteO h; simp only [bi_step, hv, hv2]; rw [if_pos h1]; exact hk _ _ _ _ _ _ _ hle h
      · cases h
    · cases h
  · exact hk _ _ _ _ _ _ _ hle h
  · exact hk _ _ _ _ _ _ _ hle h
  · rename_i ins a b c l hne
    cases a with
    | zero => exact absurd rfl hne
    | succ a => exact hk _ _ _ _ _ _ _ hle h
  · have h2 := fg_heap hle hk h
    unfold bi_step
    split <;> first
      | exact h2
      | (rename_i q; cases q; exact h2)
      | (exfalso; simp_all; done)
theorem fg_exec : ∀ (n m i : Nat) (L L' : Lcl) (st : List AV) (S : Shp) (M : Mem) (r : Res), le_L L L' → bi_exec PR n m i L st S M = some r → bi_exec PR n m i L' st S M = some r := by
  intro n
  induction n with
  | zero => intro m i L L' st S M r _ h; cases h
  | succ n ih =>
    intro m i L L' st S M r hle h
    unfold bi_exec at h
    split at h
    · rename_i ins hins
      have h2 := fg_step hle (fun i L L' st S M r h1 h2 => ih m i L L' st S M r h1 h2) h
      rw [bi_exec, hins]
      exact h2
    · cases h
theorem en_fg {m i : Nat} {L L' : Lcl} {st : List AV} {S : Shp} {M : Mem} {Q : Res → Prop} (h : En m i L st S M Q) (hle : le_L L L') : En m i L' st S M Q := by
  obtain ⟨n, r, h1, h2⟩ := h
  exact ⟨n, r, fg_exec _ _ _ _ _ _ _ _ _ hle h1, h2⟩
theorem En.mono {m i : Nat} {L : Lcl} {st : List AV} {S : Shp} {M : Mem} {Q Q' : Res → Prop} (h : En m i L st S M Q) (hq : ∀ r, Q r → Q' r) : En m i L st S M Q' := by
  obtain ⟨n, r, h1, h2⟩ := h
  exact ⟨n, r, h1, hq r h2⟩
theorem Ca.mono {m : Nat} {as : List AV} {S : Shp} {M : Mem} {Q Q' : Res → Prop} (h : Ca m as S M Q) (hq : ∀ r, Q r → Q' r) : Ca m as S M Q' := ⟨h.1, h.2.mono hq⟩
theorem rcv0 {q cls n : Nat} {S : Shp} {rs : List Nat} (hS : S[q]? = some (cls + 3, n, rs)) (h4 : 4 ≤ q) : bi_recv 0 cls S (some (.inr (.inr (q + 1)))) = true := by
  unfold bi_recv
  dsimp only
  rw [if_pos rfl, hS]
  simp [h4]
theorem rcvS {S : Shp} {n : Nat} {rs : List Nat} (hS : S[1]? = some (13, n, rs)) : bi_recv 0 10 S (some (.inr (.inr 2))) = true := by
  unfold bi_recv
  dsimp only
  rw [if_pos rfl, hS]
  simp
theorem rcv1 {cls : Nat} {S : Shp} {v : Option AV} : bi_recv 1 cls S v = true := by
  unfold bi_recv
  split
  · rw [if_neg (by decide)]; simp
  · rfl
theorem rcv2 {q cls : Nat} {S : Shp} (h : q ≠ 3) : bi_recv 2 cls S (some (.inr (.inr (q + 1)))) = true := by
  unfold bi_recv
  dsimp only
  rw [if_neg (by decide)]
  simp [h]
