/-! AN ITEM of the text, as a change of what has been told -/
def up1 (σ : Nat → Int) (k : Nat) (v : Int) : Nat → Int := fun j => if j = k then v else σ j
/-- the letters of a name at b -/
def lf (T : Nat → Int) (b k : Nat) : Nat := (T (b + k) - 97).toNat
/-- the last place of a letter among the first m -/
def ix (f : Nat → Nat) (x : Nat) : Nat → Nat
  | 0 => 0
  | k + 1 => if f k = x then k else ix f x k
/-- ranks where m letters come first -/
def oR (f : Nat → Nat) (m x : Nat) : Int := if (ls f m).testBit x = true then (ix f x m : Int) else ((m + ce (ls f m) x : Nat) : Int)
def putN (σ f : Nat → Int) (i m : Nat) (v w : Int) : Nat → Int := fun j => if j = 0 then σ 0 + 1 else if j = 10 + i then (m : Int) else if 20 + 6 * i ≤ j ∧ j < 20 + 6 * i + m then f (j - (20 + 6 * i)) else if j = 70 + i then v else if j = 80 + i then w else σ j
def putO (σ : Nat → Int) (f : Nat → Nat) (m : Nat) : Nat → Int := fun j => if 90 ≤ j ∧ j < 116 then oR f m (j - 90) else σ j
def putQ (σ : Nat → Int) (f : Nat → Nat) : Nat → Int := fun j => if j = 5 then σ 5 + 1 else if j = 120 + 2 * (σ 5).toNat then (f 0 : Int) else if j = 121 + 2 * (σ 5).toNat then (f 1 : Int) else σ j
abbrev num (T : Nat → Int) (L p : Nat) : Prop := 1 ≤ nF T L p ∧ nF T L p ≤ 2
/-- places in a person's item -/
def q1 (T : Nat → Int) (L a : Nat) : Nat := a + 1 + nL T L (a + 1)
def q2 (T : Nat → Int) (L a : Nat) : Nat := q1 T L a + 1 + nF T L (q1 T L a + 1)
def q3 (T : Nat → Int) (L a : Nat) : Nat := q2 T L a + 1 + nF T L (q2 T L a + 1)
def pI (T : Nat → Int) (L a : Nat) (σ : Nat → Int) : Option (Nat × (Nat → Int)) :=
  if T a = 110 then (if nL T L (a + 1) ≤ 6 ∧ sg T L (q1 T L a) = 44 ∧ num T L (q1 T L a + 1) ∧ nV T L (q1 T L a + 1) ≤ 9 ∧ sg T L (q2 T L a) = 44 ∧ num T L (q2 T L a + 1) ∧ sg T L (q3 T L a) = 59 ∧ σ 0 < 8 then some (q3 T L a + 1, putN σ (fun k => T (a + 1 + k) - 97) (σ 0).toNat (nL T L (a + 1)) (nV T L (q1 T L a + 1)) (nV T L (q2 T L a + 1))) else none)
  else if T a = 103 then (if num T L (a + 1) ∧ sg T L (a + 1 + nF T L (a + 1)) = 59 then some (a + 1 + nF T L (a + 1) + 1, up1 σ 1 (nV T L (a + 1))) else none)
  else if T a = 119 then (if num T L (a + 1) ∧ nV T L (a + 1) ≤ 25 ∧ sg T L (a + 1 + nF T L (a + 1)) = 59 then some (a + 1 + nF T L (a + 1) + 1, up1 σ 2 (nV T L (a + 1))) else none)
  else if T a = 99 then (if num T L (a + 1) ∧ nV T L (a + 1) ≤ 9 ∧ sg T L (a + 1 + nF T L (a + 1)) = 59 then some (a + 1 + nF T L (a + 1) + 1, up1 σ 3 (nV T L (a + 1))) else none)
  else if T a = 111 then (if 1 ≤ nL T L (a + 1) ∧ nL T L (a + 1) ≤ 6 ∧ pcn (ls (lf T (a + 1)) (nL T L (a + 1))) = nL T L (a + 1) ∧ sg T L (q1 T L a) = 59 then some (q1 T L a + 1, putO σ (lf T (a + 1)) (nL T L (a + 1))) else none)
  else if T a = 118 then (if 1 ≤ nL T L (a + 1) ∧ nL T L (a + 1) ≤ 6 ∧ sg T L (q1 T L a) = 59 then some (q1 T L a + 1, up1 σ 4 (ls (lf T (a + 1)) (nL T L (a + 1)) : Int)) else none)
  else if T a = 113 then (if nL T L (a + 1) = 2 ∧ σ 5 < 6 ∧ sg T L (q1 T L a) = 59 then some (q1 T L a + 1, putQ σ (lf T (a + 1))) else none)
  else none
/-- what has been told is as it must be -/
def SO (σ : Nat → Int) : Prop :=
  (0 ≤ σ 0 ∧ σ 0 ≤ 8) ∧ (0 ≤ σ 1 ∧ σ 1 ≤ 99) ∧ (0 ≤ σ 2 ∧ σ 2 ≤ 25) ∧ (0 ≤ σ 3 ∧ σ 3 ≤ 9) ∧ (0 ≤ σ 4 ∧ σ 4 < 67108864) ∧ (0 ≤ σ 5 ∧ σ 5 ≤ 6) ∧
  (∀ i : Nat, (i : Int) < σ 0 → (0 ≤ σ (10 + i) ∧ σ (10 + i) ≤ 6) ∧ (0 ≤ σ (70 + i) ∧ σ (70 + i) ≤ 9) ∧ (0 ≤ σ (80 + i) ∧ σ (80 + i) ≤ 99) ∧ ∀ k : Nat, (k : Int) < σ (10 + i) → 0 ≤ σ (20 + 6 * i + k) ∧ σ (20 + 6 * i + k) < 26) ∧
  gal (fun x => σ (90 + x)) ∧
  (∀ k : Nat, (k : Int) < σ 5 → (0 ≤ σ (120 + 2 * k) ∧ σ (120 + 2 * k) < 26) ∧ (0 ≤ σ (121 + 2 * k) ∧ σ (121 + 2 * k) < 26))
theorem ix_at {f : Nat → Nat} {x : Nat} : ∀ m, (∃ k, k < m ∧ f k = x) → ix f x m < m ∧ f (ix f x m) = x := by
  intro m
  induction m with
  | zero => rintro ⟨k, h, _⟩; omega
  | succ m ih =>
    rintro ⟨k, h1, h2⟩
    rw [ix]
    by_cases hm : f m = x
    · rw [if_pos hm]; exact ⟨by omega, hm⟩
    · rw [if_neg hm]
      have := ih ⟨k, by
        by_cases hk : k = m
        · subst hk; exact absurd h2 hm
        · omega, h2⟩
      exact ⟨by omega, this.2⟩
theorem ce_mono {s : Nat} {a : Nat} : ∀ b, a ≤ b → ce s a ≤ ce s b := by
  intro b
  induction b with
  | zero => intro h; have : a = 0 := by omega
            rw [this]; exact Nat.le_refl _
  | succ b ih =>
    intro h
    by_cases hab : a = b + 1
    · rw [hab]; exact Nat.le_refl _
    · have := ih (by omega)
      rw [ce]; omega
theorem ce_strict {s a b : Nat} (h : a < b) (hs : s.testBit a = false) : ce s a < ce s b := by
  have e : ce s (a + 1) = ce s a + 1 := by rw [ce, if_neg (by rw [hs]; decide)]
  have := ce_mono (s := s) (a := a + 1) b (by omega)
  omega
theorem oR_gal {f : Nat → Nat} {m : Nat} (hm : m ≤ 26) (hf : ∀ k, k < m → f k < 26) (hd : dist f m) : gal (oR f m) := by
  have hc := (ls_cnt m hf).2.mpr hd
  have nb : ∀ x, x < 26 → (ls f m).testBit x = false → m + ce (ls f m) x < 26 := fun x hx hb => by
    have := ce_strict (b := 26) hx hb
    omega
  refine ⟨fun x hx => ?_, fun x y hx hy e => ?_⟩
  · unfold oR
    by_cases hb : (ls f m).testBit x = true
    · rw [if_pos hb]
      have := ix_at m ((ls_bit m).mp hb)
      omega
    · rw [if_neg hb]
      have := nb x hx (by simpa using hb)
      omega
  · unfold oR at e
    by_cases hb : (ls f m).testBit x = true
    · have ax := ix_at m ((ls_bit m).mp hb)
      rw [if_pos hb] at e
      by_cases hb2 : (ls f m).testBit y = true
      · have ay := ix_at m ((ls_bit m).mp hb2)
        rw [if_pos hb2] at e
        rw [← ax.2, ← ay.2, show ix f x m = ix f y m by omega]
      · rw [if_neg hb2] at e; omega
    · rw [if_neg hb] at e
      have hbf : (ls f m).testBit x = false := by simpa using hb
      by_cases hb2 : (ls f m).testBit y = true
      · have ay := ix_at m ((ls_bit m).mp hb2)
        rw [if_pos hb2] at e; omega
      · rw [if_neg hb2] at e
        have hb2f : (ls f m).testBit y = false := by simpa using hb2
        by_cases c : x < y
        · have := ce_strict c hbf; omega
        · by_cases c2 : y < x
          · have := ce_strict c2 hb2f; omega
          · omega
theorem lf_in {T : Nat → Int} {L b k : Nat} (hk : k < nL T L b) : lf T b k < 26 ∧ ((lf T b k : Nat) : Int) = T (b + k) - 97 := by
  have := nL_let hk
  unfold lf
  omega
theorem SO_up {σ : Nat → Int} (h : SO σ) {k : Nat} {v : Int} (h1 : k = 1 ∧ (0 ≤ v ∧ v ≤ 99) ∨ k = 2 ∧ (0 ≤ v ∧ v ≤ 25) ∨ k = 3 ∧ (0 ≤ v ∧ v ≤ 9) ∨ k = 4 ∧ (0 ≤ v ∧ v < 67108864)) : SO (up1 σ k v) := by
  obtain ⟨a0, a1, a2, a3, a4, a5, a6, a7, a8⟩ := h
  have o : ∀ j, j ≠ k → up1 σ k v j = σ j := fun j hj => if_neg hj
  have kb : 1 ≤ k ∧ k ≤ 4 := by omega
  have at1 : ∀ j, up1 σ k v j = if j = k then v else σ j := fun j => rfl
  refine ⟨by rw [o 0 (by omega)]; exact a0, ?_, ?_, ?_, ?_, by rw [o 5 (by omega)]; exact a5, fun i hi => ?_, ?_, fun j hj => ?_⟩
  · rw [at1]; split <;> omega
  · rw [at1]; split <;> omega
  · rw [at1]; split <;> omega
  · rw [at1]; split <;> omega
  · rw [o 0 (by omega)] at hi
    have := a6 i hi
    rw [o (10 + i) (by omega), o (70 + i) (by omega), o (80 + i) (by omega)]
    refine ⟨this.1, this.2.1, this.2.2.1, fun j hj => ?_⟩
    rw [o _ (by omega)]
    exact this.2.2.2 j hj
  · have e : (fun x => up1 σ k v (90 + x)) = (fun x => σ (90 + x)) := by funext x; exact o _ (by omega)
    rw [e]; exact a7
  · rw [o 5 (by omega)] at hj
    rw [o _ (by omega), o _ (by omega)]
    exact a8 j hj
theorem pI_so {T : Nat → Int} {L a : Nat} {σ : Nat → Int} {a' : Nat} {σ' : Nat → Int} (h : SO σ) (hp : pI T L a σ = some (a', σ')) : SO σ' ∧ a < a' := by
  unfold pI at hp
  split at hp
  · split at hp
    · rename_i _ c
      obtain ⟨c1', c2', c3, c4, c5, c6, c7, c8⟩ := c
      cases hp
      obtain ⟨a0, a1, a2, a3, a4, a5, a6, a7, a8⟩ := h
      obtain ⟨i, hi⟩ : ∃ i : Nat, σ 0 = (i : Int) := ⟨(σ 0).toNat, by omega⟩
      obtain ⟨m, hm⟩ : ∃ m, m = nL T L (a + 1) := ⟨_, rfl⟩
      have v1 := nV_in c3.1
      have v2 := nV_in c6.1
      have let' : ∀ k, k < m → 0 ≤ T (a + 1 + k) - 97 ∧ T (a + 1 + k) - 97 < 26 := fun k hk => by
        have := nL_let (T := T) (L := L) (a := a + 1) (k := k) (by omega)
        omega
      rw [← hm] at c1' ⊢
      rw [show (σ 0).toNat = i by omega]
      refine ⟨⟨?_, ?_, ?_, ?_, ?_, ?_, fun j hj => ?_, ?_, fun j hj => ?_⟩, by unfold q3 q2 q1; omega⟩
      · show 0 ≤ putN _ _ _ _ _ _ 0 ∧ putN _ _ _ _ _ _ 0 ≤ 8
        unfold putN; rw [if_pos rfl]; omega
      · unfold putN; rw [if_neg (by omega), if_neg (by omega), if_neg (by omega), if_neg (by omega), if_neg (by omega)]; exact a1
      · unfold putN; rw [if_neg (by omega), if_neg (by omega), if_neg (by omega), if_neg (by omega), if_neg (by omega)]; exact a2
      · unfold putN; rw [if_neg (by omega), if_neg (by omega), if_neg (by omega), if_neg (by omega), if_neg (by omega)]; exact a3
      · unfold putN; rw [if_neg (by omega), if_neg (by omega), if_neg (by omega), if_neg (by omega), if_neg (by omega)]; exact a4
      · unfold putN; rw [if_neg (by omega), if_neg (by omega), if_neg (by omega), if_neg (by omega), if_neg (by omega)]; exact a5
      · unfold putN at hj
        rw [if_pos rfl] at hj
        unfold putN
        by_cases hji : j = i
        · subst hji
          refine ⟨?_, ?_, ?_, fun k hk => ?_⟩
          · rw [if_neg (by omega), if_pos rfl]; omega
          · rw [if_neg (by omega), if_neg (by omega), if_neg (by omega), if_pos rfl]; omega
          · rw [if_neg (by omega), if_neg (by omega), if_neg (by omega), if_neg (by omega), if_pos rfl]; omega
          · rw [if_neg (by omega), if_pos rfl] at hk
            rw [if_neg (by omega), if_neg (by omega), if_pos (by omega), show 20 + 6 * j + k - (20 + 6 * j) = k by omega]
            exact let' k (by omega)
        · have b := a6 j (by omega)
          refine ⟨?_, ?_, ?_, fun k hk => ?_⟩
          · rw [if_neg (by omega), if_neg (by omega), if_neg (by omega), if_neg (by omega), if_neg (by omega)]; exact b.1
          · rw [if_neg (by omega), if_neg (by omega), if_neg (by omega), if_neg (by omega), if_neg (by omega)]; exact b.2.1
          · rw [if_neg (by omega), if_neg (by omega), if_neg (by omega), if_neg (by omega), if_neg (by omega)]; exact b.2.2.1
          · rw [if_neg (by omega), if_neg (by omega), if_neg (by omega), if_neg (by omega), if_neg (by omega)] at hk
            rw [if_neg (by omega), if_neg (by omega), if_neg (by omega), if_neg (by omega), if_neg (by omega)]
            exact b.2.2.2 k hk
      · have e : ∀ x, putN σ (fun k => T (a + 1 + k) - 97) i m (nV T L (q1 T L a + 1)) (nV T L (q2 T L a + 1)) (90 + x) = σ (90 + x) := fun x => by unfold putN; rw [if_neg (by omega), if_neg (by omega), if_neg (by omega), if_neg (by omega), if_neg (by omega)]
        have e2 : (fun x => putN σ (fun k => T (a + 1 + k) - 97) i m (nV T L (q1 T L a + 1)) (nV T L (q2 T L a + 1)) (90 + x)) = (fun x => σ (90 + x)) := by funext x; exact e x
        rw [e2]; exact a7
      · unfold putN at hj
        rw [if_neg (by omega), if_neg (by omega), if_neg (by omega), if_neg (by omega), if_neg (by omega)] at hj
        have b := a8 j hj
        unfold putN
        rw [if_neg (by omega), if_neg (by omega), if_neg (by omega), if_neg (by omega), if_neg (by omega), if_neg (by omega), if_neg (by omega), if_neg (by omega), if_neg (by omega), if_neg (by omega)]
        exact b
    · cases hp
  · split at hp
    · split at hp
      · rename_i _ c
        cases hp
        have v1 := nV_in c.1.1
        exact ⟨SO_up h (Or.inl ⟨rfl, by omega⟩), by omega⟩
      · cases hp
    · split at hp
      · split at hp
        · rename_i _ c
          cases hp
          have v1 := nV_in c.1.1
          exact ⟨SO_up h (Or.inr (Or.inl ⟨rfl, by omega⟩)), by omega⟩
        · cases hp
      · split at hp
        · split at hp
          · rename_i _ c
            cases hp
            have v1 := nV_in c.1.1
            exact ⟨SO_up h (Or.inr (Or.inr (Or.inl ⟨rfl, by omega⟩))), by omega⟩
          · cases hp
        · split at hp
          · split at hp
            · rename_i _ c
              cases hp
              obtain ⟨a0, a1, a2, a3, a4, a5, a6, a7, a8⟩ := h
              have fin : ∀ k, k < nL T L (a + 1) → lf T (a + 1) k < 26 := fun k hk => (lf_in hk).1
              have o : ∀ j, j < 90 ∨ 116 ≤ j → putO σ (lf T (a + 1)) (nL T L (a + 1)) j = σ j := fun j hj => if_neg (by omega)
              have g := oR_gal (by omega) fin ((bits_dist fin).mp c.2.2.1)
              have e : ∀ x, x < 26 → putO σ (lf T (a + 1)) (nL T L (a + 1)) (90 + x) = oR (lf T (a + 1)) (nL T L (a + 1)) x := fun x hx => by
                unfold putO
                rw [if_pos (by omega), show 90 + x - 90 = x by omega]
              refine ⟨⟨by rw [o 0 (by omega)]; exact a0, by rw [o 1 (by omega)]; exact a1, by rw [o 2 (by omega)]; exact a2, by rw [o 3 (by omega)]; exact a3, by rw [o 4 (by omega)]; exact a4, by rw [o 5 (by omega)]; exact a5, fun i hi => ?_, ⟨fun x hx => ?_, fun x y hx hy q => ?_⟩, fun j hj => ?_⟩, by unfold q1; omega⟩
              · rw [o 0 (by omega)] at hi
                have b := a6 i hi
                rw [o (10 + i) (by omega), o (70 + i) (by omega), o (80 + i) (by omega)]
                exact ⟨b.1, b.2.1, b.2.2.1, fun k hk => by rw [o _ (by omega)]; exact b.2.2.2 k hk⟩
              · show 0 ≤ putO σ _ _ (90 + x) ∧ putO σ _ _ (90 + x) < 26
                rw [e x hx]; exact g.1 x hx
              · have q' : putO σ (lf T (a + 1)) (nL T L (a + 1)) (90 + x) = putO σ (lf T (a + 1)) (nL T L (a + 1)) (90 + y) := q
                rw [e x hx, e y hy] at q'
                exact g.2 x y hx hy q'
              · rw [o 5 (by omega)] at hj
                rw [o _ (by omega), o _ (by omega)]; exact a8 j hj
            · cases hp
          · split at hp
            · split at hp
              · rename_i _ c
                cases hp
                have l := ls_lt (f := lf T (a + 1)) (nL T L (a + 1)) (fun k hk => (lf_in hk).1)
                exact ⟨SO_up h (Or.inr (Or.inr (Or.inr ⟨rfl, by omega⟩))), by unfold q1; omega⟩
              · cases hp
            · split at hp
              · split at hp
                · rename_i _ c
                  cases hp
                  obtain ⟨a0, a1, a2, a3, a4, a5, a6, a7, a8⟩ := h
                  obtain ⟨m, hm⟩ : ∃ m : Nat, σ 5 = (m : Int) := ⟨(σ 5).toNat, by omega⟩
                  have f0 := (lf_in (T := T) (L := L) (b := a + 1) (k := 0) (by omega)).1
                  have f1 := (lf_in (T := T) (L := L) (b := a + 1) (k := 1) (by omega)).1
                  have et : (σ 5).toNat = m := by omega
                  have o : ∀ j, j ≠ 5 → j < 120 → putQ σ (lf T (a + 1)) j = σ j := fun j h1 h2 => by unfold putQ; rw [et, if_neg h1, if_neg (by omega), if_neg (by omega)]
                  refine ⟨⟨by rw [o 0 (by omega) (by omega)]; exact a0, by rw [o 1 (by omega) (by omega)]; exact a1, by rw [o 2 (by omega) (by omega)]; exact a2, by rw [o 3 (by omega) (by omega)]; exact a3, by rw [o 4 (by omega) (by omega)]; exact a4, ?_, fun i hi => ?_, ?_, fun j hj => ?_⟩, by unfold q1; omega⟩
                  · show 0 ≤ putQ σ _ 5 ∧ putQ σ _ 5 ≤ 6
                    unfold putQ; rw [if_pos rfl]; omega
                  · rw [o 0 (by omega) (by omega)] at hi
                    have b := a6 i hi
                    rw [o (10 + i) (by omega) (by omega), o (70 + i) (by omega) (by omega), o (80 + i) (by omega) (by omega)]
                    exact ⟨b.1, b.2.1, b.2.2.1, fun k hk => by rw [o _ (by omega) (by omega)]; exact b.2.2.2 k hk⟩
                  · refine ⟨fun x hx => ?_, fun x y hx hy q => ?_⟩
                    · show 0 ≤ putQ σ _ (90 + x) ∧ putQ σ _ (90 + x) < 26
                      rw [o _ (by omega) (by omega)]; exact a7.1 x hx
                    · have q' : putQ σ (lf T (a + 1)) (90 + x) = putQ σ (lf T (a + 1)) (90 + y) := q
                      rw [o _ (by omega) (by omega), o _ (by omega) (by omega)] at q'
                      exact a7.2 x y hx hy q'
                  · unfold putQ at hj
                    rw [if_pos rfl] at hj
                    unfold putQ
                    rw [et]
                    by_cases hjm : j = m
                    · subst hjm
                      rw [if_neg (by omega), if_pos rfl, if_neg (by omega), if_neg (by omega), if_pos rfl]
                      omega
                    · rw [if_neg (by omega), if_neg (by omega), if_neg (by omega), if_neg (by omega), if_neg (by omega), if_neg (by omega)]
                      exact a8 j (by omega)
                · cases hp
              · cases hp
/-- the town of nobody -/
def σ0 : Nat → Int := fun j => if j = 1 then 20 else if j = 2 then 3 else if j = 3 then 1 else if j = 4 then 1065233 else if 90 ≤ j ∧ j < 116 then ((j - 90 : Nat) : Int) else 0
theorem SO_0 : SO σ0 := by
  refine ⟨by decide, by decide, by decide, by decide, by decide, by decide, fun i hi => ?_, ⟨fun x hx => ?_, fun x y hx hy q => ?_⟩, fun k hk => ?_⟩
  · have : σ0 0 = 0 := rfl
    omega
  · show 0 ≤ σ0 (90 + x) ∧ σ0 (90 + x) < 26
    unfold σ0
    rw [if_neg (by omega), if_neg (by omega), if_neg (by omega), if_neg (by omega), if_pos (by omega)]
    omega
  · have q' : σ0 (90 + x) = σ0 (90 + y) := q
    unfold σ0 at q'
    rw [if_neg (by omega), if_neg (by omega), if_neg (by omega), if_neg (by omega), if_pos (by omega), if_neg (by omega), if_neg (by omega), if_neg (by omega), if_neg (by omega), if_pos (by omega)] at q'
    omega
  · have : σ0 5 = 0 := rfl
    omega
/-- all items -/
def pL (T : Nat → Int) (L : Nat) : Nat → Nat → (Nat → Int) → Int × (Nat → Int)
  | 0, _, σ => (-4, σ)
  | f + 1, a, σ => if L ≤ a then (-4, σ) else match pI T L a σ with
    | none => ((a : Int), σ)
    | some (a', σ') => pL T L f a' σ'
