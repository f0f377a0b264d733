/-! write, spell, unspell, enter, close -/
theorem Text_keep {M M' : Mem} (a : M' 5 2 = M 5 2) (b : M' 172 0 = M 172 0) (c : M' 6 = M 6) (d : M' 173 = M 173) (h : Text M) : Text M' := by
  obtain ⟨l, l1, l2, l3, l4⟩ := h
  exact ⟨l, l1, a.trans l2, b.trans l3, fun k hk => by rw [c, d]; exact l4 k hk⟩
theorem Word_keep {M M' : Mem} (a : M' 4 11 = M 4 11) (b : M' 172 12 = M 172 12) (c : M' 171 = M 171) (d : M' 181 = M 181) (h : Word M) : Word M' := by
  obtain ⟨l, l1, l2, l3, l4⟩ := h
  exact ⟨l, l1, a.trans l2, b.trans l3, fun k hk => by rw [c, d]; exact l4 k hk⟩
theorem Ledg_keep {M M' : Mem} (a : M' 168 2 = M 168 2) (b : M' 172 14 = M 172 14) (c : M' 169 = M 169) (d : M' 170 = M 170) (e : M' 182 = M 182) (h : Ledg M) : Ledg M' := by
  obtain ⟨l, l1, l2, l3, l4⟩ := h
  exact ⟨l, l1, a.trans l2, b.trans l3, fun k hk => by rw [c, d, e]; exact l4 k hk⟩
section Ops2
variable {S : Shp} {M : Mem}
theorem sim_write (hS : KC S) (hM : KM S) (hR : Rel M) (p : Int) : Sim S M 94 143 [.inl p] := by
  obtain ⟨n, h1, h2, h3, ⟨l, l1, l2, l3, l4⟩, h5, h6⟩ := id hR
  apply r_X8_write_0 hS
  have bad : ¬ (32 ≤ p ∧ p ≤ 126) → ∃ (M1 : Mem) (v : Int), ((S, M, some (.inl (-1 : Int))) : Res) = (S, M1, some (.inl v)) ∧ Ca 143 [.inr (.inr 173), .inl p] S M1 (fun r' => ∃ M2 : Mem, r' = (S, M2, some (.inl v)) ∧ Rel M2 ∧ M2 0 = M 0) := fun hb => by
    refine ⟨_, _, rfl, ?_⟩
    apply r_X9_write_0 hM
    refine sq_in hM ⟨_, _, rfl, ?_⟩
    rw [if_neg hb]
    exact ⟨fun q => absurd rfl q, fun _ => ⟨_, rfl, hR, rfl⟩⟩
  refine ⟨fun q => bad (by omega), fun q => ⟨fun q2 => ?_, fun q2 => bad (by omega)⟩⟩
  apply r_X5_add_0 hS
  rw [l2]
  have ee : (up2 M 6 (l : Int).toNat p) 5 2 = (l : Int) := by rw [up2_row _ _ _ _ (by decide), l2]
  rw [ee, Int.toNat_natCast]
  refine ⟨fun q3 => ⟨by omega, ⟨by omega, by omega⟩, _, _, rfl, fun z => absurd z (by decide), fun _ => ⟨_, _, rfl, ?_⟩⟩, fun q3 => ⟨_, _, rfl, fun _ => ⟨_, _, rfl, ?_⟩, fun z => absurd rfl z⟩⟩
  · apply r_X9_write_0 hM
    refine sq_in hM ⟨_, _, rfl, ?_⟩
    rw [if_pos ⟨q, q2⟩]
    obtain ⟨M1, hM1⟩ : ∃ z, z = up2 (up2 M 6 l p) 5 2 ((l : Int) + 1) := ⟨_, rfl⟩
    rw [← hM1]
    have g1 : ∀ a b, M1 a b = if a = 5 ∧ b = 2 then (l : Int) + 1 else if a = 6 ∧ b = l then p else M a b := fun a b => by rw [hM1]; rfl
    have e1 : M1 172 0 = (l : Int) := by rw [g1, if_neg (by omega), if_neg (by omega), l3]
    have e2 : M1 5 2 = (l : Int) + 1 := by rw [g1, if_pos ⟨rfl, rfl⟩]
    rw [e1, e2, Int.toNat_natCast]
    have e3 : (up2 M1 173 l p) 172 0 = (l : Int) := by rw [up2_row _ _ _ _ (by decide), e1]
    rw [e3, up2_get]
    refine ⟨fun _ => ⟨fun _ => ⟨by omega, ⟨by omega, by omega⟩, ⟨by omega, by omega⟩, _, rfl, ⟨n, ?_⟩, ?_⟩, fun z => by omega⟩, fun z => absurd z (by decide)⟩
    · obtain ⟨M2, hM2⟩ : ∃ z, z = up2 (up2 M1 173 l p) 172 0 ((l : Int) + 1) := ⟨_, rfl⟩
      have g : ∀ a b, M2 a b = if a = 172 ∧ b = 0 then (l : Int) + 1 else if a = 173 ∧ b = l then p else if a = 5 ∧ b = 2 then (l : Int) + 1 else if a = 6 ∧ b = l then p else M a b := fun a b => by rw [hM2]; show (if _ then _ else if _ then _ else M1 a b) = _; rw [g1]
      have gr : ∀ a, a ≠ 172 → a ≠ 173 → a ≠ 5 → a ≠ 6 → M2 a = M a := fun a _ _ _ _ => by funext b; rw [g, if_neg (by omega), if_neg (by omega), if_neg (by omega), if_neg (by omega)]
      rw [← hM2]
      have T := Towns_keep (M' := M2) (fun q hq => gr q (by omega) (by omega) (by omega) (by omega)) (by rw [g]; rfl) (by rw [g]; rfl) ⟨h1, h2, h3⟩
      refine ⟨T.1, T.2.1, T.2.2, ⟨l + 1, by omega, by rw [g]; rfl, by rw [g]; rfl, fun k hk => ?_⟩, Word_keep (by rw [g]; rfl) (by rw [g]; rfl) (gr _ (by decide) (by decide) (by decide) (by decide)) (gr _ (by decide) (by decide) (by decide) (by decide)) h5, Ledg_keep (by rw [g]; rfl) (by rw [g]; rfl) (gr _ (by decide) (by decide) (by decide) (by decide)) (gr _ (by decide) (by decide) (by decide) (by decide)) (gr _ (by decide) (by decide) (by decide) (by decide)) h6⟩
      have a1 : M2 6 k = if k = l then p else M 6 k := by rw [g]; simp
      have a2 : M2 173 k = if k = l then p else M 173 k := by rw [g]; simp
      rw [a1, a2]
      by_cases hkl : k = l
      · rw [if_pos hkl, if_pos hkl]; omega
      · rw [if_neg hkl, if_neg hkl]; exact l4 k (by omega)
    · rw [up2_row _ _ _ _ (by decide), up2_row _ _ _ _ (by decide), hM1, up2_row _ _ _ _ (by decide), up2_row _ _ _ _ (by decide)]
  · apply r_X9_write_0 hM
    refine sq_in hM ⟨_, _, rfl, ?_⟩
    rw [if_pos ⟨q, q2⟩, l3]
    exact ⟨fun _ => ⟨fun z => by omega, fun _ => ⟨_, rfl, hR, rfl⟩⟩, fun z => absurd z (by decide)⟩
theorem sim_unspell (hS : KC S) (hM : KM S) (hR : Rel M) : Sim S M 103 173 [] := by
  obtain ⟨n, h1, h2, h3, h4, ⟨l, l1, l2, l3, l4⟩, h6⟩ := hR
  apply r_X8_unspell_0 hS
  refine ⟨_, _, rfl, ?_⟩
  apply r_X9_unspell_0 hM
  have e : up2 M 4 11 0 172 12 = M 4 11 := by rw [up2_any, if_neg (by decide), l3, l2]
  rw [e]
  obtain ⟨M2, hM2⟩ : ∃ z, z = up2 (up2 M 4 11 0) 172 12 0 := ⟨_, rfl⟩
  have g : ∀ a b, M2 a b = if a = 172 ∧ b = 12 then 0 else if a = 4 ∧ b = 11 then 0 else M a b := fun a b => by rw [hM2]; rfl
  have gr : ∀ a, a ≠ 172 → a ≠ 4 → M2 a = M a := fun a q1 q2 => by funext b; rw [g, if_neg (by omega), if_neg (by omega)]
  rw [← hM2]
  refine ⟨_, rfl, ⟨n, ?_⟩, gr 0 (by decide) (by decide)⟩
  have T := Towns_keep (M' := M2) (fun q hq => gr q (by omega) (by omega)) (by rw [g]; rfl) (by rw [g]; rfl) ⟨h1, h2, h3⟩
  exact ⟨T.1, T.2.1, T.2.2, Text_keep (by rw [g]; rfl) (by rw [g]; rfl) (gr _ (by decide) (by decide)) (gr _ (by decide) (by decide)) h4, ⟨0, by decide, by rw [g]; rfl, by rw [g]; rfl, fun k hk => absurd hk (by omega)⟩, Ledg_keep (by rw [g]; rfl) (by rw [g]; rfl) (gr _ (by decide) (by decide)) (gr _ (by decide) (by decide)) (gr _ (by decide) (by decide)) h6⟩
theorem sim_close (hS : KC S) (hM : KM S) (hR : Rel M) : Sim S M 125 210 [] := by
  obtain ⟨n, h1, h2, h3, h4, h5, ⟨l, l1, l2, l3, l4⟩⟩ := hR
  apply r_X8_close_0 hS
  refine ⟨_, _, rfl, ?_⟩
  apply r_X9_close_0 hM
  have e : up2 M 168 2 0 172 14 = M 168 2 := by rw [up2_any, if_neg (by decide), l3, l2]
  rw [e]
  obtain ⟨M2, hM2⟩ : ∃ z, z = up2 (up2 M 168 2 0) 172 14 0 := ⟨_, rfl⟩
  have g : ∀ a b, M2 a b = if a = 172 ∧ b = 14 then 0 else if a = 168 ∧ b = 2 then 0 else M a b := fun a b => by rw [hM2]; rfl
  have gr : ∀ a, a ≠ 172 → a ≠ 168 → M2 a = M a := fun a q1 q2 => by funext b; rw [g, if_neg (by omega), if_neg (by omega)]
  rw [← hM2]
  refine ⟨_, rfl, ⟨n, ?_⟩, gr 0 (by decide) (by decide)⟩
  have T := Towns_keep (M' := M2) (fun q hq => gr q (by omega) (by omega)) (by rw [g]; rfl) (by rw [g]; rfl) ⟨h1, h2, h3⟩
  exact ⟨T.1, T.2.1, T.2.2, Text_keep (by rw [g]; rfl) (by rw [g]; rfl) (gr _ (by decide) (by decide)) (gr _ (by decide) (by decide)) h4, Word_keep (by rw [g]; rfl) (by rw [g]; rfl) (gr _ (by decide) (by decide)) (gr _ (by decide) (by decide)) h5, ⟨0, by decide, by rw [g]; rfl, by rw [g]; rfl, fun k hk => absurd hk (by omega)⟩⟩
theorem sim_spell (hS : KC S) (hM : KM S) (hR : Rel M) (p : Int) : Sim S M 102 172 [.inl p] := by
  obtain ⟨n, h1, h2, h3, h4, ⟨l, l1, l2, l3, l4⟩, h6⟩ := id hR
  apply r_X8_spell_0 hS
  refine sp_isLetter hS ⟨_, _, rfl, ?_⟩
  by_cases hp : 0 ≤ p ∧ p ≤ 25
  · rw [if_pos hp, l2]
    refine ⟨fun _ => ⟨fun q => ⟨by omega, ?_⟩, fun q => ⟨_, _, rfl, ?_⟩⟩, fun z => absurd z (by decide)⟩
    · have ee : (up2 M 171 (l : Int).toNat p) 4 11 = (l : Int) := by rw [up2_row _ _ _ _ (by decide), l2]
      rw [ee, up2_get, Int.toNat_natCast]
      obtain ⟨M1, hM1⟩ : ∃ z, z = up2 (up2 M 171 l p) 4 11 ((l : Int) + 1) := ⟨_, rfl⟩
      rw [← hM1]
      have g1 : ∀ a b, M1 a b = if a = 4 ∧ b = 11 then (l : Int) + 1 else if a = 171 ∧ b = l then p else M a b := fun a b => by rw [hM1]; rfl
      have e1 : M1 172 12 = (l : Int) := by rw [g1, if_neg (by omega), if_neg (by omega), l3]
      refine ⟨⟨by omega, by omega⟩, _, _, rfl, ?_⟩
      apply r_X9_spell_0 hM
      refine sq_isLetter hM ⟨_, _, rfl, ?_⟩
      rw [if_pos hp, e1, Int.toNat_natCast]
      have e3 : (up2 M1 181 l p) 172 12 = (l : Int) := by rw [up2_row _ _ _ _ (by decide), e1]
      rw [e3, up2_get]
      refine ⟨fun _ => ⟨fun _ => ⟨by omega, ⟨by omega, by omega⟩, _, rfl, ⟨n, ?_⟩, ?_⟩, fun z => by omega⟩, fun z => absurd z (by decide)⟩
      · obtain ⟨M2, hM2⟩ : ∃ z, z = up2 (up2 M1 181 l p) 172 12 ((l : Int) + 1) := ⟨_, rfl⟩
        have g : ∀ a b, M2 a b = if a = 172 ∧ b = 12 then (l : Int) + 1 else if a = 181 ∧ b = l then p else if a = 4 ∧ b = 11 then (l : Int) + 1 else if a = 171 ∧ b = l then p else M a b := fun a b => by rw [hM2]; show (if _ then _ else if _ then _ else M1 a b) = _; rw [g1]
        have gr : ∀ a, a ≠ 172 → a ≠ 181 → a ≠ 4 → a ≠ 171 → M2 a = M a := fun a _ _ _ _ => by funext b; rw [g, if_neg (by omega), if_neg (by omega), if_neg (by omega), if_neg (by omega)]
        rw [← hM2]
        have T := Towns_keep (M' := M2) (fun q hq => gr q (by omega) (by omega) (by omega) (by omega)) (by rw [g]; rfl) (by rw [g]; rfl) ⟨h1, h2, h3⟩
        refine ⟨T.1, T.2.1, T.2.2, Text_keep (by rw [g]; rfl) (by rw [g]; rfl) (gr _ (by decide) (by decide) (by decide) (by decide)) (gr _ (by decide) (by decide) (by decide) (by decide)) h4, ⟨l + 1, by omega, by rw [g]; rfl, by rw [g]; rfl, fun k hk => ?_⟩, Ledg_keep (by rw [g]; rfl) (by rw [g]; rfl) (gr _ (by decide) (by decide) (by decide) (by decide)) (gr _ (by decide) (by decide) (by decide) (by decide)) (gr _ (by decide) (by decide) (by decide) (by decide)) h6⟩
        have a1 : M2 171 k = if k = l then p else M 171 k := by rw [g]; simp
        have a2 : M2 181 k = if k = l then p else M 181 k := by rw [g]; simp
        rw [a1, a2]
        by_cases hkl : k = l
        · rw [if_pos hkl, if_pos hkl]; omega
        · rw [if_neg hkl, if_neg hkl]; exact l4 k (by omega)
      · rw [up2_row _ _ _ _ (by decide), up2_row _ _ _ _ (by decide), hM1, up2_row _ _ _ _ (by decide), up2_row _ _ _ _ (by decide)]
    · apply r_X9_spell_0 hM
      refine sq_isLetter hM ⟨_, _, rfl, ?_⟩
      rw [if_pos hp, l3]
      exact ⟨fun _ => ⟨fun z => by omega, fun _ => ⟨_, rfl, hR, rfl⟩⟩, fun z => absurd z (by decide)⟩
  · rw [if_neg hp]
    refine ⟨fun z => absurd rfl z, fun _ => ⟨_, _, rfl, ?_⟩⟩
    apply r_X9_spell_0 hM
    refine sq_isLetter hM ⟨_, _, rfl, ?_⟩
    rw [if_neg hp]
    exact ⟨fun z => absurd rfl z, fun _ => ⟨_, rfl, hR, rfl⟩⟩
end Ops2
