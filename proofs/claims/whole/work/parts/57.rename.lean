/-! rename: the loops -/
section Ren
variable {S : Shp} {M : Mem} {Q : Res → Prop}
theorem give_loop (hS : KC S) {i l : Nat} (hi : i < 8) (hl : l ≤ 6) (h : ∀ M', (∀ q, q ≠ 10 → M' q = M q) → (∀ z, M' 10 z = if 6 * i ≤ z ∧ z < 6 * i + l then M 171 (z - 6 * i) else M 10 z) → Q (S, M', none)) : ∀ (d k : Nat) (Mk : Mem), k + d = l → (∀ q, q ≠ 10 → Mk q = M q) → (∀ z, Mk 10 z = if 6 * i ≤ z ∧ z < 6 * i + k then M 171 (z - 6 * i) else M 10 z) → En 67 7 [some (.inr (.inr 9)), some (.inl (i : Int)), some (.inr (.inr 172)), some (.inl (l : Int)), some (.inl (k : Int))] [] S Mk Q := by
  have hw : S[171]? = some (0, 6, []) := sh_171 hS
  intro d
  induction d with
  | zero =>
    intro k Mk hk f1 f2
    have e : k = l := by omega
    subst e
    refine r_X7_giveName_7 (t := 8) hS (by decide) hw (by decide) ?_
    exact ⟨fun _ => h Mk f1 f2, fun z => by omega⟩
  | succ d ih =>
    intro k Mk hk f1 f2
    refine r_X7_giveName_7 (t := 8) hS (by decide) hw (by decide) ?_
    have e1 : (((i : Int) * 6) + k).toNat = 6 * i + k := by omega
    have ek : ((k : Int) + 1) = ((k + 1 : Nat) : Int) := by omega
    rw [e1, ek, Int.toNat_natCast]
    refine ⟨fun z => by omega, fun _ => ⟨fun z => by omega, fun _ => ⟨by unfold inR; omega, by unfold inR; omega, by omega, by omega, by unfold inR; omega, ?_⟩⟩⟩
    refine ih (k + 1) _ (by omega) (fun q hq => ?_) (fun z => ?_)
    · show up2 Mk 10 _ _ q = _
      rw [up2_row _ _ _ _ hq, f1 q hq]
    · show up2 Mk 10 (6 * i + k) (Mk 171 k) 10 z = _
      rw [up2_any, f1 171 (by decide)]
      by_cases hz : z = 6 * i + k
      · rw [if_pos ⟨rfl, hz⟩, if_pos (by omega : 6 * i ≤ z ∧ z < 6 * i + (k + 1))]; congr 1; omega
      · rw [if_neg (by omega : ¬ (10 = 10 ∧ z = 6 * i + k)), f2 z]
        by_cases hy : 6 * i ≤ z ∧ z < 6 * i + k
        · rw [if_pos hy, if_pos (by omega : 6 * i ≤ z ∧ z < 6 * i + (k + 1))]
        · rw [if_neg hy, if_neg (by omega : ¬ (6 * i ≤ z ∧ z < 6 * i + (k + 1)))]
theorem renM_loop (hM : KM S) {i l : Nat} {x2 : Int} (hi : i < 8) (hl : l ≤ 6) (h12 : M 172 12 = l) (h : ∀ M', (∀ q, q ≠ 180 → M' q = M q) → (∀ z, M' 180 z = if 8 + 6 * i ≤ z ∧ z < 8 + 6 * i + l then M 181 (z - (8 + 6 * i)) else M 180 z) → Q (S, M', some (.inl (M 180 (56 + i))))) : ∀ (d k : Nat) (Mk : Mem), k + d = l → (∀ q, q ≠ 180 → Mk q = M q) → (∀ z, Mk 180 z = if 8 + 6 * i ≤ z ∧ z < 8 + 6 * i + k then M 181 (z - (8 + 6 * i)) else M 180 z) → En 176 55 [some (.inr (.inr 173)), some (.inl (i : Int)), some (.inl x2), some (.inl (k : Int))] [] S Mk Q := by
  intro d
  induction d with
  | zero =>
    intro k Mk hk f1 f2
    have e : k = l := by omega
    subst e
    apply r_X9_rename_55 hM
    have e1 : ((56 : Int) + i).toNat = 56 + i := by omega
    rw [f1 172 (by decide), h12, e1, f2 (56 + i), if_neg (by omega : ¬ (8 + 6 * i ≤ 56 + i ∧ 56 + i < 8 + 6 * i + k))]
    exact ⟨fun _ => ⟨by unfold inR; omega, by omega, h Mk f1 f2⟩, fun z => by omega⟩
  | succ d ih =>
    intro k Mk hk f1 f2
    apply r_X9_rename_55 hM
    have e1 : (((8 : Int) + (6 : Int) * i) + k).toNat = 8 + 6 * i + k := by omega
    have ek : ((k : Int) + 1) = ((k + 1 : Nat) : Int) := by omega
    rw [f1 172 (by decide), h12, e1, ek, Int.toNat_natCast]
    refine ⟨fun z => by omega, fun _ => ⟨by unfold inR; omega, by unfold inR; omega, by unfold inR; omega, by omega, by omega, by unfold inR; omega, ?_⟩⟩
    refine ih (k + 1) _ (by omega) (fun q hq => ?_) (fun z => ?_)
    · rw [up2_row _ _ _ _ hq, f1 q hq]
    · rw [up2_any, f1 181 (by decide)]
      by_cases hz : z = 8 + 6 * i + k
      · rw [if_pos ⟨rfl, hz⟩, if_pos (by omega : 8 + 6 * i ≤ z ∧ z < 8 + 6 * i + (k + 1))]; congr 1; omega
      · rw [if_neg (by omega : ¬ (180 = 180 ∧ z = 8 + 6 * i + k)), f2 z]
        by_cases hy : 8 + 6 * i ≤ z ∧ z < 8 + 6 * i + k
        · rw [if_pos hy, if_pos (by omega : 8 + 6 * i ≤ z ∧ z < 8 + 6 * i + (k + 1))]
        · rw [if_neg hy, if_neg (by omega : ¬ (8 + 6 * i ≤ z ∧ z < 8 + 6 * i + (k + 1)))]
end Ren
