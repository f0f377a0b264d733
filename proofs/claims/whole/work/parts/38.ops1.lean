/-! CALLS THAT ARE EASY: text, word, ledger, letters, debts -/
def Sim (S : Shp) (M : Mem) (a b : Nat) (as : List AV) : Prop := Ca a (.inr (.inr 5) :: as) S M (fun r => ∃ (M1 : Mem) (v : Int), r = (S, M1, some (.inl v)) ∧ Ca b (.inr (.inr 173) :: as) S M1 (fun r' => ∃ M2 : Mem, r' = (S, M2, some (.inl v)) ∧ Rel M2 ∧ M2 0 = M 0))
/-- a call that changes nothing that lasts -/
theorem Sim.query {S : Shp} {M : Mem} {a b : Nat} {as : List AV} (hR : Rel M) (v : Int) (h1 : ∀ Q : Res → Prop, (∀ M', Same M M' → Q (S, M', some (.inl v))) → Ca a (.inr (.inr 5) :: as) S M Q) (h2 : ∀ M1, Same M M1 → Rel M1 → ∀ Q : Res → Prop, (∀ M', Same M1 M' → Q (S, M', some (.inl v))) → Ca b (.inr (.inr 173) :: as) S M1 Q) : Sim S M a b as := by
  refine h1 _ (fun M1 s1 => ⟨M1, v, rfl, h2 M1 s1 (Rel_same s1 hR) _ (fun M2 s2 => ⟨M2, rfl, Rel_same (s1.trans s2) hR, ?_⟩)⟩)
  funext k
  exact (s1.trans s2) 0 k (by unfold scr; omega)
theorem up2_same (M : Mem) (q k : Nat) : up2 M q k (M q k) = M := by
  funext a b
  unfold up2
  split
  · rename_i h; rw [h.1, h.2]
  · rfl
theorem up2_get (M : Mem) (q k : Nat) (v : Int) : up2 M q k v q k = v := by rw [up2_at, if_pos rfl]
theorem up2_row (M : Mem) (q k : Nat) (v : Int) {a : Nat} (h : a ≠ q) : up2 M q k v a = M a := up2_ne M q k v a h
theorem up2_off (M : Mem) (q k : Nat) (v : Int) {b : Nat} (h : b ≠ k) : up2 M q k v q b = M q b := by rw [up2_at, if_neg h]
theorem up2_any (M : Mem) (q k : Nat) (v : Int) (a b : Nat) : up2 M q k v a b = if a = q ∧ b = k then v else M a b := rfl
/-- a change that only touches some places: the towns stay -/
theorem Tn_keep {M M' : Mem} {t s n : Nat} (hT : ∀ j, j ≤ 10 → M' (t + j) = M (t + j)) (h4 : M' 174 = M 174) (h5 : M' 175 = M 175) (h9 : M' 179 = M 179) (h0 : M' 180 = M 180) (h : Tn M t s n) : Tn M' t s n :=
  Tn_congr (fun j hj k _ => by rw [hT j hj]) (fun k _ => by rw [h0]) (fun k _ => by rw [h4]) (fun k _ => by rw [h5]) (fun k _ => by rw [h9]) h
theorem Towns_keep {M M' : Mem} {n : Nat} (hq : ∀ q, (8 ≤ q ∧ q ≤ 18) ∨ (30 ≤ q ∧ q ≤ 143) ∨ q = 174 ∨ q = 175 ∨ q = 179 ∨ q = 180 → M' q = M q) (h10 : M' 172 10 = M 172 10) (h11 : M' 172 11 = M 172 11) (h : Tn M 8 0 n ∧ Undo M n ∧ Kept M n) : Tn M' 8 0 n ∧ Undo M' n ∧ Kept M' n := by
  obtain ⟨h1, ⟨u, u1, u2, u3, u4, u5, u6⟩, ⟨v, v1, v2, v3, v4, v5⟩⟩ := h
  have k4 := hq 174 (by omega)
  have k5 := hq 175 (by omega)
  have k9 := hq 179 (by omega)
  have k0 := hq 180 (by omega)
  refine ⟨Tn_keep (fun j hj => hq _ (by omega)) k4 k5 k9 k0 h1, ⟨u, u1, by rw [hq 30 (by omega)]; exact u2, by rw [h11]; exact u3, fun k hk => by rw [hq 31 (by omega)]; exact u4 k hk, fun a b ha hb hab => by rw [hq 31 (by omega)] at hab; exact u5 a b ha hb hab, fun k t hk ht => ?_⟩, ⟨v, v1, by rw [hq 120 (by omega)]; exact v2, by rw [h10]; exact v3, fun k hk => by rw [hq 121 (by omega)]; exact v4 k hk, fun k hk => ?_⟩⟩
  · rw [hq 31 (by omega)] at ht
    obtain ⟨t', ht', he⟩ := u4 k (by omega)
    have : t' = t := by rw [ht] at he; omega
    subst this
    have := undoT_in t' ht'
    exact Tn_keep (fun j hj => hq _ (by omega)) k4 k5 k9 k0 (u6 k t' hk ht)
  · exact Tn_keep (fun j hj => hq _ (by unfold keptT; omega)) k4 k5 k9 k0 (v5 k hk)
section Ops1
variable {S : Shp} {M : Mem}
theorem sp_isLetter {Q : Res → Prop} (hS : KC S) {x : Int} (h : Q (S, M, some (.inl (if 0 ≤ x ∧ x ≤ 25 then 1 else 0)))) : Ca 134 [.inl x] S M Q := by
  apply r_X8_isLetter_0 hS
  grind
theorem sp_isPerson {Q : Res → Prop} (hS : KC S) {n : Nat} (hn : M 8 0 = n) {x : Int} (h : Q (S, M, some (.inl (if 0 ≤ x ∧ x ≤ (n : Int) - 1 then 1 else 0)))) : Ca 132 [.inr (.inr 5), .inl x] S M Q := by
  apply r_X8_isPerson_0 hS
  rw [hn]
  grind
theorem sim_wipe (hS : KC S) (hM : KM S) (hR : Rel M) : Sim S M 95 144 [] := by
  obtain ⟨n, h1, h2, h3, ⟨l, l1, l2, l3, l4⟩, h5, h6⟩ := hR
  apply r_X8_wipe_0 hS
  refine ⟨_, _, rfl, ?_⟩
  apply r_X9_wipe_0 hM
  have e : up2 M 5 2 0 172 0 = M 5 2 := by rw [up2_any, if_neg (by decide), l3, l2]
  rw [e]
  obtain ⟨M2, hM2⟩ : ∃ z, z = up2 (up2 M 5 2 0) 172 0 0 := ⟨_, rfl⟩
  have g : ∀ a b, M2 a b = if a = 172 ∧ b = 0 then 0 else if a = 5 ∧ b = 2 then 0 else M a b := fun a b => by rw [hM2]; rfl
  have gr : ∀ a, a ≠ 172 → a ≠ 5 → M2 a = M a := fun a q1 q2 => by funext b; rw [g, if_neg (by omega), if_neg (by omega)]
  rw [← hM2]
  refine ⟨_, rfl, ⟨n, ?_⟩, gr 0 (by decide) (by decide)⟩
  have T := Towns_keep (M' := M2) (fun q hq => gr q (by omega) (by omega)) (by rw [g]; rfl) (by rw [g]; rfl) ⟨h1, h2, h3⟩
  obtain ⟨w, w1, w2, w3, w4⟩ := h5
  obtain ⟨v, v1, v2, v3, v4⟩ := h6
  refine ⟨T.1, T.2.1, T.2.2, ⟨0, by decide, by rw [g]; rfl, by rw [g]; rfl, fun k hk => absurd hk (by omega)⟩, ⟨w, w1, by rw [g]; exact w2, by rw [g]; exact w3, fun k hk => by rw [gr 171 (by decide) (by decide), gr 181 (by decide) (by decide)]; exact w4 k hk⟩, ⟨v, v1, by rw [g]; exact v2, by rw [g]; exact v3, fun k hk => by rw [gr 169 (by decide) (by decide), gr 170 (by decide) (by decide), gr 182 (by decide) (by decide)]; exact v4 k hk⟩⟩
end Ops1
