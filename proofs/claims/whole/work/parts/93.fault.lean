section Fault
variable {S : Shp} {M : Mem}
theorem sim_fault (hS : KC S) (hM : KM S) (hR : Rel M) : Sim S M 96 154 [] := by
  obtain ⟨n, hT, hU, hK, ⟨L, hL, x2, x3, x4⟩, hW, hG⟩ := id hR
  refine Sim.query hR (pL (M 173) L 200 0 σ0).1 (fun Q h => ?_) (fun M1 s1 R1 Q h => ?_)
  · apply r_X8_fault_0 hS
    exact sp_readInto (T := M 173) (L := L) hS (by decide) ⟨x2, hL, x4⟩ (fun M' d _ => ⟨_, _, rfl, h M' (Cd_same d)⟩)
  · refine sq_fault (T := M 173) (L := L) hM ⟨by rw [s1 172 0 (by unfold scr; omega)]; exact x3, hL, fun k hk => ⟨s1 173 k (by unfold scr; omega), (x4 k hk).2⟩⟩ (fun M' d _ => h M' (Rd_same d))
/-- what becomes of the rest when a town is laid -/
theorem Rel_laid {M0 M M' : Mem} {σ : Nat → Int} {t n : Nat} (hR : Rel M0) (hc : CR M' t σ) (hs : SO σ) (hk : Tk M M' σ) (hn : σ 0 = (n : Int)) (h1 : 1 ≤ n) (h8 : ∀ j, j ≤ 10 → ∀ k, k < tlen j → M' (8 + j) k = M' (t + j) k) (z : M' 4 11 = 0 ∧ M' 168 2 = 0 ∧ M' 30 1 = 0 ∧ M' 120 1 = 0) (r : ∀ q, q = 31 ∨ q = 121 ∨ q = 6 ∨ q = 173 → M' q = M0 q) (r2 : M' 5 2 = M0 5 2 ∧ M' 172 0 = M0 172 0) : Rel M' := by
  obtain ⟨n0, hT, ⟨u, u1, u2, u3, u4, u5, u6⟩, ⟨v, v1, v2, v3, v4, v5⟩, ⟨L, hL, x2, x3, x4⟩, hW, hG⟩ := hR
  obtain ⟨k1, k2, k3, k4, k5, k6, k7, k8, k9⟩ := hk
  have tn : Tn M' t 0 n := Tn_new hc hs hn h1 k4 (fun i hi => k5 i (by omega)) k6 (fun i hi => k7 i (by omega)) k8 k9
  refine ⟨n, Tn_congr h8 (fun _ _ => rfl) (fun _ _ => rfl) (fun _ _ => rfl) (fun _ _ => rfl) tn, ⟨0, by omega, z.2.2.1, k3.2.1, ?_, ?_, fun k t hk => by omega⟩, ⟨0, by omega, z.2.2.2, k3.1, ?_, fun k hk => by omega⟩, ⟨L, hL, r2.1.trans x2, r2.2.trans x3, ?_⟩, ⟨0, by omega, z.1, k3.2.2.1, fun k hk => by omega⟩, ⟨0, by omega, z.2.1, k3.2.2.2, fun k hk => by omega⟩⟩
  · rw [r 31 (Or.inl rfl)]; exact u4
  · rw [r 31 (Or.inl rfl)]; exact u5
  · rw [r 121 (Or.inr (Or.inl rfl))]; exact v4
  · rw [r 6 (Or.inr (Or.inr (Or.inl rfl))), r 173 (Or.inr (Or.inr (Or.inr rfl)))]; exact x4
theorem sim_lay (hS : KC S) (hM : KM S) (hR : Rel M) : Sim S M 97 155 [] := by
  obtain ⟨n, hT, hU, hK, ⟨L, hL, x2, x3, x4⟩, hW, hG⟩ := id hR
  have ref : ∀ (M1 : Mem), M1 172 0 = (L : Int) → M1 173 = M 173 → ∀ Q : Res → Prop, (((pL (M 173) L 200 0 σ0).1 ≠ -4 ∨ (pL (M 173) L 200 0 σ0).2 0 = 0) → ∀ M', Rd M1 M' → Q (S, M', some (.inl (-2)))) → ((pL (M 173) L 200 0 σ0).1 = -4 → (pL (M 173) L 200 0 σ0).2 0 ≠ 0 → ∀ M2 M', Rd M1 M2 → Tk M2 M' (pL (M 173) L 200 0 σ0).2 → Q (S, M', some (.inl ((pL (M 173) L 200 0 σ0).2 0)))) → Ca 155 [.inr (.inr 173)] S M1 Q := fun M1 f0 f3 Q h0 h1 => by
    apply r_X9_lay_0 hM
    refine sq_fault (T := M 173) (L := L) hM ⟨f0, hL, fun k hk => ⟨by rw [f3], (x4 k hk).2⟩⟩ (fun M2 d c => ⟨_, _, rfl, fun z => h0 (Or.inl z) M2 d, fun z => ⟨by decide, ?_⟩⟩)
    obtain ⟨c1, c2⟩ := c z
    rw [show (6 : Int).toNat = 6 from rfl, c1.1.1]
    refine ⟨fun y => sq_takes hM c1 c2 (fun M3 k3 => ⟨_, rfl, by decide, ?_⟩), fun y => h0 (Or.inr y) M2 d⟩
    rw [show (0 : Int).toNat = 0 from rfl, k3.2.2.2.1.1]
    exact h1 z y M2 M3 d k3
  show Ca 97 [.inr (.inr 5)] S M _
  apply r_X8_lay_0 hS
  refine sp_readInto (T := M 173) (L := L) (t := 19) hS (by decide) ⟨x2, hL, x4⟩ (fun M1 d c => ⟨_, _, rfl, fun z => ?_, fun z => ?_⟩)
  · have s1 := Cd_same d
    refine ⟨_, _, rfl, ref M1 (by rw [s1 172 0 (by unfold scr; omega)]; exact x3) (by funext k; exact s1 173 k (by unfold scr; omega)) _ (fun _ M2 d2 => ?_) (fun y => absurd y z)⟩
    have s2 := s1.trans (Rd_same d2)
    exact ⟨M2, rfl, Rel_same s2 hR, by funext k; exact s2 0 k (by unfold scr; omega)⟩
  · obtain ⟨c1, c2⟩ := c z
    rw [c1.1.1]
    have s1 := Cd_same d
    refine ⟨fun y => ?_, fun y => ?_⟩
    · refine sp_copyFrom (t := 8) (o := 19) hS (by decide) (by decide) (by decide) (fun M2 hc => ⟨_, rfl, ?_⟩)
      have t0 : M2 8 0 = (pL (M 173) L 200 0 σ0).2 0 := by rw [← c1.1.1]; exact hc.2 0 (by decide) 0 (by decide)
      have e8 : (up2 (up2 (up2 (up2 M2 4 11 (0 : Int)) 168 2 (0 : Int)) 30 1 (0 : Int)) 120 1 (0 : Int)) 8 0 = (pL (M 173) L 200 0 σ0).2 0 := by
        rw [up2_row _ _ _ _ (by decide), up2_row _ _ _ _ (by decide), up2_row _ _ _ _ (by decide), up2_row _ _ _ _ (by decide)]; exact t0
      rw [e8]
      obtain ⟨M3, hM3⟩ : ∃ z, z = up2 (up2 (up2 (up2 M2 4 11 (0 : Int)) 168 2 (0 : Int)) 30 1 (0 : Int)) 120 1 (0 : Int) := ⟨_, rfl⟩
      rw [← hM3]
      have R3 : ∀ q, q ≠ 4 → q ≠ 168 → q ≠ 30 → q ≠ 120 → M3 q = M2 q := fun q a b c d => by rw [hM3, up2_row _ _ _ _ d, up2_row _ _ _ _ c, up2_row _ _ _ _ b, up2_row _ _ _ _ a]
      have R1 : ∀ q, q ≠ 4 → q ≠ 168 → q ≠ 30 → q ≠ 120 → ¬ (8 ≤ q ∧ q ≤ 18) → M3 q = M1 q := fun q a b c d e => by rw [R3 q a b c d, hc.1 q (by omega)]
      have z3 : M3 4 11 = 0 ∧ M3 168 2 = 0 ∧ M3 30 1 = 0 ∧ M3 120 1 = 0 := by rw [hM3]; simp [up2_any]
      refine ⟨_, _, rfl, ref M3 ?_ ?_ _ (fun w => ?_) (fun _ _ M4 M5 d4 k5 => ?_)⟩
      · rw [R1 172 (by decide) (by decide) (by decide) (by decide) (by decide), s1 172 0 (by unfold scr; omega)]; exact x3
      · funext k; rw [R1 173 (by decide) (by decide) (by decide) (by decide) (by decide)]; exact s1 173 k (by unfold scr; omega)
      · rcases w with w | w
        · exact absurd z w
        · exact absurd w y
      · have R5 : ∀ q, q < 172 → M5 q = M3 q := fun q hq => by rw [k5.1 q (by omega) (by omega) (by omega) (by omega) (by omega), d4.1 q (by omega) (by omega) (by omega) (by omega) (by omega) (by omega) (by omega) (by omega) (by omega)]
        have R173 : M5 173 = M3 173 := by rw [k5.1 173 (by decide) (by decide) (by decide) (by decide) (by decide), d4.1 173 (by decide) (by decide) (by decide) (by decide) (by decide) (by decide) (by decide) (by decide) (by decide)]
        have e0 : M5 0 = M 0 := by
          funext k
          rw [R5 0 (by decide), R1 0 (by decide) (by decide) (by decide) (by decide) (by decide)]
          exact s1 0 k (by unfold scr; omega)
        obtain ⟨m, hm⟩ : ∃ m : Nat, (pL (M 173) L 200 0 σ0).2 0 = (m : Int) := ⟨((pL (M 173) L 200 0 σ0).2 0).toNat, by have := c2.1; omega⟩
        refine ⟨M5, rfl, Rel_laid (t := 19) (n := m) hR (CR_rows c1 (fun j hj => ?_) ?_) c2 k5 hm (by omega) (fun j hj k hk => ?_) ?_ (fun q hq => ?_) ⟨?_, ?_⟩, e0⟩
        · rw [R5 _ (by omega), R1 _ (by omega) (by omega) (by omega) (by omega) (by omega)]
        · rw [R5 _ (by omega), R1 _ (by omega) (by omega) (by omega) (by omega) (by omega)]
        · rw [R5 _ (by omega), R5 _ (by omega), R3 _ (by omega) (by omega) (by omega) (by omega), R1 _ (by omega) (by omega) (by omega) (by omega) (by omega)]
          exact hc.2 j hj k hk
        · rw [R5 4 (by decide), R5 168 (by decide), R5 30 (by decide), R5 120 (by decide)]; exact z3
        · rcases hq with e | e | e | e
          · subst e; funext k; rw [R5 _ (by decide), R1 _ (by decide) (by decide) (by decide) (by decide) (by decide)]; exact s1 _ k (by unfold scr; omega)
          · subst e; funext k; rw [R5 _ (by decide), R1 _ (by decide) (by decide) (by decide) (by decide) (by decide)]; exact s1 _ k (by unfold scr; omega)
          · subst e; funext k; rw [R5 _ (by decide), R1 _ (by decide) (by decide) (by decide) (by decide) (by decide)]; exact s1 _ k (by unfold scr; omega)
          · subst e; funext k; rw [R173, R1 _ (by decide) (by decide) (by decide) (by decide) (by decide)]; exact s1 _ k (by unfold scr; omega)
        · rw [R5 _ (by decide), R1 _ (by decide) (by decide) (by decide) (by decide) (by decide)]; exact s1 _ _ (by unfold scr; omega)
        · rw [k5.2.1 0 (by decide) (by decide) (by decide) (by decide), d4.2.1 0 (by decide) (by decide), R1 _ (by decide) (by decide) (by decide) (by decide) (by decide)]; exact s1 _ _ (by unfold scr; omega)
    · refine ⟨_, _, rfl, ref M1 (by rw [s1 172 0 (by unfold scr; omega)]; exact x3) (by funext k; exact s1 173 k (by unfold scr; omega)) _ (fun _ M2 d2 => ?_) (fun _ w => absurd y w)⟩
      have s2 := s1.trans (Rd_same d2)
      exact ⟨M2, rfl, Rel_same s2 hR, by funext k; exact s2 0 k (by unfold scr; omega)⟩
end Fault
