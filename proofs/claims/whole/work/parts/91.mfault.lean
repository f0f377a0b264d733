section MFault
variable {S : Shp} {M : Mem} {Q : Res → Prop} {T : Nat → Int} {L a : Nat} {σ : Nat → Int}
theorem sq_isItem (hM : KM S) (hp : Mg M T L a) (ha : a < L) (hc : MR M σ) (hs : SO σ) (h1 : ∀ a' σ' M', pI T L a σ = some (a', σ') → Mg M' T L a' → MR M' σ' → Rd M M' → Q (S, M', some (.inl 1))) (h0 : pI T L a σ = none → ∀ M', Rd M M' → Q (S, M', some (.inl 0))) : Ca 148 [.inr (.inr 173)] S M Q := by
  have hL := hp.2.1
  apply r_X9_isItem_0 hM
  rw [hp.2.2.1, Int.toNat_natCast, (hp.2.2.2 a ha).1]
  have p1 : Mg (up2 M 172 2 ((a : Int) + 1)) T L (a + 1) := Mg_Ln hp (Ln_2 _ _) (by rw [up2_get]; omega)
  have d1 : Ln M (up2 M 172 2 ((a : Int) + 1)) := Ln_2 _ _
  obtain ⟨M1, hM1⟩ : ∃ z, z = up2 M 172 2 ((a : Int) + 1) := ⟨_, rfl⟩
  rw [← hM1] at p1 d1 ⊢
  have c1 := MR_Ln hc d1
  have l1 := nL_le (T := T) (L := L) (a := a + 1)
  have l2 := nF_le (T := T) (L := L) (a := q1 T L a + 1)
  have l3 := nF_le (T := T) (L := L) (a := q2 T L a + 1)
  have e1 : q1 T L a = a + 1 + nL T L (a + 1) := rfl
  have e2 : q2 T L a = q1 T L a + 1 + nF T L (q1 T L a + 1) := rfl
  have e3 : q3 T L a = q2 T L a + 1 + nF T L (q2 T L a + 1) := rfl
  have lk : ∀ M' : Mem, (∀ k, k < nL T L (a + 1) → M' 188 k = T (a + 1 + k) - 97) → ∀ k, k < nL T L (a + 1) → M' 188 k = (lf T (a + 1) k : Int) ∧ lf T (a + 1) k < 26 := fun M' h k hk => by
    have := lf_in (T := T) (L := L) (b := a + 1) (k := k) hk
    rw [h k hk]
    exact ⟨this.2.symm, this.1⟩
  refine ⟨by omega, by unfold inR; omega, fun z => ⟨fun z1 => ?_, fun z1 => ⟨fun z2 => ?_, fun z2 => ⟨fun z3 => ⟨fun z4 => ?_, fun z4 => ⟨fun z5 => ?_, fun z5 => ⟨fun z6 => ?_, fun z6 => ?_⟩⟩⟩, fun z3 => ?_⟩⟩⟩, fun z => ?_⟩
  · unfold pI at h0 h1; rw [z1, if_neg (by decide), if_neg (by decide), if_neg (by decide), if_neg (by decide), if_pos rfl] at h0 h1
    rw [z1]
    refine it_40 hM p1 ha (fun q M2 n2 => ?_) (fun q M2 n2 p2 s2 f2 => gd_o hM q.2.1 s2 (lk M2 f2) (MR_Ln c1 n2) hs (fun hd M3 r3 d3 c3 => ?_) (fun hd M3 d3 => ?_))
    · rw [if_neg (fun w => q ⟨w.1, w.2.1, w.2.2.2⟩)] at h0
      exact h0 rfl _ (d1.rd.trans n2.rd)
    · rw [if_pos ⟨q.1, q.2.1, (bits_dist (fun k hk => (lf_in hk).1)).mpr hd, q.2.2⟩] at h1
      exact h1 _ _ _ rfl (Mg_rows p2 (r3 172 (by decide)) (r3 173 (by decide))) c3 ((d1.trans n2).rd.trans d3)
    · rw [if_neg (fun w => hd ((bits_dist (fun k hk => (lf_in hk).1)).mp w.2.2.1))] at h0
      exact h0 rfl _ ((d1.trans n2).rd.trans d3)
  · unfold pI at h0 h1; rw [z2, if_neg (by decide), if_neg (by decide), if_neg (by decide), if_neg (by decide), if_neg (by decide), if_pos rfl] at h0 h1
    rw [z2]
    refine it_40 hM p1 ha (fun q M2 n2 => ?_) (fun q M2 n2 p2 s2 f2 => gd_v hM q.2.1 s2 (lk M2 f2) (MR_Ln c1 n2) (fun M3 r3 d3 c3 => ?_))
    · rw [if_neg q] at h0
      exact h0 rfl _ (d1.rd.trans n2.rd)
    · rw [if_pos q] at h1
      exact h1 _ _ _ rfl (Mg_rows p2 (r3 172 (by decide)) (r3 173 (by decide))) c3 ((d1.trans n2).rd.trans d3)
  · unfold pI at h0 h1; rw [z4, if_neg (by decide), if_pos rfl] at h0 h1
    rw [z4]
    refine it_63 hM p1 ha (fun q M2 n2 => ?_) (fun q M2 n2 p2 v2 => gd_num hM (Or.inl ⟨rfl, rfl, rfl, rfl⟩) v2 (nV_in q.1.1) (MR_Ln c1 n2) (fun hd M3 r3 d3 c3 => ?_) (fun hd M3 d3 => ?_))
    · rw [if_neg q] at h0
      exact h0 rfl _ (d1.rd.trans n2.rd)
    · rw [if_pos q] at h1
      exact h1 _ _ _ rfl (Mg_rows p2 (r3 172 (by decide)) (r3 173 (by decide))) c3 ((d1.trans n2).rd.trans d3)
    · have := nV_in q.1.1
      omega
  · unfold pI at h0 h1; rw [z5, if_neg (by decide), if_neg (by decide), if_pos rfl] at h0 h1
    rw [z5]
    refine it_63 hM p1 ha (fun q M2 n2 => ?_) (fun q M2 n2 p2 v2 => gd_num hM (Or.inr (Or.inl ⟨rfl, rfl, rfl, rfl⟩)) v2 (nV_in q.1.1) (MR_Ln c1 n2) (fun hd M3 r3 d3 c3 => ?_) (fun hd M3 d3 => ?_))
    · rw [if_neg (fun w => q ⟨w.1, w.2.2⟩)] at h0
      exact h0 rfl _ (d1.rd.trans n2.rd)
    · rw [if_pos ⟨q.1, hd, q.2⟩] at h1
      exact h1 _ _ _ rfl (Mg_rows p2 (r3 172 (by decide)) (r3 173 (by decide))) c3 ((d1.trans n2).rd.trans d3)
    · rw [if_neg (fun w => by have := w.2.1; omega)] at h0
      exact h0 rfl _ ((d1.trans n2).rd.trans d3)
  · refine it_67 hM p1 (by omega) (fun q M2 n2 => h0 ?_ _ (d1.rd.trans n2.rd)) (fun q => absurd q (by decide))
    unfold pI
    rw [if_neg z, if_neg z4, if_neg z5, if_neg z6, if_neg z1, if_neg z2, if_neg z3]
  · unfold pI at h0 h1; rw [z6, if_neg (by decide), if_neg (by decide), if_neg (by decide), if_pos rfl] at h0 h1
    rw [z6]
    refine it_63 hM p1 ha (fun q M2 n2 => ?_) (fun q M2 n2 p2 v2 => gd_num hM (Or.inr (Or.inr ⟨rfl, rfl, rfl, rfl⟩)) v2 (nV_in q.1.1) (MR_Ln c1 n2) (fun hd M3 r3 d3 c3 => ?_) (fun hd M3 d3 => ?_))
    · rw [if_neg (fun w => q ⟨w.1, w.2.2⟩)] at h0
      exact h0 rfl _ (d1.rd.trans n2.rd)
    · rw [if_pos ⟨q.1, hd, q.2⟩] at h1
      exact h1 _ _ _ rfl (Mg_rows p2 (r3 172 (by decide)) (r3 173 (by decide))) c3 ((d1.trans n2).rd.trans d3)
    · rw [if_neg (fun w => by have := w.2.1; omega)] at h0
      exact h0 rfl _ ((d1.trans n2).rd.trans d3)
  · unfold pI at h0 h1; rw [z3, if_neg (by decide), if_neg (by decide), if_neg (by decide), if_neg (by decide), if_neg (by decide), if_neg (by decide), if_pos rfl] at h0 h1
    rw [z3]
    refine it_40 hM p1 ha (fun q M2 n2 => ?_) (fun q M2 n2 p2 s2 f2 => gd_q hM s2 (lk M2 f2) (MR_Ln c1 n2) hs (fun m2 s5 M3 r3 d3 c3 => ?_) (fun hd => ?_))
    · rw [if_neg (fun w => q ⟨by omega, by omega, w.2.2⟩)] at h0
      exact h0 rfl _ (d1.rd.trans n2.rd)
    · rw [if_pos ⟨m2, s5, q.2.2⟩] at h1
      exact h1 _ _ _ rfl (Mg_rows p2 (r3 172 (by decide) (by decide)) (r3 173 (by decide) (by decide))) c3 ((d1.trans n2).rd.trans d3)
    · rw [if_neg (fun w => hd ⟨w.1, w.2.1⟩)] at h0
      exact h0 rfl _ (d1.rd.trans n2.rd)
  · unfold pI at h0 h1; rw [z, if_pos rfl] at h0 h1
    rw [z]
    have no : ∀ (M2 : Mem) (b : Nat), b ≤ L + 1 → Mg M2 T L b → Ln M1 M2 → ¬ (nL T L (a + 1) ≤ 6 ∧ sg T L (q1 T L a) = 44 ∧ num T L (q1 T L a + 1) ∧ nV T L (q1 T L a + 1) ≤ 9 ∧ sg T L (q2 T L a) = 44 ∧ num T L (q2 T L a + 1) ∧ sg T L (q3 T L a) = 59 ∧ σ 0 < 8) → En 148 28 [some (.inr (.inr 173)), some (.inl 110), none] [] S M2 Q := fun M2 b hb p2 n2 q => by
      rw [if_neg q] at h0
      apply r_X9_isItem_28 hM
      apply r_X9_isItem_29 hM
      exact it_tail hM p2 (by omega) (fun _ => h0 rfl _ ((d1.trans n2).trans (Ln_2 _ _)).rd) (fun y => absurd rfl y)
    refine sq_isSpelt hM p1 (by omega) (fun M2 n2 a2 s2 f2 => ⟨_, _, rfl, ?_⟩)
    have p2 := Mg_Ln p1 n2 a2
    rw [← e1] at p2
    by_cases n6 : nL T L (a + 1) ≤ 6
    · rw [if_pos n6]
      refine ⟨fun y => absurd y (by decide), fun _ => ?_⟩
      refine sq_isMore hM p2 (by omega) (j := 0) (by decide) (fun g1 g2 M3 n3 a3 s3 f3 v3 => ⟨_, _, rfl, fun y => absurd y (by decide), fun _ => ?_⟩) (fun g M3 n3 a3 => ⟨_, _, rfl, fun _ => ?_, fun y => absurd rfl y⟩)
      · have p3 := Mg_Ln p2 n3 a3
        rw [← e2] at p3
        have := g2.1
        refine sq_isMore hM p3 (by omega) (j := 1) (by decide) (fun k1 k2 M4 n4 a4 s4 f4 v4 => ⟨_, _, rfl, fun y => absurd y (by decide), fun _ => ?_⟩) (fun g M4 n4 a4 => ⟨_, _, rfl, fun _ => ?_, fun y => absurd rfl y⟩)
        · have p4 := Mg_Ln p3 n4 a4
          rw [← e3] at p4
          have := k2.1
          have nn : Ln M1 M4 := n2.trans (n3.trans n4)
          apply r_X9_isItem_29 hM
          refine it_tail hM p4 (by omega) (fun y => ?_) (fun _ y => ?_)
          · rw [if_neg (fun q => ?_)] at h0
            · exact h0 rfl _ ((d1.trans nn).trans (Ln_2 _ _)).rd
            · rcases y with y | y
              · exact absurd y (by decide)
              · exact y q.2.2.2.2.2.2.1
          · have l5 : Ln M4 (up2 M4 172 2 ((q3 T L a + 1 : Nat) : Int)) := Ln_2 _ _
            have p5 : Mg (up2 M4 172 2 ((q3 T L a + 1 : Nat) : Int)) T L (q3 T L a + 1) := Mg_Ln p4 (Ln_2 _ _) (up2_get _ _ _ _)
            refine gd_n hM (m := nL T L (a + 1)) (v := nV T L (q1 T L a + 1)) (w := nV T L (q2 T L a + 1)) (f := fun k => T (a + 1 + k) - 97) ?_ ?_ n6 ?_ (fun k hk => ?_) (MR_Ln c1 (nn.trans l5)) hs (fun v9 s8 M6 r6 d6 c6 => ?_) (fun q => ?_)
            · rw [up2_row _ _ _ _ (by decide), v4, if_neg (by decide), v3, if_pos rfl]
            · rw [up2_row _ _ _ _ (by decide), v4, if_pos rfl]
            · rw [up2_off _ _ _ _ (by decide), s4, s3]; exact s2
            · rw [up2_row _ _ _ _ (by decide), f4, f3]; exact f2 k hk (by omega)
            · rw [if_pos ⟨n6, g1, g2, v9, k1, k2, y, s8⟩] at h1
              exact h1 _ _ _ rfl (Mg_rows p5 (r6 172 (by decide) (by decide) (by decide) (by decide)) (r6 173 (by decide) (by decide) (by decide) (by decide))) c6 ((d1.trans (nn.trans l5)).rd.trans d6)
            · rw [if_neg (fun w => q ⟨w.2.2.2.1, w.2.2.2.2.2.2.2⟩)] at h0
              exact h0 rfl _ (d1.trans (nn.trans l5)).rd
        · obtain ⟨b, b1, b2⟩ := a4
          exact no M4 b b1 (Mg_Ln p3 n4 b2) (n2.trans (n3.trans n4)) (fun q => g ⟨q.2.2.2.2.1, q.2.2.2.2.2.1⟩)
      · obtain ⟨b, b1, b2⟩ := a3
        exact no M3 b b1 (Mg_Ln p2 n3 b2) (n2.trans n3) (fun q => g ⟨q.2.1, q.2.2.1⟩)
    · rw [if_neg n6]
      exact ⟨fun _ => no M2 (q1 T L a) (by omega) p2 n2 (fun q => n6 q.1), fun y => absurd rfl y⟩
theorem sq_begins (hM : KM S) (h : ∀ M', (∀ q, q ≠ 174 → q ≠ 178 → M' q = M q) → (∀ k, k < 6 → M' 174 k = M 174 k) → MR M' σ0 → Q (S, M', none)) : Ca 152 [.inr (.inr 173)] S M Q := by
  have loop : ∀ (d k : Nat) (M1 : Mem), k + d = 26 → (∀ q, q ≠ 174 → q ≠ 178 → M1 q = M q) → (∀ k, k < 6 → M1 174 k = M 174 k) → (M1 174 6 = 0 ∧ M1 174 7 = 20 ∧ M1 174 8 = 3 ∧ M1 174 9 = 1 ∧ M1 174 11 = 1065233 ∧ M1 174 10 = 0) → (∀ j : Nat, j < k → M1 178 j = (j : Int)) → En 152 32 [some (.inr (.inr 173)), some (.inl (k : Int))] [] S M1 Q := by
    intro d
    induction d with
    | zero =>
      intro k M1 hk f1 f2 f3 f4
      have e : k = 26 := by omega
      subst e
      apply r_X9_begins_32 hM
      refine ⟨fun _ => h M1 f1 f2 ⟨f3, fun i hi => ?_, fun x hx => ?_, fun k hk => ?_⟩, fun z => by omega⟩
      · have : σ0 0 = 0 := rfl
        omega
      · rw [f4 x hx]
        unfold σ0
        rw [if_neg (by omega), if_neg (by omega), if_neg (by omega), if_neg (by omega), if_pos (by omega)]
        omega
      · have : σ0 5 = 0 := rfl
        omega
    | succ d ih =>
      intro k M1 hk f1 f2 f3 f4
      apply r_X9_begins_32 hM
      rw [Int.toNat_natCast, show ((k : Int) + 1) = ((k + 1 : Nat) : Int) by omega]
      refine ⟨fun z => by omega, fun _ => ⟨by omega, by unfold inR; omega, ih (k + 1) _ (by omega) (fun q a b => by rw [up2_row _ _ _ _ b]; exact f1 q a b) (fun j hj => by rw [up2_row _ _ _ _ (by decide)]; exact f2 j hj) (by rw [up2_row _ _ _ _ (by decide)]; exact f3) (fun j hj => ?_)⟩⟩
      rw [up2_at]
      by_cases hjk : j = k
      · rw [if_pos hjk, hjk]
      · rw [if_neg hjk]; exact f4 j (by omega)
  apply r_X9_begins_0 hM
  refine ⟨by decide, by decide, by decide, by decide, by decide, by decide, loop 26 0 _ rfl (fun q a b => ?_) (fun k hk => ?_) ?_ (fun j hj => by omega)⟩
  · rw [up2_row _ _ _ _ a, up2_row _ _ _ _ a, up2_row _ _ _ _ a, up2_row _ _ _ _ a, up2_row _ _ _ _ a, up2_row _ _ _ _ a]
  · rw [show (6 : Int).toNat = 6 from rfl, show (7 : Int).toNat = 7 from rfl, show (8 : Int).toNat = 8 from rfl, show (9 : Int).toNat = 9 from rfl, show (10 : Int).toNat = 10 from rfl, show (11 : Int).toNat = 11 from rfl]
    rw [up2_off _ _ _ _ (by omega), up2_off _ _ _ _ (by omega), up2_off _ _ _ _ (by omega), up2_off _ _ _ _ (by omega), up2_off _ _ _ _ (by omega), up2_off _ _ _ _ (by omega)]
  · simp [up2_any]
theorem mf_loop (hM : KM S) : ∀ (f : Nat) (M : Mem) (a : Nat) (σ : Nat → Int), L ≤ a + f → Mg M T L a → MR M σ → SO σ → (∀ M', Rd M M' → ((pL T L f a σ).1 = -4 → MR M' (pL T L f a σ).2 ∧ SO (pL T L f a σ).2) → Q (S, M', some (.inl (pL T L f a σ).1))) → En 154 5 [some (.inr (.inr 173)), none] [] S M Q := by
  intro f
  induction f with
  | zero =>
    intro M a σ hf hp hc hs h
    apply r_X9_fault_5 hM
    rw [hp.1, hp.2.2.1]
    exact ⟨fun _ => h M (Rd.refl M) (fun _ => ⟨hc, hs⟩), fun z => by omega⟩
  | succ f ih =>
    intro M a σ hf hp hc hs h
    apply r_X9_fault_5 hM
    rw [hp.1, hp.2.2.1]
    rw [pL] at h
    refine ⟨fun z => ?_, fun z => ?_⟩
    · rw [if_pos (by omega)] at h
      exact h M (Rd.refl M) (fun _ => ⟨hc, hs⟩)
    · rw [if_neg (by omega)] at h
      refine sq_isItem hM hp (by omega) hc hs (fun a' σ' M1 e p1 c1 d1 => ⟨_, _, rfl, fun _ => ?_, fun y => absurd y (by decide)⟩) (fun e M1 d1 => ⟨_, _, rfl, fun y => absurd rfl y, fun _ => ?_⟩)
      · rw [e] at h
        have := (pI_so hs e).2
        exact ih M1 a' σ' (by omega) p1 c1 (pI_so hs e).1 (fun M' d2 q => h M' (d1.trans d2) q)
      · rw [e] at h
        exact h M1 d1 (fun q => absurd q (by simp only []; omega))
/-- what the reference reads -/
theorem sq_fault (hM : KM S) (hp : M 172 0 = L ∧ L ≤ 200 ∧ ∀ k, k < L → M 173 k = T k ∧ 32 ≤ T k ∧ T k ≤ 126) (h : ∀ M', Rd M M' → ((pL T L 200 0 σ0).1 = -4 → MR M' (pL T L 200 0 σ0).2 ∧ SO (pL T L 200 0 σ0).2) → Q (S, M', some (.inl (pL T L 200 0 σ0).1))) : Ca 154 [.inr (.inr 173)] S M Q := by
  apply r_X9_fault_0 hM
  have hL := hp.2.1
  refine sq_begins hM (fun M1 g1 g2 g3 => ⟨_, rfl, ?_⟩)
  have d : Rd M M1 := ⟨fun q a b _ _ _ c _ _ _ => by rw [g1 q b c, up2_row _ _ _ _ a], fun k a _ => by rw [g1 172 (by decide) (by decide), up2_off _ _ _ _ a], fun k hk => by rw [g2 k hk, up2_row _ _ _ _ (by decide)], fun k _ => by rw [g1 175 (by decide) (by decide), up2_row _ _ _ _ (by decide)], fun k _ => by rw [g1 179 (by decide) (by decide), up2_row _ _ _ _ (by decide)]⟩
  refine mf_loop hM 200 _ 0 σ0 (by omega) (Mg_rows (M := up2 M 172 2 0) ⟨by rw [up2_off _ _ _ _ (by decide)]; exact hp.1, hp.2.1, up2_get _ _ _ _, fun k hk => by rw [up2_row _ _ _ _ (by decide)]; exact hp.2.2 k hk⟩ (g1 172 (by decide) (by decide)) (g1 173 (by decide) (by decide))) g3 SO_0 (fun M' d2 q => h M' (d.trans d2) q)
theorem Cd_same {M M' : Mem} (h : Cd M M' 19) : Same M M' := fun q k hq => by
  unfold scr at hq
  by_cases h5 : q = 5
  · subst h5; exact h.2 k (by omega)
  · rw [h.1 q h5 (by omega) (by omega)]
theorem Rd_same {M M' : Mem} (h : Rd M M') : Same M M' := fun q k hq => by
  unfold scr at hq
  by_cases h2 : q = 172
  · subst h2; exact h.2.1 k (by omega) (by omega)
  · by_cases h4 : q = 174
    · subst h4; exact h.2.2.1 k (by omega)
    · by_cases h5 : q = 175
      · subst h5; exact h.2.2.2.1 k (by omega)
      · by_cases h9 : q = 179
        · subst h9; exact h.2.2.2.2 k (by omega)
        · rw [h.1 q h2 h4 h5 (by omega) (by omega) (by omega) h9 (by omega) (by omega)]
end MFault
