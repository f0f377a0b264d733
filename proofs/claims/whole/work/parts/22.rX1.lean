/-! REGIONS of X1: by wip/gen/reggen.py -/
theorem r_X1_add_0 {S : Shp} {M : Mem} {Q : Res → Prop} (hS : KC S) {p1 p2 : Int} (h : (((M 168 2) < (8 : Int) → (0 ≤ (M 168 2) ∧ (M 168 2) < 8) ∧ (0 ≤ ((up2 M 169 (M 168 2).toNat p1) 168 2) ∧ ((up2 M 169 (M 168 2).toNat p1) 168 2) < 8) ∧ (inR (((up2 (up2 M 169 (M 168 2).toNat p1) 170 ((up2 M 169 (M 168 2).toNat p1) 168 2).toNat p2) 168 2) + (1 : Int))) ∧ Q (S, up2 (up2 (up2 M 169 (M 168 2).toNat p1) 170 ((up2 M 169 (M 168 2).toNat p1) 168 2).toNat p2) 168 2 (((up2 (up2 M 169 (M 168 2).toNat p1) 170 ((up2 M 169 (M 168 2).toNat p1) 168 2).toNat p2) 168 2) + (1 : Int)), some (.inl (1 : Int)))) ∧ ((8 : Int) ≤ (M 168 2) → Q (S, M, some (.inl (0 : Int)))))) : Ca 6 [.inr (.inr 169), .inl p1, .inl p2] S M Q := by
  have hP : PR 6 = (bc_6, 3) := rfl
  refine ⟨Nat.le_of_ble_eq_true rfl, ?_⟩
  show En 6 0 [some (.inr (.inr 169)), some (.inl p1), some (.inl p2)] [] S M Q
  refine e_ld hP rfl rfl ?_
  refine e_gI (a := 1) 168 (sh_168 hS) hP rfl (by decide) ?_
  refine e_c hP rfl ?_
  refine e_clt hP rfl (fun hc => ?_) (fun hc => ?_)
  · have h := h.1 hc
    refine e_ld hP rfl rfl ?_
    refine e_gR (a := 1) (w := 170) 168 (sh_168 hS) hP rfl (by decide) rfl ?_
    refine e_ld hP rfl rfl ?_
    refine e_gI (a := 1) 168 (sh_168 hS) hP rfl (by decide) ?_
    refine e_ld hP rfl rfl ?_
    obtain ⟨hs1, h⟩ := h
    refine e_as 169 (sh_169 hS) (by decide) hP rfl hs1 ?_
    refine e_ld hP rfl rfl ?_
    refine e_gR (a := 1) (w := 171) 168 (sh_168 hS) hP rfl (by decide) rfl ?_
    refine e_ld hP rfl rfl ?_
    refine e_gI (a := 1) 168 (sh_168 hS) hP rfl (by decide) ?_
    refine e_ld hP rfl rfl ?_
    obtain ⟨hs2, h⟩ := h
    refine e_as 170 (sh_170 hS) (by decide) hP rfl hs2 ?_
    refine e_ld hP rfl rfl ?_
    refine e_dupR hP rfl ?_
    refine e_gI (a := 1) 168 (sh_168 hS) hP rfl (by decide) ?_
    refine e_c hP rfl ?_
    obtain ⟨hs3, h⟩ := h
    refine e_add hP rfl hs3 ?_
    refine e_pI (a := 1) 168 (sh_168 hS) (by decide) hP rfl (by decide) ?_
    refine e_c hP rfl ?_
    exact e_ret hP rfl rfl h
  · have h := h.2 hc
    refine e_c hP rfl ?_
    exact e_ret hP rfl rfl h
theorem r_X1_canBe_0 {S : Shp} {M : Mem} {Q : Res → Prop} (hS : KC S) {p1 p2 : Int} (h : Ca 76 [.inr (.inr 147), .inl p2] S M (fun r => ∃ (M1 : Mem) (v2 : Int), r = (S, M1, some (.inl v2)) ∧ (0 ≤ p1 ∧ p1 < 8) ∧ ((v2 ≠ (M1 169 p1.toNat) → Q (S, M1, some (.inl (0 : Int)))) ∧ (v2 = (M1 169 p1.toNat) → Ca 18 [.inr (.inr 145), .inl p2] S M1 (fun r => ∃ (M4 : Mem) (v5 : Int), r = (S, M4, some (.inl v5)) ∧ (0 ≤ p1 ∧ p1 < 8) ∧ ((v5 ≠ (M4 170 p1.toNat) → Q (S, M4, some (.inl (0 : Int)))) ∧ (v5 = (M4 170 p1.toNat) → Q (S, M4, some (.inl (1 : Int)))))))))) : Ca 7 [.inr (.inr 169), .inl p1, .inl p2, .inr (.inr 145)] S M Q := by
  have hP : PR 7 = (bc_7, 4) := rfl
  refine ⟨Nat.le_of_ble_eq_true rfl, ?_⟩
  show En 7 0 [some (.inr (.inr 169)), some (.inl p1), some (.inl p2), some (.inr (.inr 145))] [] S M Q
  refine e_ld hP rfl rfl ?_
  refine e_gR (a := 2) (w := 147) 144 (sh_144 hS) hP rfl (by decide) rfl ?_
  refine e_ld hP rfl rfl ?_
  refine e_call hP rfl rfl rfl (Nat.le_of_ble_eq_true rfl) (Nat.le_of_ble_eq_true rfl) (rcv0 (sh_146 hS) (by decide)) ?_
  refine Ca.mono h (fun r hr => ?_)
  obtain ⟨M1, v2, rfl, h⟩ := hr
  show En 7 4 [some (.inr (.inr 169)), some (.inl p1), some (.inl p2), some (.inr (.inr 145))] [.inl v2] S M1 Q
  refine e_ld hP rfl rfl ?_
  refine e_gR (a := 1) (w := 170) 168 (sh_168 hS) hP rfl (by decide) rfl ?_
  refine e_ld hP rfl rfl ?_
  obtain ⟨hs3, h⟩ := h
  refine e_al 169 (sh_169 hS) hP rfl hs3 ?_
  refine e_cne hP rfl (fun hc => ?_) (fun hc => ?_)
  · have h := h.1 hc
    refine e_c hP rfl ?_
    exact e_ret hP rfl rfl h
  · have h := h.2 hc
    refine e_ld hP rfl rfl ?_
    refine e_ld hP rfl rfl ?_
    refine e_call hP rfl rfl rfl (Nat.le_of_ble_eq_true rfl) (Nat.le_of_ble_eq_true rfl) (rcv0 (sh_144 hS) (by decide)) ?_
    refine Ca.mono h (fun r hr => ?_)
    obtain ⟨M4, v5, rfl, h⟩ := hr
    show En 7 12 [some (.inr (.inr 169)), some (.inl p1), some (.inl p2), some (.inr (.inr 145))] [.inl v5] S M4 Q
    refine e_ld hP rfl rfl ?_
    refine e_gR (a := 1) (w := 171) 168 (sh_168 hS) hP rfl (by decide) rfl ?_
    refine e_ld hP rfl rfl ?_
    obtain ⟨hs6, h⟩ := h
    refine e_al 170 (sh_170 hS) hP rfl hs6 ?_
    refine e_cne hP rfl (fun hc => ?_) (fun hc => ?_)
    · have h := h.1 hc
      refine e_c hP rfl ?_
      exact e_ret hP rfl rfl h
    · have h := h.2 hc
      refine e_c hP rfl ?_
      refine e_go hP rfl ?_
      exact e_ret hP rfl rfl h
theorem r_X1_candidates_0 {S : Shp} {M : Mem} {Q : Res → Prop} (hS : KC S) {p1 : Int} (h : En 8 4 [some (.inr (.inr 169)), some (.inl p1), some (.inr (.inr 145)), some (.inl (0 : Int)), some (.inl (0 : Int))] [] S M Q) : Ca 8 [.inr (.inr 169), .inl p1, .inr (.inr 145)] S M Q := by
  have hP : PR 8 = (bc_8, 5) := rfl
  refine ⟨Nat.le_of_ble_eq_true rfl, ?_⟩
  show En 8 0 [some (.inr (.inr 169)), some (.inl p1), some (.inr (.inr 145)), none, none] [] S M Q
  refine e_c hP rfl ?_
  refine e_st (L' := [some (.inr (.inr 169)), some (.inl p1), some (.inr (.inr 145)), some (.inl (0 : Int)), none]) hP rfl rfl ?_
  refine e_c hP rfl ?_
  refine e_st (L' := [some (.inr (.inr 169)), some (.inl p1), some (.inr (.inr 145)), some (.inl (0 : Int)), some (.inl (0 : Int))]) hP rfl rfl ?_
  exact h
theorem r_X1_candidates_4 {S : Shp} {M : Mem} {Q : Res → Prop} (hS : KC S) {x1 x3 x4 : Int} (h : (((M 146 0) ≤ x4 → Q (S, M, some (.inl x3))) ∧ (x4 < (M 146 0) → Ca 7 [.inr (.inr 169), .inl x1, .inl x4, .inr (.inr 145)] S M (fun r => ∃ (M1 : Mem) (v2 : Int), r = (S, M1, some (.inl v2)) ∧ ((v2 = 0 → (inR (x3 + (0 : Int))) ∧ (inR (x4 + 1)) ∧ En 8 4 [some (.inr (.inr 169)), some (.inl x1), some (.inr (.inr 145)), some (.inl (x3 + (0 : Int))), some (.inl (x4 + 1))] [] S M1 Q) ∧ (v2 ≠ 0 → (inR (x3 + (1 : Int))) ∧ (inR (x4 + 1)) ∧ En 8 4 [some (.inr (.inr 169)), some (.inl x1), some (.inr (.inr 145)), some (.inl (x3 + (1 : Int))), some (.inl (x4 + 1))] [] S M1 Q)))))) : En 8 4 [some (.inr (.inr 169)), some (.inl x1), some (.inr (.inr 145)), some (.inl x3), some (.inl x4)] [] S M Q := by
  have hP : PR 8 = (bc_8, 5) := rfl
  refine e_ld hP rfl rfl ?_
  refine e_ld hP rfl rfl ?_
  refine e_gR (a := 2) (w := 147) 144 (sh_144 hS) hP rfl (by decide) rfl ?_
  refine e_gI (a := 7) 146 (sh_146 hS) hP rfl (by decide) ?_
  refine e_cge hP rfl (fun hc => ?_) (fun hc => ?_)
  · have h := h.1 hc
    refine e_ld hP rfl rfl ?_
    exact e_ret hP rfl rfl h
  · have h := h.2 hc
    refine e_ld hP rfl rfl ?_
    refine e_ld hP rfl rfl ?_
    refine e_ld hP rfl rfl ?_
    refine e_ld hP rfl rfl ?_
    refine e_ld hP rfl rfl ?_
    refine e_call hP rfl rfl rfl (Nat.le_of_ble_eq_true rfl) (Nat.le_of_ble_eq_true rfl) (rcv0 (sh_168 hS) (by decide)) ?_
    refine Ca.mono h (fun r hr => ?_)
    obtain ⟨M1, v2, rfl, h⟩ := hr
    show En 8 15 [some (.inr (.inr 169)), some (.inl x1), some (.inr (.inr 145)), some (.inl x3), some (.inl x4)] [.inl v2, .inl x3] S M1 Q
    refine e_zeq hP rfl (fun hc => ?_) (fun hc => ?_)
    · have h := h.1 hc
      refine e_c hP rfl ?_
      obtain ⟨hs3, h⟩ := h
      refine e_add hP rfl hs3 ?_
      refine e_st (L' := [some (.inr (.inr 169)), some (.inl x1), some (.inr (.inr 145)), some (.inl (x3 + (0 : Int))), some (.inl x4)]) hP rfl rfl ?_
      obtain ⟨hs4, h⟩ := h
      refine e_inc (L' := [some (.inr (.inr 169)), some (.inl x1), some (.inr (.inr 145)), some (.inl (x3 + (0 : Int))), some (.inl (x4 + 1))]) hP rfl rfl hs4 rfl ?_
      refine e_go hP rfl ?_
      exact h
    · have h := h.2 hc
      refine e_c hP rfl ?_
      refine e_go hP rfl ?_
      obtain ⟨hs5, h⟩ := h
      refine e_add hP rfl hs5 ?_
      refine e_st (L' := [some (.inr (.inr 169)), some (.inl x1), some (.inr (.inr 145)), some (.inl (x3 + (1 : Int))), some (.inl x4)]) hP rfl rfl ?_
      obtain ⟨hs6, h⟩ := h
      refine e_inc (L' := [some (.inr (.inr 169)), some (.inl x1), some (.inr (.inr 145)), some (.inl (x3 + (1 : Int))), some (.inl (x4 + 1))]) hP rfl rfl hs6 rfl ?_
      refine e_go hP rfl ?_
      exact h
theorem r_X1_alikeAbove_0 {S : Shp} {M : Mem} {Q : Res → Prop} (hS : KC S) {p1 : Int} (h : En 9 4 [some (.inr (.inr 169)), some (.inl p1), some (.inl (0 : Int)), some (.inl (0 : Int))] [] S M Q) : Ca 9 [.inr (.inr 169), .inl p1] S M Q := by
  have hP : PR 9 = (bc_9, 4) := rfl
  refine ⟨Nat.le_of_ble_eq_true rfl, ?_⟩
  show En 9 0 [some (.inr (.inr 169)), some (.inl p1), none, none] [] S M Q
  refine e_c hP rfl ?_
  refine e_st (L' := [some (.inr (.inr 169)), some (.inl p1), some (.inl (0 : Int)), none]) hP rfl rfl ?_
  refine e_c hP rfl ?_
  refine e_st (L' := [some (.inr (.inr 169)), some (.inl p1), some (.inl (0 : Int)), some (.inl (0 : Int))]) hP rfl rfl ?_
  exact h
theorem r_X1_alikeAbove_4 {S : Shp} {M : Mem} {Q : Res → Prop} (hS : KC S) {x1 x2 x3 : Int} (h : ((x1 ≤ x3 → Q (S, M, some (.inl x2))) ∧ (x3 < x1 → (0 ≤ x3 ∧ x3 < 8) ∧ (0 ≤ x1 ∧ x1 < 8) ∧ (((M 169 x3.toNat) ≠ (M 169 x1.toNat) → (inR (x2 + (0 : Int))) ∧ (inR (x3 + 1)) ∧ En 9 4 [some (.inr (.inr 169)), some (.inl x1), some (.inl (x2 + (0 : Int))), some (.inl (x3 + 1))] [] S M Q) ∧ ((M 169 x3.toNat) = (M 169 x1.toNat) → (0 ≤ x3 ∧ x3 < 8) ∧ (0 ≤ x1 ∧ x1 < 8) ∧ (((M 170 x3.toNat) ≠ (M 170 x1.toNat) → (inR (x2 + (0 : Int))) ∧ (inR (x3 + 1)) ∧ En 9 4 [some (.inr (.inr 169)), some (.inl x1), some (.inl (x2 + (0 : Int))), some (.inl (x3 + 1))] [] S M Q) ∧ ((M 170 x3.toNat) = (M 170 x1.toNat) → (inR (x2 + (1 : Int))) ∧ (inR (x3 + 1)) ∧ En 9 4 [some (.inr (.inr 169)), some (.inl x1), some (.inl (x2 + (1 : Int))), some (.inl (x3 + 1))] [] S M Q))))))) : En 9 4 [some (.inr (.inr 169)), some (.inl x1), some (.inl x2), some (.inl x3)] [] S M Q := by
  have hP : PR 9 = (bc_9, 4) := rfl
  refine e_ld hP rfl rfl ?_
  refine e_ld hP rfl rfl ?_
  refine e_cge hP rfl (fun hc => ?_) (fun hc => ?_)
  · have h := h.1 hc
    refine e_ld hP rfl rfl ?_
    exact e_ret hP rfl rfl h
  · have h := h.2 hc
    refine e_ld hP rfl rfl ?_
    refine e_ld hP rfl rfl ?_
    refine e_gR (a := 1) (w := 170) 168 (sh_168 hS) hP rfl (by decide) rfl ?_
    refine e_ld hP rfl rfl ?_
    obtain ⟨hs1, h⟩ := h
    refine e_al 169 (sh_169 hS) hP rfl hs1 ?_
    refine e_ld hP rfl rfl ?_
    refine e_gR (a := 1) (w := 170) 168 (sh_168 hS) hP rfl (by decide) rfl ?_
    refine e_ld hP rfl rfl ?_
    obtain ⟨hs2, h⟩ := h
    refine e_al 169 (sh_169 hS) hP rfl hs2 ?_
    refine e_cne hP rfl (fun hc => ?_) (fun hc => ?_)
    · have h := h.1 hc
      refine e_c hP rfl ?_
      obtain ⟨hs3, h⟩ := h
      refine e_add hP rfl hs3 ?_
      refine e_st (L' := [some (.inr (.inr 169)), some (.inl x1), some (.inl (x2 + (0 : Int))), some (.inl x3)]) hP rfl rfl ?_
      obtain ⟨hs4, h⟩ := h
      refine e_inc (L' := [some (.inr (.inr 169)), some (.inl x1), some (.inl (x2 + (0 : Int))), some (.inl (x3 + 1))]) hP rfl rfl hs4 rfl ?_
      refine e_go hP rfl ?_
      exact h
    · have h := h.2 hc
      refine e_ld hP rfl rfl ?_
      refine e_gR (a := 1) (w := 171) 168 (sh_168 hS) hP rfl (by decide) rfl ?_
      refine e_ld hP rfl rfl ?_
      obtain ⟨hs5, h⟩ := h
      refine e_al 170 (sh_170 hS) hP rfl hs5 ?_
      refine e_ld hP rfl rfl ?_
      refine e_gR (a := 1) (w := 171) 168 (sh_168 hS) hP rfl (by decide) rfl ?_
      refine e_ld hP rfl rfl ?_
      obtain ⟨hs6, h⟩ := h
      refine e_al 170 (sh_170 hS) hP rfl hs6 ?_
      refine e_cne hP rfl (fun hc => ?_) (fun hc => ?_)
      · have h := h.1 hc
        refine e_c hP rfl ?_
        obtain ⟨hs7, h⟩ := h
        refine e_add hP rfl hs7 ?_
        refine e_st (L' := [some (.inr (.inr 169)), some (.inl x1), some (.inl (x2 + (0 : Int))), some (.inl x3)]) hP rfl rfl ?_
        obtain ⟨hs8, h⟩ := h
        refine e_inc (L' := [some (.inr (.inr 169)), some (.inl x1), some (.inl (x2 + (0 : Int))), some (.inl (x3 + 1))]) hP rfl rfl hs8 rfl ?_
        refine e_go hP rfl ?_
        exact h
      · have h := h.2 hc
        refine e_c hP rfl ?_
        refine e_go hP rfl ?_
        obtain ⟨hs9, h⟩ := h
        refine e_add hP rfl hs9 ?_
        refine e_st (L' := [some (.inr (.inr 169)), some (.inl x1), some (.inl (x2 + (1 : Int))), some (.inl x3)]) hP rfl rfl ?_
        obtain ⟨hs10, h⟩ := h
        refine e_inc (L' := [some (.inr (.inr 169)), some (.inl x1), some (.inl (x2 + (1 : Int))), some (.inl (x3 + 1))]) hP rfl rfl hs10 rfl ?_
        refine e_go hP rfl ?_
        exact h
theorem r_X1_countWays_0 {S : Shp} {M : Mem} {Q : Res → Prop} (hS : KC S) (h : En 10 4 [some (.inr (.inr 169)), some (.inr (.inr 145)), some (.inl (1 : Int)), some (.inl (0 : Int))] [] S M Q) : Ca 10 [.inr (.inr 169), .inr (.inr 145)] S M Q := by
  have hP : PR 10 = (bc_10, 4) := rfl
  refine ⟨Nat.le_of_ble_eq_true rfl, ?_⟩
  show En 10 0 [some (.inr (.inr 169)), some (.inr (.inr 145)), none, none] [] S M Q
  refine e_c hP rfl ?_
  refine e_st (L' := [some (.inr (.inr 169)), some (.inr (.inr 145)), some (.inl (1 : Int)), none]) hP rfl rfl ?_
  refine e_c hP rfl ?_
  refine e_st (L' := [some (.inr (.inr 169)), some (.inr (.inr 145)), some (.inl (1 : Int)), some (.inl (0 : Int))]) hP rfl rfl ?_
  exact h
theorem r_X1_countWays_4 {S : Shp} {M : Mem} {Q : Res → Prop} (hS : KC S) {x2 x3 : Int} (h : (((M 168 2) ≤ x3 → Q (S, M, some (.inl x2))) ∧ (x3 < (M 168 2) → Ca 8 [.inr (.inr 169), .inl x3, .inr (.inr 145)] S M (fun r => ∃ (M1 : Mem) (v2 : Int), r = (S, M1, some (.inl v2)) ∧ Ca 9 [.inr (.inr 169), .inl x3] S M1 (fun r => ∃ (M3 : Mem) (v4 : Int), r = (S, M3, some (.inl v4)) ∧ (inR (v2 - v4)) ∧ (inR (x2 * (if (0 : Int) < (v2 - v4) then (v2 - v4) else (0 : Int)))) ∧ (inR (x3 + 1)) ∧ En 10 4 [some (.inr (.inr 169)), some (.inr (.inr 145)), some (.inl (x2 * (if (0 : Int) < (v2 - v4) then (v2 - v4) else (0 : Int)))), some (.inl (x3 + 1))] [] S M3 Q))))) : En 10 4 [some (.inr (.inr 169)), some (.inr (.inr 145)), some (.inl x2), some (.inl x3)] [] S M Q := by
  have hP : PR 10 = (bc_10, 4) := rfl
  refine e_ld hP rfl rfl ?_
  refine e_ld hP rfl rfl ?_
  refine e_gI (a := 1) 168 (sh_168 hS) hP rfl (by decide) ?_
  refine e_cge hP rfl (fun hc => ?_) (fun hc => ?_)
  · have h := h.1 hc
    refine e_ld hP rfl rfl ?_
    exact e_ret hP rfl rfl h
  · have h := h.2 hc
    refine e_ld hP rfl rfl ?_
    refine e_c hP rfl ?_
    refine e_ld hP rfl rfl ?_
    refine e_ld hP rfl rfl ?_
    refine e_ld hP rfl rfl ?_
    refine e_call hP rfl rfl rfl (Nat.le_of_ble_eq_true rfl) (Nat.le_of_ble_eq_true rfl) (rcv0 (sh_168 hS) (by decide)) ?_
    refine Ca.mono h (fun r hr => ?_)
    obtain ⟨M1, v2, rfl, h⟩ := hr
    show En 10 14 [some (.inr (.inr 169)), some (.inr (.inr 145)), some (.inl x2), some (.inl x3)] [.inl v2, .inl (0 : Int), .inl x2] S M1 Q
    refine e_ld hP rfl rfl ?_
    refine e_ld hP rfl rfl ?_
    refine e_call hP rfl rfl rfl (Nat.le_of_ble_eq_true rfl) (Nat.le_of_ble_eq_true rfl) (rcv0 (sh_168 hS) (by decide)) ?_
    refine Ca.mono h (fun r hr => ?_)
    obtain ⟨M3, v4, rfl, h⟩ := hr
    show En 10 17 [some (.inr (.inr 169)), some (.inr (.inr 145)), some (.inl x2), some (.inl x3)] [.inl v4, .inl v2, .inl (0 : Int), .inl x2] S M3 Q
    obtain ⟨hs5, h⟩ := h
    refine e_sub hP rfl hs5 ?_
    refine e_max hP rfl (Nat.le_of_ble_eq_true rfl) ?_
    obtain ⟨hs6, h⟩ := h
    refine e_mul hP rfl hs6 ?_
    refine e_st (L' := [some (.inr (.inr 169)), some (.inr (.inr 145)), some (.inl (x2 * (if (0 : Int) < (v2 - v4) then (v2 - v4) else (0 : Int)))), some (.inl x3)]) hP rfl rfl ?_
    obtain ⟨hs7, h⟩ := h
    refine e_inc (L' := [some (.inr (.inr 169)), some (.inr (.inr 145)), some (.inl (x2 * (if (0 : Int) < (v2 - v4) then (v2 - v4) else (0 : Int)))), some (.inl (x3 + 1))]) hP rfl rfl hs7 rfl ?_
    refine e_go hP rfl ?_
    exact h
theorem r_X1_onlyPerson_0 {S : Shp} {M : Mem} {Q : Res → Prop} (hS : KC S) {p1 : Int} (h : Ca 8 [.inr (.inr 169), .inl p1, .inr (.inr 145)] S M (fun r => ∃ (M1 : Mem) (v2 : Int), r = (S, M1, some (.inl v2)) ∧ ((v2 = (1 : Int) → En 11 10 [some (.inr (.inr 169)), some (.inl p1), some (.inr (.inr 145)), some (.inl (0 : Int))] [] S M1 Q) ∧ (v2 ≠ (1 : Int) → Q (S, M1, some (.inl (-4 : Int))))))) : Ca 11 [.inr (.inr 169), .inl p1, .inr (.inr 145)] S M Q := by
  have hP : PR 11 = (bc_11, 4) := rfl
  refine ⟨Nat.le_of_ble_eq_true rfl, ?_⟩
  show En 11 0 [some (.inr (.inr 169)), some (.inl p1), some (.inr (.inr 145)), none] [] S M Q
  refine e_ld hP rfl rfl ?_
  refine e_ld hP rfl rfl ?_
  refine e_ld hP rfl rfl ?_
  refine e_call hP rfl rfl rfl (Nat.le_of_ble_eq_true rfl) (Nat.le_of_ble_eq_true rfl) (rcv0 (sh_168 hS) (by decide)) ?_
  refine Ca.mono h (fun r hr => ?_)
  obtain ⟨M1, v2, rfl, h⟩ := hr
  show En 11 4 [some (.inr (.inr 169)), some (.inl p1), some (.inr (.inr 145)), none] [.inl v2] S M1 Q
  refine e_c hP rfl ?_
  refine e_ceq hP rfl (fun hc => ?_) (fun hc => ?_)
  · have h := h.1 hc
    refine e_c hP rfl ?_
    refine e_st (L' := [some (.inr (.inr 169)), some (.inl p1), some (.inr (.inr 145)), some (.inl (0 : Int))]) hP rfl rfl ?_
    exact h
  · have h := h.2 hc
    refine e_c hP rfl ?_
    exact e_ret hP rfl rfl h
theorem r_X1_onlyPerson_10 {S : Shp} {M : Mem} {Q : Res → Prop} (hS : KC S) {x1 x3 : Int} (h : (((M 146 0) ≤ x3 → Q (S, M, some (.inl (-4 : Int)))) ∧ (x3 < (M 146 0) → Ca 7 [.inr (.inr 169), .inl x1, .inl x3, .inr (.inr 145)] S M (fun r => ∃ (M1 : Mem) (v2 : Int), r = (S, M1, some (.inl v2)) ∧ ((v2 = 0 → (inR (x3 + 1)) ∧ En 11 10 [some (.inr (.inr 169)), some (.inl x1), some (.inr (.inr 145)), some (.inl (x3 + 1))] [] S M1 Q) ∧ (v2 ≠ 0 → Q (S, M1, some (.inl x3)))))))) : En 11 10 [some (.inr (.inr 169)), some (.inl x1), some (.inr (.inr 145)), some (.inl x3)] [] S M Q := by
  have hP : PR 11 = (bc_11, 4) := rfl
  refine e_ld hP rfl rfl ?_
  refine e_ld hP rfl rfl ?_
  refine e_gR (a := 2) (w := 147) 144 (sh_144 hS) hP rfl (by decide) rfl ?_
  refine e_gI (a := 7) 146 (sh_146 hS) hP rfl (by decide) ?_
  refine e_cge hP rfl (fun hc => ?_) (fun hc => ?_)
  · have h := h.1 hc
    refine e_c hP rfl ?_
    exact e_ret hP rfl rfl h
  · have h := h.2 hc
    refine e_ld hP rfl rfl ?_
    refine e_ld hP rfl rfl ?_
    refine e_ld hP rfl rfl ?_
    refine e_ld hP rfl rfl ?_
    refine e_call hP rfl rfl rfl (Nat.le_of_ble_eq_true rfl) (Nat.le_of_ble_eq_true rfl) (rcv0 (sh_168 hS) (by decide)) ?_
    refine Ca.mono h (fun r hr => ?_)
    obtain ⟨M1, v2, rfl, h⟩ := hr
    show En 11 20 [some (.inr (.inr 169)), some (.inl x1), some (.inr (.inr 145)), some (.inl x3)] [.inl v2] S M1 Q
    refine e_zeq hP rfl (fun hc => ?_) (fun hc => ?_)
    · have h := h.1 hc
      obtain ⟨hs3, h⟩ := h
      refine e_inc (L' := [some (.inr (.inr 169)), some (.inl x1), some (.inr (.inr 145)), some (.inl (x3 + 1))]) hP rfl rfl hs3 rfl ?_
      refine e_go hP rfl ?_
      exact h
    · have h := h.2 hc
      refine e_ld hP rfl rfl ?_
      exact e_ret hP rfl rfl h
