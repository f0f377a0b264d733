/-! REGIONS of X2: by wip/gen/reggen.py -/
theorem r_X2_load_0 {S : Shp} {M : Mem} {Q : Res → Prop} (hS : KC S) (h : Ca 65 [.inr (.inr 147), .inr (.inr 9)] S M (fun r => ∃ M1 : Mem, r = (S, M1, none) ∧ Ca 14 [.inr (.inr 145)] S M1 (fun r => ∃ M2 : Mem, r = (S, M2, none) ∧ Q (S, M2, none)))) : Ca 13 [.inr (.inr 145), .inr (.inr 9)] S M Q := by
  have hP : PR 13 = (bc_13, 2) := rfl
  refine ⟨Nat.le_of_ble_eq_true rfl, ?_⟩
  show En 13 0 [some (.inr (.inr 145)), some (.inr (.inr 9))] [] S M Q
  refine e_ld hP rfl rfl ?_
  refine e_gR (a := 2) (w := 147) 144 (sh_144 hS) hP rfl (by decide) rfl ?_
  refine e_ld hP rfl rfl ?_
  refine e_call hP rfl rfl rfl (Nat.le_of_ble_eq_true rfl) (Nat.le_of_ble_eq_true rfl) (rcv0 (sh_146 hS) (by decide)) ?_
  refine Ca.mono h (fun r hr => ?_)
  obtain ⟨M1, rfl, h⟩ := hr
  show En 13 4 [some (.inr (.inr 145)), some (.inr (.inr 9))] [] S M1 Q
  refine e_ld hP rfl rfl ?_
  refine e_call hP rfl rfl rfl (Nat.le_of_ble_eq_true rfl) (Nat.le_of_ble_eq_true rfl) (rcv0 (sh_144 hS) (by decide)) ?_
  refine Ca.mono h (fun r hr => ?_)
  obtain ⟨M2, rfl, h⟩ := hr
  show En 13 6 [some (.inr (.inr 145)), some (.inr (.inr 9))] [] S M2 Q
  exact e_retv hP rfl h
theorem r_X2_sort_0 {S : Shp} {M : Mem} {Q : Res → Prop} (hS : KC S) (h : En 14 2 [some (.inr (.inr 145)), some (.inl (0 : Int))] [] S M Q) : Ca 14 [.inr (.inr 145)] S M Q := by
  have hP : PR 14 = (bc_14, 2) := rfl
  refine ⟨Nat.le_of_ble_eq_true rfl, ?_⟩
  show En 14 0 [some (.inr (.inr 145)), none] [] S M Q
  refine e_c hP rfl ?_
  refine e_st (L' := [some (.inr (.inr 145)), some (.inl (0 : Int))]) hP rfl rfl ?_
  exact h
theorem r_X2_sort_2 {S : Shp} {M : Mem} {Q : Res → Prop} (hS : KC S) {x1 : Int} (h : (((M 146 0) ≤ x1 → Q (S, M, none)) ∧ (x1 < (M 146 0) → Ca 79 [.inr (.inr 147), .inl x1] S M (fun r => ∃ (M1 : Mem) (v2 : Int), r = (S, M1, some (.inl v2)) ∧ (0 ≤ x1 ∧ x1 < 8) ∧ (inR (x1 + 1)) ∧ En 14 2 [some (.inr (.inr 145)), some (.inl (x1 + 1))] [] S (up2 M1 145 x1.toNat v2) Q)))) : En 14 2 [some (.inr (.inr 145)), some (.inl x1)] [] S M Q := by
  have hP : PR 14 = (bc_14, 2) := rfl
  refine e_ld hP rfl rfl ?_
  refine e_ld hP rfl rfl ?_
  refine e_gR (a := 2) (w := 147) 144 (sh_144 hS) hP rfl (by decide) rfl ?_
  refine e_gI (a := 7) 146 (sh_146 hS) hP rfl (by decide) ?_
  refine e_cge hP rfl (fun hc => ?_) (fun hc => ?_)
  · have h := h.1 hc
    exact e_retv hP rfl h
  · have h := h.2 hc
    refine e_ld hP rfl rfl ?_
    refine e_gR (a := 2) (w := 146) 144 (sh_144 hS) hP rfl (by decide) rfl ?_
    refine e_ld hP rfl rfl ?_
    refine e_ld hP rfl rfl ?_
    refine e_gR (a := 2) (w := 147) 144 (sh_144 hS) hP rfl (by decide) rfl ?_
    refine e_ld hP rfl rfl ?_
    refine e_call hP rfl rfl rfl (Nat.le_of_ble_eq_true rfl) (Nat.le_of_ble_eq_true rfl) (rcv0 (sh_146 hS) (by decide)) ?_
    refine Ca.mono h (fun r hr => ?_)
    obtain ⟨M1, v2, rfl, h⟩ := hr
    show En 14 14 [some (.inr (.inr 145)), some (.inl x1)] [.inl v2, .inl x1, .inr (.inr 146)] S M1 Q
    obtain ⟨hs3, h⟩ := h
    refine e_as 145 (sh_145 hS) (by decide) hP rfl hs3 ?_
    obtain ⟨hs4, h⟩ := h
    refine e_inc (L' := [some (.inr (.inr 145)), some (.inl (x1 + 1))]) hP rfl rfl hs4 rfl ?_
    refine e_go hP rfl ?_
    exact h
theorem r_X2_isAhead_0 {S : Shp} {M : Mem} {Q : Res → Prop} (hS : KC S) {p1 p2 p3 : Int} (h : (0 ≤ p1 ∧ p1 < 8) ∧ ((p3 < (M 145 p1.toNat) → Q (S, M, some (.inl (1 : Int)))) ∧ ((M 145 p1.toNat) ≤ p3 → (0 ≤ p1 ∧ p1 < 8) ∧ ((p3 ≠ (M 145 p1.toNat) → Q (S, M, some (.inl (0 : Int)))) ∧ (p3 = (M 145 p1.toNat) → ((p1 ≤ p2 → Q (S, M, some (.inl (0 : Int)))) ∧ (p2 < p1 → Q (S, M, some (.inl (1 : Int)))))))))) : Ca 15 [.inr (.inr 145), .inl p1, .inl p2, .inl p3] S M Q := by
  have hP : PR 15 = (bc_15, 4) := rfl
  refine ⟨Nat.le_of_ble_eq_true rfl, ?_⟩
  show En 15 0 [some (.inr (.inr 145)), some (.inl p1), some (.inl p2), some (.inl p3)] [] S M Q
  refine e_ld hP rfl rfl ?_
  refine e_ld hP rfl rfl ?_
  refine e_gR (a := 2) (w := 146) 144 (sh_144 hS) hP rfl (by decide) rfl ?_
  refine e_ld hP rfl rfl ?_
  obtain ⟨hs1, h⟩ := h
  refine e_al 145 (sh_145 hS) hP rfl hs1 ?_
  refine e_clt hP rfl (fun hc => ?_) (fun hc => ?_)
  · have h := h.1 hc
    refine e_c hP rfl ?_
    refine e_go hP rfl ?_
    exact e_ret hP rfl rfl h
  · have h := h.2 hc
    refine e_ld hP rfl rfl ?_
    refine e_ld hP rfl rfl ?_
    refine e_gR (a := 2) (w := 146) 144 (sh_144 hS) hP rfl (by decide) rfl ?_
    refine e_ld hP rfl rfl ?_
    obtain ⟨hs2, h⟩ := h
    refine e_al 145 (sh_145 hS) hP rfl hs2 ?_
    refine e_cne hP rfl (fun hc => ?_) (fun hc => ?_)
    · have h := h.1 hc
      refine e_c hP rfl ?_
      exact e_ret hP rfl rfl h
    · have h := h.2 hc
      refine e_ld hP rfl rfl ?_
      refine e_ld hP rfl rfl ?_
      refine e_cge hP rfl (fun hc => ?_) (fun hc => ?_)
      · have h := h.1 hc
        refine e_c hP rfl ?_
        exact e_ret hP rfl rfl h
      · have h := h.2 hc
        refine e_c hP rfl ?_
        refine e_go hP rfl ?_
        exact e_ret hP rfl rfl h
theorem r_X2_placeOf_0 {S : Shp} {M : Mem} {Q : Res → Prop} (hS : KC S) {p1 : Int} (h : En 16 4 [some (.inr (.inr 145)), some (.inl p1), some (.inl (0 : Int)), some (.inl (0 : Int))] [] S M Q) : Ca 16 [.inr (.inr 145), .inl p1] S M Q := by
  have hP : PR 16 = (bc_16, 4) := rfl
  refine ⟨Nat.le_of_ble_eq_true rfl, ?_⟩
  show En 16 0 [some (.inr (.inr 145)), some (.inl p1), none, none] [] S M Q
  refine e_c hP rfl ?_
  refine e_st (L' := [some (.inr (.inr 145)), some (.inl p1), some (.inl (0 : Int)), none]) hP rfl rfl ?_
  refine e_c hP rfl ?_
  refine e_st (L' := [some (.inr (.inr 145)), some (.inl p1), some (.inl (0 : Int)), some (.inl (0 : Int))]) hP rfl rfl ?_
  exact h
theorem r_X2_placeOf_4 {S : Shp} {M : Mem} {Q : Res → Prop} (hS : KC S) {x1 x2 x3 : Int} (h : (((M 146 0) ≤ x3 → Q (S, M, some (.inl x2))) ∧ (x3 < (M 146 0) → ((x3 = x1 → (inR (x2 + (0 : Int))) ∧ (inR (x3 + 1)) ∧ En 16 4 [some (.inr (.inr 145)), some (.inl x1), some (.inl (x2 + (0 : Int))), some (.inl (x3 + 1))] [] S M Q) ∧ (x3 ≠ x1 → (0 ≤ x1 ∧ x1 < 8) ∧ Ca 15 [.inr (.inr 145), .inl x3, .inl x1, .inl (M 145 x1.toNat)] S M (fun r => ∃ (M4 : Mem) (v5 : Int), r = (S, M4, some (.inl v5)) ∧ ((v5 ≠ 0 → (inR (x2 + (0 : Int))) ∧ (inR (x3 + 1)) ∧ En 16 4 [some (.inr (.inr 145)), some (.inl x1), some (.inl (x2 + (0 : Int))), some (.inl (x3 + 1))] [] S M4 Q) ∧ (v5 = 0 → (inR (x2 + (1 : Int))) ∧ (inR (x3 + 1)) ∧ En 16 4 [some (.inr (.inr 145)), some (.inl x1), some (.inl (x2 + (1 : Int))), some (.inl (x3 + 1))] [] S M4 Q)))))))) : En 16 4 [some (.inr (.inr 145)), some (.inl x1), some (.inl x2), some (.inl x3)] [] S M Q := by
  have hP : PR 16 = (bc_16, 4) := rfl
  refine e_ld hP rfl rfl ?_
  refine e_ld hP rfl rfl ?_
  refine e_gR (a := 2) (w := 147) 144 (sh_144 hS) hP rfl (by decide) rfl ?_
  refine e_gI (a := 7) 146 (sh_146 hS) hP rfl (by decide) ?_
  refine e_cge hP rfl (fun hc => ?_) (fun hc => ?_)
  · have h := h.1 hc
    refine e_ld hP rfl rfl ?_
    exact e_ret hP rfl rfl h
  · have h := h.2 hc
    refine e_ld hP rfl rfl ?_
    refine e_ld hP rfl rfl ?_
    refine e_ld hP rfl rfl ?_
    refine e_ceq hP rfl (fun hc => ?_) (fun hc => ?_)
    · have h := h.1 hc
      refine e_c hP rfl ?_
      obtain ⟨hs1, h⟩ := h
      refine e_add hP rfl hs1 ?_
      refine e_st (L' := [some (.inr (.inr 145)), some (.inl x1), some (.inl (x2 + (0 : Int))), some (.inl x3)]) hP rfl rfl ?_
      obtain ⟨hs2, h⟩ := h
      refine e_inc (L' := [some (.inr (.inr 145)), some (.inl x1), some (.inl (x2 + (0 : Int))), some (.inl (x3 + 1))]) hP rfl rfl hs2 rfl ?_
      refine e_go hP rfl ?_
      exact h
    · have h := h.2 hc
      refine e_ld hP rfl rfl ?_
      refine e_ld hP rfl rfl ?_
      refine e_ld hP rfl rfl ?_
      refine e_ld hP rfl rfl ?_
      refine e_gR (a := 2) (w := 146) 144 (sh_144 hS) hP rfl (by decide) rfl ?_
      refine e_ld hP rfl rfl ?_
      obtain ⟨hs3, h⟩ := h
      refine e_al 145 (sh_145 hS) hP rfl hs3 ?_
      refine e_call hP rfl rfl rfl (Nat.le_of_ble_eq_true rfl) (Nat.le_of_ble_eq_true rfl) (rcv0 (sh_144 hS) (by decide)) ?_
      refine Ca.mono h (fun r hr => ?_)
      obtain ⟨M4, v5, rfl, h⟩ := hr
      show En 16 21 [some (.inr (.inr 145)), some (.inl x1), some (.inl x2), some (.inl x3)] [.inl v5, .inl x2] S M4 Q
      refine e_zne hP rfl (fun hc => ?_) (fun hc => ?_)
      · have h := h.1 hc
        refine e_c hP rfl ?_
        obtain ⟨hs6, h⟩ := h
        refine e_add hP rfl hs6 ?_
        refine e_st (L' := [some (.inr (.inr 145)), some (.inl x1), some (.inl (x2 + (0 : Int))), some (.inl x3)]) hP rfl rfl ?_
        obtain ⟨hs7, h⟩ := h
        refine e_inc (L' := [some (.inr (.inr 145)), some (.inl x1), some (.inl (x2 + (0 : Int))), some (.inl (x3 + 1))]) hP rfl rfl hs7 rfl ?_
        refine e_go hP rfl ?_
        exact h
      · have h := h.2 hc
        refine e_c hP rfl ?_
        refine e_go hP rfl ?_
        obtain ⟨hs8, h⟩ := h
        refine e_add hP rfl hs8 ?_
        refine e_st (L' := [some (.inr (.inr 145)), some (.inl x1), some (.inl (x2 + (1 : Int))), some (.inl x3)]) hP rfl rfl ?_
        obtain ⟨hs9, h⟩ := h
        refine e_inc (L' := [some (.inr (.inr 145)), some (.inl x1), some (.inl (x2 + (1 : Int))), some (.inl (x3 + 1))]) hP rfl rfl hs9 rfl ?_
        refine e_go hP rfl ?_
        exact h
theorem r_X2_getsBy_0 {S : Shp} {M : Mem} {Q : Res → Prop} (hS : KC S) {p1 p2 : Int} (h : En 17 6 [some (.inr (.inr 145)), some (.inl p1), some (.inl p2), some (.inl (M 146 1)), some (.inl (0 : Int))] [] S M Q) : Ca 17 [.inr (.inr 145), .inl p1, .inl p2] S M Q := by
  have hP : PR 17 = (bc_17, 5) := rfl
  refine ⟨Nat.le_of_ble_eq_true rfl, ?_⟩
  show En 17 0 [some (.inr (.inr 145)), some (.inl p1), some (.inl p2), none, none] [] S M Q
  refine e_ld hP rfl rfl ?_
  refine e_gR (a := 2) (w := 147) 144 (sh_144 hS) hP rfl (by decide) rfl ?_
  refine e_gI (a := 7) 146 (sh_146 hS) hP rfl (by decide) ?_
  refine e_st (L' := [some (.inr (.inr 145)), some (.inl p1), some (.inl p2), some (.inl (M 146 1)), none]) hP rfl rfl ?_
  refine e_c hP rfl ?_
  refine e_st (L' := [some (.inr (.inr 145)), some (.inl p1), some (.inl p2), some (.inl (M 146 1)), some (.inl (0 : Int))]) hP rfl rfl ?_
  exact h
theorem r_X2_getsBy_6 {S : Shp} {M : Mem} {Q : Res → Prop} (hS : KC S) {x1 x2 x3 x4 : Int} (h : (((M 146 0) ≤ x4 → (0 ≤ x1 ∧ x1 < 8) ∧ Q (S, M, some (.inl (if (0 : Int) < (if (M 149 x1.toNat) < x3 then (M 149 x1.toNat) else x3) then (if (M 149 x1.toNat) < x3 then (M 149 x1.toNat) else x3) else (0 : Int))))) ∧ (x4 < (M 146 0) → ((x4 = x1 → (inR (x4 + 1)) ∧ En 17 6 [some (.inr (.inr 145)), some (.inl x1), some (.inl x2), some (.inl x3), some (.inl (x4 + 1))] [] S M Q) ∧ (x4 ≠ x1 → Ca 15 [.inr (.inr 145), .inl x4, .inl x1, .inl x2] S M (fun r => ∃ (M3 : Mem) (v4 : Int), r = (S, M3, some (.inl v4)) ∧ ((v4 ≠ 0 → (inR (x4 + 1)) ∧ En 17 6 [some (.inr (.inr 145)), some (.inl x1), some (.inl x2), some (.inl x3), some (.inl (x4 + 1))] [] S M3 Q) ∧ (v4 = 0 → (0 ≤ x4 ∧ x4 < 8) ∧ (inR (x3 - (M3 149 x4.toNat))) ∧ (inR (x4 + 1)) ∧ En 17 6 [some (.inr (.inr 145)), some (.inl x1), some (.inl x2), some (.inl (x3 - (M3 149 x4.toNat))), some (.inl (x4 + 1))] [] S M3 Q)))))))) : En 17 6 [some (.inr (.inr 145)), some (.inl x1), some (.inl x2), some (.inl x3), some (.inl x4)] [] S M Q := by
  have hP : PR 17 = (bc_17, 5) := rfl
  refine e_ld hP rfl rfl ?_
  refine e_ld hP rfl rfl ?_
  refine e_gR (a := 2) (w := 147) 144 (sh_144 hS) hP rfl (by decide) rfl ?_
  refine e_gI (a := 7) 146 (sh_146 hS) hP rfl (by decide) ?_
  refine e_cge hP rfl (fun hc => ?_) (fun hc => ?_)
  · have h := h.1 hc
    refine e_c hP rfl ?_
    refine e_ld hP rfl rfl ?_
    refine e_ld hP rfl rfl ?_
    refine e_gR (a := 2) (w := 147) 144 (sh_144 hS) hP rfl (by decide) rfl ?_
    refine e_gR (a := 7) (w := 150) 146 (sh_146 hS) hP rfl (by decide) rfl ?_
    refine e_ld hP rfl rfl ?_
    obtain ⟨hs1, h⟩ := h
    refine e_al 149 (sh_149 hS) hP rfl hs1 ?_
    refine e_min hP rfl (Nat.le_of_ble_eq_true rfl) ?_
    refine e_max hP rfl (Nat.le_of_ble_eq_true rfl) ?_
    exact e_ret hP rfl rfl h
  · have h := h.2 hc
    refine e_ld hP rfl rfl ?_
    refine e_ld hP rfl rfl ?_
    refine e_ceq hP rfl (fun hc => ?_) (fun hc => ?_)
    · have h := h.1 hc
      obtain ⟨hs2, h⟩ := h
      refine e_inc (L' := [some (.inr (.inr 145)), some (.inl x1), some (.inl x2), some (.inl x3), some (.inl (x4 + 1))]) hP rfl rfl hs2 rfl ?_
      refine e_go hP rfl ?_
      exact h
    · have h := h.2 hc
      refine e_ld hP rfl rfl ?_
      refine e_ld hP rfl rfl ?_
      refine e_ld hP rfl rfl ?_
      refine e_ld hP rfl rfl ?_
      refine e_call hP rfl rfl rfl (Nat.le_of_ble_eq_true rfl) (Nat.le_of_ble_eq_true rfl) (rcv0 (sh_144 hS) (by decide)) ?_
      refine Ca.mono h (fun r hr => ?_)
      obtain ⟨M3, v4, rfl, h⟩ := hr
      show En 17 19 [some (.inr (.inr 145)), some (.inl x1), some (.inl x2), some (.inl x3), some (.inl x4)] [.inl v4] S M3 Q
      refine e_zne hP rfl (fun hc => ?_) (fun hc => ?_)
      · have h := h.1 hc
        obtain ⟨hs5, h⟩ := h
        refine e_inc (L' := [some (.inr (.inr 145)), some (.inl x1), some (.inl x2), some (.inl x3), some (.inl (x4 + 1))]) hP rfl rfl hs5 rfl ?_
        refine e_go hP rfl ?_
        exact h
      · have h := h.2 hc
        refine e_ld hP rfl rfl ?_
        refine e_ld hP rfl rfl ?_
        refine e_gR (a := 2) (w := 147) 144 (sh_144 hS) hP rfl (by decide) rfl ?_
        refine e_gR (a := 7) (w := 150) 146 (sh_146 hS) hP rfl (by decide) rfl ?_
        refine e_ld hP rfl rfl ?_
        obtain ⟨hs6, h⟩ := h
        refine e_al 149 (sh_149 hS) hP rfl hs6 ?_
        obtain ⟨hs7, h⟩ := h
        refine e_sub hP rfl hs7 ?_
        refine e_st (L' := [some (.inr (.inr 145)), some (.inl x1), some (.inl x2), some (.inl (x3 - (M3 149 x4.toNat))), some (.inl x4)]) hP rfl rfl ?_
        obtain ⟨hs8, h⟩ := h
        refine e_inc (L' := [some (.inr (.inr 145)), some (.inl x1), some (.inl x2), some (.inl (x3 - (M3 149 x4.toNat))), some (.inl (x4 + 1))]) hP rfl rfl hs8 rfl ?_
        refine e_go hP rfl ?_
        exact h
theorem r_X2_getsNow_0 {S : Shp} {M : Mem} {Q : Res → Prop} (hS : KC S) {p1 : Int} (h : (0 ≤ p1 ∧ p1 < 8) ∧ Ca 17 [.inr (.inr 145), .inl p1, .inl (M 145 p1.toNat)] S M (fun r => ∃ (M2 : Mem) (v3 : Int), r = (S, M2, some (.inl v3)) ∧ Q (S, M2, some (.inl v3)))) : Ca 18 [.inr (.inr 145), .inl p1] S M Q := by
  have hP : PR 18 = (bc_18, 2) := rfl
  refine ⟨Nat.le_of_ble_eq_true rfl, ?_⟩
  show En 18 0 [some (.inr (.inr 145)), some (.inl p1)] [] S M Q
  refine e_ld hP rfl rfl ?_
  refine e_ld hP rfl rfl ?_
  refine e_ld hP rfl rfl ?_
  refine e_gR (a := 2) (w := 146) 144 (sh_144 hS) hP rfl (by decide) rfl ?_
  refine e_ld hP rfl rfl ?_
  obtain ⟨hs1, h⟩ := h
  refine e_al 145 (sh_145 hS) hP rfl hs1 ?_
  refine e_call hP rfl rfl rfl (Nat.le_of_ble_eq_true rfl) (Nat.le_of_ble_eq_true rfl) (rcv0 (sh_144 hS) (by decide)) ?_
  refine Ca.mono h (fun r hr => ?_)
  obtain ⟨M2, v3, rfl, h⟩ := hr
  show En 18 7 [some (.inr (.inr 145)), some (.inl p1)] [.inl v3] S M2 Q
  exact e_ret hP rfl rfl h
theorem r_X2_countFull_0 {S : Shp} {M : Mem} {Q : Res → Prop} (hS : KC S) (h : En 19 4 [some (.inr (.inr 145)), some (.inl (0 : Int)), some (.inl (0 : Int))] [] S M Q) : Ca 19 [.inr (.inr 145)] S M Q := by
  have hP : PR 19 = (bc_19, 3) := rfl
  refine ⟨Nat.le_of_ble_eq_true rfl, ?_⟩
  show En 19 0 [some (.inr (.inr 145)), none, none] [] S M Q
  refine e_c hP rfl ?_
  refine e_st (L' := [some (.inr (.inr 145)), some (.inl (0 : Int)), none]) hP rfl rfl ?_
  refine e_c hP rfl ?_
  refine e_st (L' := [some (.inr (.inr 145)), some (.inl (0 : Int)), some (.inl (0 : Int))]) hP rfl rfl ?_
  exact h
theorem r_X2_countFull_4 {S : Shp} {M : Mem} {Q : Res → Prop} (hS : KC S) {x1 x2 : Int} (h : (((M 146 0) ≤ x2 → Q (S, M, some (.inl x1))) ∧ (x2 < (M 146 0) → Ca 18 [.inr (.inr 145), .inl x2] S M (fun r => ∃ (M1 : Mem) (v2 : Int), r = (S, M1, some (.inl v2)) ∧ (0 ≤ x2 ∧ x2 < 8) ∧ ((v2 ≠ (M1 149 x2.toNat) → (inR (x1 + (0 : Int))) ∧ (inR (x2 + 1)) ∧ En 19 4 [some (.inr (.inr 145)), some (.inl (x1 + (0 : Int))), some (.inl (x2 + 1))] [] S M1 Q) ∧ (v2 = (M1 149 x2.toNat) → (inR (x1 + (1 : Int))) ∧ (inR (x2 + 1)) ∧ En 19 4 [some (.inr (.inr 145)), some (.inl (x1 + (1 : Int))), some (.inl (x2 + 1))] [] S M1 Q)))))) : En 19 4 [some (.inr (.inr 145)), some (.inl x1), some (.inl x2)] [] S M Q := by
  have hP : PR 19 = (bc_19, 3) := rfl
  refine e_ld hP rfl rfl ?_
  refine e_ld hP rfl rfl ?_
  refine e_gR (a := 2) (w := 147) 144 (sh_144 hS) hP rfl (by decide) rfl ?_
  refine e_gI (a := 7) 146 (sh_146 hS) hP rfl (by decide) ?_
  refine e_cge hP rfl (fun hc => ?_) (fun hc => ?_)
  · have h := h.1 hc
    refine e_ld hP rfl rfl ?_
    exact e_ret hP rfl rfl h
  · have h := h.2 hc
    refine e_ld hP rfl rfl ?_
    refine e_ld hP rfl rfl ?_
    refine e_ld hP rfl rfl ?_
    refine e_call hP rfl rfl rfl (Nat.le_of_ble_eq_true rfl) (Nat.le_of_ble_eq_true rfl) (rcv0 (sh_144 hS) (by decide)) ?_
    refine Ca.mono h (fun r hr => ?_)
    obtain ⟨M1, v2, rfl, h⟩ := hr
    show En 19 13 [some (.inr (.inr 145)), some (.inl x1), some (.inl x2)] [.inl v2, .inl x1] S M1 Q
    refine e_ld hP rfl rfl ?_
    refine e_gR (a := 2) (w := 147) 144 (sh_144 hS) hP rfl (by decide) rfl ?_
    refine e_gR (a := 7) (w := 150) 146 (sh_146 hS) hP rfl (by decide) rfl ?_
    refine e_ld hP rfl rfl ?_
    obtain ⟨hs3, h⟩ := h
    refine e_al 149 (sh_149 hS) hP rfl hs3 ?_
    refine e_cne hP rfl (fun hc => ?_) (fun hc => ?_)
    · have h := h.1 hc
      refine e_c hP rfl ?_
      obtain ⟨hs4, h⟩ := h
      refine e_add hP rfl hs4 ?_
      refine e_st (L' := [some (.inr (.inr 145)), some (.inl (x1 + (0 : Int))), some (.inl x2)]) hP rfl rfl ?_
      obtain ⟨hs5, h⟩ := h
      refine e_inc (L' := [some (.inr (.inr 145)), some (.inl (x1 + (0 : Int))), some (.inl (x2 + 1))]) hP rfl rfl hs5 rfl ?_
      refine e_go hP rfl ?_
      exact h
    · have h := h.2 hc
      refine e_c hP rfl ?_
      refine e_go hP rfl ?_
      obtain ⟨hs6, h⟩ := h
      refine e_add hP rfl hs6 ?_
      refine e_st (L' := [some (.inr (.inr 145)), some (.inl (x1 + (1 : Int))), some (.inl x2)]) hP rfl rfl ?_
      obtain ⟨hs7, h⟩ := h
      refine e_inc (L' := [some (.inr (.inr 145)), some (.inl (x1 + (1 : Int))), some (.inl (x2 + 1))]) hP rfl rfl hs7 rfl ?_
      refine e_go hP rfl ?_
      exact h
theorem r_X2_countFullIfExchanged_0 {S : Shp} {M : Mem} {Q : Res → Prop} (hS : KC S) {p1 p2 : Int} (h : Ca 70 [.inr (.inr 147), .inl p1, .inl p2] S M (fun r => ∃ M1 : Mem, r = (S, M1, none) ∧ Ca 14 [.inr (.inr 145)] S M1 (fun r => ∃ M2 : Mem, r = (S, M2, none) ∧ Ca 19 [.inr (.inr 145)] S M2 (fun r => ∃ (M3 : Mem) (v4 : Int), r = (S, M3, some (.inl v4)) ∧ Ca 70 [.inr (.inr 147), .inl p1, .inl p2] S M3 (fun r => ∃ M5 : Mem, r = (S, M5, none) ∧ Ca 14 [.inr (.inr 145)] S M5 (fun r => ∃ M6 : Mem, r = (S, M6, none) ∧ Q (S, M6, some (.inl v4)))))))) : Ca 20 [.inr (.inr 145), .inl p1, .inl p2] S M Q := by
  have hP : PR 20 = (bc_20, 4) := rfl
  refine ⟨Nat.le_of_ble_eq_true rfl, ?_⟩
  show En 20 0 [some (.inr (.inr 145)), some (.inl p1), some (.inl p2), none] [] S M Q
  refine e_ld hP rfl rfl ?_
  refine e_gR (a := 2) (w := 147) 144 (sh_144 hS) hP rfl (by decide) rfl ?_
  refine e_ld hP rfl rfl ?_
  refine e_ld hP rfl rfl ?_
  refine e_call hP rfl rfl rfl (Nat.le_of_ble_eq_true rfl) (Nat.le_of_ble_eq_true rfl) (rcv0 (sh_146 hS) (by decide)) ?_
  refine Ca.mono h (fun r hr => ?_)
  obtain ⟨M1, rfl, h⟩ := hr
  show En 20 5 [some (.inr (.inr 145)), some (.inl p1), some (.inl p2), none] [] S M1 Q
  refine e_ld hP rfl rfl ?_
  refine e_call hP rfl rfl rfl (Nat.le_of_ble_eq_true rfl) (Nat.le_of_ble_eq_true rfl) (rcv0 (sh_144 hS) (by decide)) ?_
  refine Ca.mono h (fun r hr => ?_)
  obtain ⟨M2, rfl, h⟩ := hr
  show En 20 7 [some (.inr (.inr 145)), some (.inl p1), some (.inl p2), none] [] S M2 Q
  refine e_ld hP rfl rfl ?_
  refine e_call hP rfl rfl rfl (Nat.le_of_ble_eq_true rfl) (Nat.le_of_ble_eq_true rfl) (rcv0 (sh_144 hS) (by decide)) ?_
  refine Ca.mono h (fun r hr => ?_)
  obtain ⟨M3, v4, rfl, h⟩ := hr
  show En 20 9 [some (.inr (.inr 145)), some (.inl p1), some (.inl p2), none] [.inl v4] S M3 Q
  refine e_st (L' := [some (.inr (.inr 145)), some (.inl p1), some (.inl p2), some (.inl v4)]) hP rfl rfl ?_
  refine e_ld hP rfl rfl ?_
  refine e_gR (a := 2) (w := 147) 144 (sh_144 hS) hP rfl (by decide) rfl ?_
  refine e_ld hP rfl rfl ?_
  refine e_ld hP rfl rfl ?_
  refine e_call hP rfl rfl rfl (Nat.le_of_ble_eq_true rfl) (Nat.le_of_ble_eq_true rfl) (rcv0 (sh_146 hS) (by decide)) ?_
  refine Ca.mono h (fun r hr => ?_)
  obtain ⟨M5, rfl, h⟩ := hr
  show En 20 15 [some (.inr (.inr 145)), some (.inl p1), some (.inl p2), some (.inl v4)] [] S M5 Q
  refine e_ld hP rfl rfl ?_
  refine e_call hP rfl rfl rfl (Nat.le_of_ble_eq_true rfl) (Nat.le_of_ble_eq_true rfl) (rcv0 (sh_144 hS) (by decide)) ?_
  refine Ca.mono h (fun r hr => ?_)
  obtain ⟨M6, rfl, h⟩ := hr
  show En 20 17 [some (.inr (.inr 145)), some (.inl p1), some (.inl p2), some (.inl v4)] [] S M6 Q
  refine e_ld hP rfl rfl ?_
  exact e_ret hP rfl rfl h
theorem r_X2_keyWithFirst_0 {S : Shp} {M : Mem} {Q : Res → Prop} (hS : KC S) {p1 p2 : Int} (h : (0 ≤ p1 ∧ p1 < 8) ∧ (0 ≤ (M 145 p1.toNat) ∧ 0 < (14348907 : Int)) ∧ Ca 80 [.inr (.inr 147), .inl p2] S M (fun r => ∃ (M3 : Mem) (v4 : Int), r = (S, M3, some (.inl v4)) ∧ (inR (((M 145 p1.toNat) % (14348907 : Int)) + v4)) ∧ Q (S, M3, some (.inl (((M 145 p1.toNat) % (14348907 : Int)) + v4))))) : Ca 21 [.inr (.inr 145), .inl p1, .inl p2] S M Q := by
  have hP : PR 21 = (bc_21, 3) := rfl
  refine ⟨Nat.le_of_ble_eq_true rfl, ?_⟩
  show En 21 0 [some (.inr (.inr 145)), some (.inl p1), some (.inl p2)] [] S M Q
  refine e_ld hP rfl rfl ?_
  refine e_gR (a := 2) (w := 146) 144 (sh_144 hS) hP rfl (by decide) rfl ?_
  refine e_ld hP rfl rfl ?_
  obtain ⟨hs1, h⟩ := h
  refine e_al 145 (sh_145 hS) hP rfl hs1 ?_
  refine e_c hP rfl ?_
  obtain ⟨hs2, h⟩ := h
  refine e_rem hP rfl hs2 ?_
  refine e_ld hP rfl rfl ?_
  refine e_gR (a := 2) (w := 147) 144 (sh_144 hS) hP rfl (by decide) rfl ?_
  refine e_ld hP rfl rfl ?_
  refine e_call hP rfl rfl rfl (Nat.le_of_ble_eq_true rfl) (Nat.le_of_ble_eq_true rfl) (rcv0 (sh_146 hS) (by decide)) ?_
  refine Ca.mono h (fun r hr => ?_)
  obtain ⟨M3, v4, rfl, h⟩ := hr
  show En 21 10 [some (.inr (.inr 145)), some (.inl p1), some (.inl p2)] [.inl v4, .inl ((M 145 p1.toNat) % (14348907 : Int))] S M3 Q
  obtain ⟨hs5, h⟩ := h
  refine e_add hP rfl hs5 ?_
  exact e_ret hP rfl rfl h
theorem r_X2_gainBy_0 {S : Shp} {M : Mem} {Q : Res → Prop} (hS : KC S) {p1 p2 : Int} (h : Ca 21 [.inr (.inr 145), .inl p1, .inl p2] S M (fun r => ∃ (M1 : Mem) (v2 : Int), r = (S, M1, some (.inl v2)) ∧ Ca 17 [.inr (.inr 145), .inl p1, .inl v2] S M1 (fun r => ∃ (M3 : Mem) (v4 : Int), r = (S, M3, some (.inl v4)) ∧ Ca 76 [.inr (.inr 147), .inl p1] S M3 (fun r => ∃ (M5 : Mem) (v6 : Int), r = (S, M5, some (.inl v6)) ∧ ((p2 ≠ v6 → (inR (v4 - (M5 146 3))) ∧ Q (S, M5, some (.inl (v4 - (M5 146 3))))) ∧ (p2 = v6 → Q (S, M5, some (.inl v4)))))))) : Ca 22 [.inr (.inr 145), .inl p1, .inl p2] S M Q := by
  have hP : PR 22 = (bc_22, 4) := rfl
  refine ⟨Nat.le_of_ble_eq_true rfl, ?_⟩
  show En 22 0 [some (.inr (.inr 145)), some (.inl p1), some (.inl p2), none] [] S M Q
  refine e_ld hP rfl rfl ?_
  refine e_ld hP rfl rfl ?_
  refine e_ld hP rfl rfl ?_
  refine e_ld hP rfl rfl ?_
  refine e_ld hP rfl rfl ?_
  refine e_call hP rfl rfl rfl (Nat.le_of_ble_eq_true rfl) (Nat.le_of_ble_eq_true rfl) (rcv0 (sh_144 hS) (by decide)) ?_
  refine Ca.mono h (fun r hr => ?_)
  obtain ⟨M1, v2, rfl, h⟩ := hr
  show En 22 6 [some (.inr (.inr 145)), some (.inl p1), some (.inl p2), none] [.inl v2, .inl p1, .inr (.inr 145)] S M1 Q
  refine e_call hP rfl rfl rfl (Nat.le_of_ble_eq_true rfl) (Nat.le_of_ble_eq_true rfl) (rcv0 (sh_144 hS) (by decide)) ?_
  refine Ca.mono h (fun r hr => ?_)
  obtain ⟨M3, v4, rfl, h⟩ := hr
  show En 22 7 [some (.inr (.inr 145)), some (.inl p1), some (.inl p2), none] [.inl v4] S M3 Q
  refine e_st (L' := [some (.inr (.inr 145)), some (.inl p1), some (.inl p2), some (.inl v4)]) hP rfl rfl ?_
  refine e_ld hP rfl rfl ?_
  refine e_ld hP rfl rfl ?_
  refine e_gR (a := 2) (w := 147) 144 (sh_144 hS) hP rfl (by decide) rfl ?_
  refine e_ld hP rfl rfl ?_
  refine e_call hP rfl rfl rfl (Nat.le_of_ble_eq_true rfl) (Nat.le_of_ble_eq_true rfl) (rcv0 (sh_146 hS) (by decide)) ?_
  refine Ca.mono h (fun r hr => ?_)
  obtain ⟨M5, v6, rfl, h⟩ := hr
  show En 22 13 [some (.inr (.inr 145)), some (.inl p1), some (.inl p2), some (.inl v4)] [.inl v6, .inl p2] S M5 Q
  refine e_cne hP rfl (fun hc => ?_) (fun hc => ?_)
  · have h := h.1 hc
    refine e_ld hP rfl rfl ?_
    refine e_ld hP rfl rfl ?_
    refine e_gR (a := 2) (w := 147) 144 (sh_144 hS) hP rfl (by decide) rfl ?_
    refine e_gI (a := 7) 146 (sh_146 hS) hP rfl (by decide) ?_
    obtain ⟨hs7, h⟩ := h
    refine e_sub hP rfl hs7 ?_
    exact e_ret hP rfl rfl h
  · have h := h.2 hc
    refine e_ld hP rfl rfl ?_
    refine e_go hP rfl ?_
    exact e_ret hP rfl rfl h
theorem r_X2_bestFirst_0 {S : Shp} {M : Mem} {Q : Res → Prop} (hS : KC S) {p1 : Int} (h : (0 ≤ (0 : Int) ∧ (0 : Int) < 26) ∧ Ca 22 [.inr (.inr 145), .inl p1, .inl (M 155 (0 : Int).toNat)] S M (fun r => ∃ (M2 : Mem) (v3 : Int), r = (S, M2, some (.inl v3)) ∧ En 23 13 [some (.inr (.inr 145)), some (.inl p1), some (.inl (M 155 (0 : Int).toNat)), some (.inl v3), some (.inl (1 : Int)), none, none] [] S M2 Q)) : Ca 23 [.inr (.inr 145), .inl p1] S M Q := by
  have hP : PR 23 = (bc_23, 7) := rfl
  refine ⟨Nat.le_of_ble_eq_true rfl, ?_⟩
  show En 23 0 [some (.inr (.inr 145)), some (.inl p1), none, none, none, none, none] [] S M Q
  refine e_ld hP rfl rfl ?_
  refine e_gR (a := 2) (w := 147) 144 (sh_144 hS) hP rfl (by decide) rfl ?_
  refine e_gR (a := 7) (w := 156) 146 (sh_146 hS) hP rfl (by decide) rfl ?_
  refine e_c hP rfl ?_
  obtain ⟨hs1, h⟩ := h
  refine e_al 155 (sh_155 hS) hP rfl hs1 ?_
  refine e_st (L' := [some (.inr (.inr 145)), some (.inl p1), some (.inl (M 155 (0 : Int).toNat)), none, none, none, none]) hP rfl rfl ?_
  refine e_ld hP rfl rfl ?_
  refine e_ld hP rfl rfl ?_
  refine e_ld hP rfl rfl ?_
  refine e_call hP rfl rfl rfl (Nat.le_of_ble_eq_true rfl) (Nat.le_of_ble_eq_true rfl) (rcv0 (sh_144 hS) (by decide)) ?_
  refine Ca.mono h (fun r hr => ?_)
  obtain ⟨M2, v3, rfl, h⟩ := hr
  show En 23 10 [some (.inr (.inr 145)), some (.inl p1), some (.inl (M 155 (0 : Int).toNat)), none, none, none, none] [.inl v3] S M2 Q
  refine e_st (L' := [some (.inr (.inr 145)), some (.inl p1), some (.inl (M 155 (0 : Int).toNat)), some (.inl v3), none, none, none]) hP rfl rfl ?_
  refine e_c hP rfl ?_
  refine e_st (L' := [some (.inr (.inr 145)), some (.inl p1), some (.inl (M 155 (0 : Int).toNat)), some (.inl v3), some (.inl (1 : Int)), none, none]) hP rfl rfl ?_
  exact h
theorem r_X2_bestFirst_13 {S : Shp} {M : Mem} {Q : Res → Prop} (hS : KC S) {x1 x2 x3 x4 : Int} (h : (((26 : Int) ≤ x4 → Q (S, M, some (.inl x2))) ∧ (x4 < (26 : Int) → (0 ≤ x4 ∧ x4 < 26) ∧ Ca 22 [.inr (.inr 145), .inl x1, .inl (M 155 x4.toNat)] S M (fun r => ∃ (M2 : Mem) (v3 : Int), r = (S, M2, some (.inl v3)) ∧ ((v3 ≤ x3 → (inR (x4 + 1)) ∧ En 23 13 [some (.inr (.inr 145)), some (.inl x1), some (.inl x2), some (.inl x3), some (.inl (x4 + 1)), none, none] [] S M2 Q) ∧ (x3 < v3 → (inR (x4 + 1)) ∧ En 23 13 [some (.inr (.inr 145)), some (.inl x1), some (.inl (M 155 x4.toNat)), some (.inl v3), some (.inl (x4 + 1)), none, none] [] S M2 Q)))))) : En 23 13 [some (.inr (.inr 145)), some (.inl x1), some (.inl x2), some (.inl x3), some (.inl x4), none, none] [] S M Q := by
  have hP : PR 23 = (bc_23, 7) := rfl
  refine e_ld hP rfl rfl ?_
  refine e_c hP rfl ?_
  refine e_cge hP rfl (fun hc => ?_) (fun hc => ?_)
  · have h := h.1 hc
    refine e_ld hP rfl rfl ?_
    exact e_ret hP rfl rfl h
  · have h := h.2 hc
    refine e_ld hP rfl rfl ?_
    refine e_gR (a := 2) (w := 147) 144 (sh_144 hS) hP rfl (by decide) rfl ?_
    refine e_gR (a := 7) (w := 156) 146 (sh_146 hS) hP rfl (by decide) rfl ?_
    refine e_ld hP rfl rfl ?_
    obtain ⟨hs1, h⟩ := h
    refine e_al 155 (sh_155 hS) hP rfl hs1 ?_
    refine e_st (L' := [some (.inr (.inr 145)), some (.inl x1), some (.inl x2), some (.inl x3), some (.inl x4), some (.inl (M 155 x4.toNat)), none]) hP rfl rfl ?_
    refine e_ld hP rfl rfl ?_
    refine e_ld hP rfl rfl ?_
    refine e_ld hP rfl rfl ?_
    refine e_call hP rfl rfl rfl (Nat.le_of_ble_eq_true rfl) (Nat.le_of_ble_eq_true rfl) (rcv0 (sh_144 hS) (by decide)) ?_
    refine Ca.mono h (fun r hr => ?_)
    obtain ⟨M2, v3, rfl, h⟩ := hr
    show En 23 26 [some (.inr (.inr 145)), some (.inl x1), some (.inl x2), some (.inl x3), some (.inl x4), some (.inl (M 155 x4.toNat)), none] [.inl v3] S M2 Q
    refine e_st (L' := [some (.inr (.inr 145)), some (.inl x1), some (.inl x2), some (.inl x3), some (.inl x4), some (.inl (M 155 x4.toNat)), some (.inl v3)]) hP rfl rfl ?_
    refine e_ld hP rfl rfl ?_
    refine e_ld hP rfl rfl ?_
    refine e_cle hP rfl (fun hc => ?_) (fun hc => ?_)
    · have h := h.1 hc
      obtain ⟨hs4, h⟩ := h
      refine e_inc (L' := [some (.inr (.inr 145)), some (.inl x1), some (.inl x2), some (.inl x3), some (.inl (x4 + 1)), some (.inl (M 155 x4.toNat)), some (.inl v3)]) hP rfl rfl hs4 rfl ?_
      refine e_go hP rfl ?_
      exact en_fg h ⟨Or.inr rfl, Or.inr rfl, Or.inr rfl, Or.inr rfl, Or.inr rfl, Or.inl rfl, Or.inl rfl, trivial⟩
    · have h := h.2 hc
      refine e_ld hP rfl rfl ?_
      refine e_st (L' := [some (.inr (.inr 145)), some (.inl x1), some (.inl x2), some (.inl v3), some (.inl x4), some (.inl (M 155 x4.toNat)), some (.inl v3)]) hP rfl rfl ?_
      refine e_ld hP rfl rfl ?_
      refine e_st (L' := [some (.inr (.inr 145)), some (.inl x1), some (.inl (M 155 x4.toNat)), some (.inl v3), some (.inl x4), some (.inl (M 155 x4.toNat)), some (.inl v3)]) hP rfl rfl ?_
      obtain ⟨hs5, h⟩ := h
      refine e_inc (L' := [some (.inr (.inr 145)), some (.inl x1), some (.inl (M 155 x4.toNat)), some (.inl v3), some (.inl (x4 + 1)), some (.inl (M 155 x4.toNat)), some (.inl v3)]) hP rfl rfl hs5 rfl ?_
      refine e_go hP rfl ?_
      exact en_fg h ⟨Or.inr rfl, Or.inr rfl, Or.inr rfl, Or.inr rfl, Or.inr rfl, Or.inl rfl, Or.inl rfl, trivial⟩
theorem r_X2_allChange_0 {S : Shp} {M : Mem} {Q : Res → Prop} (hS : KC S) (h : En 24 4 [some (.inr (.inr 145)), some (.inl (0 : Int)), some (.inl (0 : Int)), none] [] S M Q) : Ca 24 [.inr (.inr 145)] S M Q := by
  have hP : PR 24 = (bc_24, 4) := rfl
  refine ⟨Nat.le_of_ble_eq_true rfl, ?_⟩
  show En 24 0 [some (.inr (.inr 145)), none, none, none] [] S M Q
  refine e_c hP rfl ?_
  refine e_st (L' := [some (.inr (.inr 145)), some (.inl (0 : Int)), none, none]) hP rfl rfl ?_
  refine e_c hP rfl ?_
  refine e_st (L' := [some (.inr (.inr 145)), some (.inl (0 : Int)), some (.inl (0 : Int)), none]) hP rfl rfl ?_
  exact h
theorem r_X2_allChange_4 {S : Shp} {M : Mem} {Q : Res → Prop} (hS : KC S) {x1 x2 : Int} (h : (((M 146 0) ≤ x2 → (x1 = 0 ∨ x1 = 1) ∧ Q (S, M, some (.inl x1))) ∧ (x2 < (M 146 0) → Ca 74 [.inr (.inr 147), .inl x2] S M (fun r => ∃ (M1 : Mem) (v2 : Int), r = (S, M1, some (.inl v2)) ∧ ((v2 ≠ 0 → (inR (x2 + 1)) ∧ En 24 4 [some (.inr (.inr 145)), some (.inl x1), some (.inl (x2 + 1)), none] [] S M1 Q) ∧ (v2 = 0 → Ca 23 [.inr (.inr 145), .inl x2] S M1 (fun r => ∃ (M4 : Mem) (v5 : Int), r = (S, M4, some (.inl v5)) ∧ ((x1 ≠ 0 → Ca 77 [.inr (.inr 147), .inl x2, .inl v5] S M4 (fun r => ∃ M6 : Mem, r = (S, M6, none) ∧ Ca 21 [.inr (.inr 145), .inl x2, .inl v5] S M6 (fun r => ∃ (M7 : Mem) (v8 : Int), r = (S, M7, some (.inl v8)) ∧ (0 ≤ x2 ∧ x2 < 8) ∧ (inR (x2 + 1)) ∧ En 24 4 [some (.inr (.inr 145)), some (.inl (1 : Int)), some (.inl (x2 + 1)), none] [] S (up2 M7 145 x2.toNat v8) Q))) ∧ (x1 = 0 → Ca 76 [.inr (.inr 147), .inl x2] S M4 (fun r => ∃ (M11 : Mem) (v12 : Int), r = (S, M11, some (.inl v12)) ∧ ((v5 = v12 → Ca 77 [.inr (.inr 147), .inl x2, .inl v5] S M11 (fun r => ∃ M13 : Mem, r = (S, M13, none) ∧ Ca 21 [.inr (.inr 145), .inl x2, .inl v5] S M13 (fun r => ∃ (M14 : Mem) (v15 : Int), r = (S, M14, some (.inl v15)) ∧ (0 ≤ x2 ∧ x2 < 8) ∧ (inR (x2 + 1)) ∧ En 24 4 [some (.inr (.inr 145)), some (.inl (0 : Int)), some (.inl (x2 + 1)), none] [] S (up2 M14 145 x2.toNat v15) Q))) ∧ (v5 ≠ v12 → Ca 77 [.inr (.inr 147), .inl x2, .inl v5] S M11 (fun r => ∃ M18 : Mem, r = (S, M18, none) ∧ Ca 21 [.inr (.inr 145), .inl x2, .inl v5] S M18 (fun r => ∃ (M19 : Mem) (v20 : Int), r = (S, M19, some (.inl v20)) ∧ (0 ≤ x2 ∧ x2 < 8) ∧ (inR (x2 + 1)) ∧ En 24 4 [some (.inr (.inr 145)), some (.inl (1 : Int)), some (.inl (x2 + 1)), none] [] S (up2 M19 145 x2.toNat v20) Q)))))))))))))) : En 24 4 [some (.inr (.inr 145)), some (.inl x1), some (.inl x2), none] [] S M Q := by
  have hP : PR 24 = (bc_24, 4) := rfl
  refine e_ld hP rfl rfl ?_
  refine e_ld hP rfl rfl ?_
  refine e_gR (a := 2) (w := 147) 144 (sh_144 hS) hP rfl (by decide) rfl ?_
  refine e_gI (a := 7) 146 (sh_146 hS) hP rfl (by decide) ?_
  refine e_cge hP rfl (fun hc => ?_) (fun hc => ?_)
  · have h := h.1 hc
    refine e_ld hP rfl rfl ?_
    exact e_ret hP rfl (decide_eq_true h.1) h.2
  · have h := h.2 hc
    refine e_ld hP rfl rfl ?_
    refine e_gR (a := 2) (w := 147) 144 (sh_144 hS) hP rfl (by decide) rfl ?_
    refine e_ld hP rfl rfl ?_
    refine e_call hP rfl rfl rfl (Nat.le_of_ble_eq_true rfl) (Nat.le_of_ble_eq_true rfl) (rcv0 (sh_146 hS) (by decide)) ?_
    refine Ca.mono h (fun r hr => ?_)
    obtain ⟨M1, v2, rfl, h⟩ := hr
    show En 24 13 [some (.inr (.inr 145)), some (.inl x1), some (.inl x2), none] [.inl v2] S M1 Q
    refine e_zne hP rfl (fun hc => ?_) (fun hc => ?_)
    · have h := h.1 hc
      obtain ⟨hs3, h⟩ := h
      refine e_inc (L' := [some (.inr (.inr 145)), some (.inl x1), some (.inl (x2 + 1)), none]) hP rfl rfl hs3 rfl ?_
      refine e_go hP rfl ?_
      exact h
    · have h := h.2 hc
      refine e_ld hP rfl rfl ?_
      refine e_ld hP rfl rfl ?_
      refine e_call hP rfl rfl rfl (Nat.le_of_ble_eq_true rfl) (Nat.le_of_ble_eq_true rfl) (rcv0 (sh_144 hS) (by decide)) ?_
      refine Ca.mono h (fun r hr => ?_)
      obtain ⟨M4, v5, rfl, h⟩ := hr
      show En 24 17 [some (.inr (.inr 145)), some (.inl x1), some (.inl x2), none] [.inl v5] S M4 Q
      refine e_st (L' := [some (.inr (.inr 145)), some (.inl x1), some (.inl x2), some (.inl v5)]) hP rfl rfl ?_
      refine e_ld hP rfl rfl ?_
      refine e_zne hP rfl (fun hc => ?_) (fun hc => ?_)
      · have h := h.1 hc
        refine e_c hP rfl ?_
        refine e_go hP rfl ?_
        refine e_st (L' := [some (.inr (.inr 145)), some (.inl (1 : Int)), some (.inl x2), some (.inl v5)]) hP rfl rfl ?_
        refine e_ld hP rfl rfl ?_
        refine e_gR (a := 2) (w := 147) 144 (sh_144 hS) hP rfl (by decide) rfl ?_
        refine e_ld hP rfl rfl ?_
        refine e_ld hP rfl rfl ?_
        refine e_call hP rfl rfl rfl (Nat.le_of_ble_eq_true rfl) (Nat.le_of_ble_eq_true rfl) (rcv0 (sh_146 hS) (by decide)) ?_
        refine Ca.mono h (fun r hr => ?_)
        obtain ⟨M6, rfl, h⟩ := hr
        show En 24 35 [some (.inr (.inr 145)), some (.inl (1 : Int)), some (.inl x2), some (.inl v5)] [] S M6 Q
        refine e_ld hP rfl rfl ?_
        refine e_gR (a := 2) (w := 146) 144 (sh_144 hS) hP rfl (by decide) rfl ?_
        refine e_ld hP rfl rfl ?_
        refine e_ld hP rfl rfl ?_
        refine e_ld hP rfl rfl ?_
        refine e_ld hP rfl rfl ?_
        refine e_call hP rfl rfl rfl (Nat.le_of_ble_eq_true rfl) (Nat.le_of_ble_eq_true rfl) (rcv0 (sh_144 hS) (by decide)) ?_
        refine Ca.mono h (fun r hr => ?_)
        obtain ⟨M7, v8, rfl, h⟩ := hr
        show En 24 42 [some (.inr (.inr 145)), some (.inl (1 : Int)), some (.inl x2), some (.inl v5)] [.inl v8, .inl x2, .inr (.inr 146)] S M7 Q
        obtain ⟨hs9, h⟩ := h
        refine e_as 145 (sh_145 hS) (by decide) hP rfl hs9 ?_
        obtain ⟨hs10, h⟩ := h
        refine e_inc (L' := [some (.inr (.inr 145)), some (.inl (1 : Int)), some (.inl (x2 + 1)), some (.inl v5)]) hP rfl rfl hs10 rfl ?_
        refine e_go hP rfl ?_
        exact en_fg h ⟨Or.inr rfl, Or.inr rfl, Or.inr rfl, Or.inl rfl, trivial⟩
      · have h := h.2 hc
        refine e_ld hP rfl rfl ?_
        refine e_ld hP rfl rfl ?_
        refine e_gR (a := 2) (w := 147) 144 (sh_144 hS) hP rfl (by decide) rfl ?_
        refine e_ld hP rfl rfl ?_
        refine e_call hP rfl rfl rfl (Nat.le_of_ble_eq_true rfl) (Nat.le_of_ble_eq_true rfl) (rcv0 (sh_146 hS) (by decide)) ?_
        refine Ca.mono h (fun r hr => ?_)
        obtain ⟨M11, v12, rfl, h⟩ := hr
        show En 24 25 [some (.inr (.inr 145)), some (.inl x1), some (.inl x2), some (.inl v5)] [.inl v12, .inl v5] S M11 Q
        refine e_ceq hP rfl (fun hc => ?_) (fun hc => ?_)
        · have h := h.1 hc
          refine e_c hP rfl ?_
          refine e_st (L' := [some (.inr (.inr 145)), some (.inl (0 : Int)), some (.inl x2), some (.inl v5)]) hP rfl rfl ?_
          refine e_ld hP rfl rfl ?_
          refine e_gR (a := 2) (w := 147) 144 (sh_144 hS) hP rfl (by decide) rfl ?_
          refine e_ld hP rfl rfl ?_
          refine e_ld hP rfl rfl ?_
          refine e_call hP rfl rfl rfl (Nat.le_of_ble_eq_true rfl) (Nat.le_of_ble_eq_true rfl) (rcv0 (sh_146 hS) (by decide)) ?_
          refine Ca.mono h (fun r hr => ?_)
          obtain ⟨M13, rfl, h⟩ := hr
          show En 24 35 [some (.inr (.inr 145)), some (.inl (0 : Int)), some (.inl x2), some (.inl v5)] [] S M13 Q
          refine e_ld hP rfl rfl ?_
          refine e_gR (a := 2) (w := 146) 144 (sh_144 hS) hP rfl (by decide) rfl ?_
          refine e_ld hP rfl rfl ?_
          refine e_ld hP rfl rfl ?_
          refine e_ld hP rfl rfl ?_
          refine e_ld hP rfl rfl ?_
          refine e_call hP rfl rfl rfl (Nat.le_of_ble_eq_true rfl) (Nat.le_of_ble_eq_true rfl) (rcv0 (sh_144 hS) (by decide)) ?_
          refine Ca.mono h (fun r hr => ?_)
          obtain ⟨M14, v15, rfl, h⟩ := hr
          show En 24 42 [some (.inr (.inr 145)), some (.inl (0 : Int)), some (.inl x2), some (.inl v5)] [.inl v15, .inl x2, .inr (.inr 146)] S M14 Q
          obtain ⟨hs16, h⟩ := h
          refine e_as 145 (sh_145 hS) (by decide) hP rfl hs16 ?_
          obtain ⟨hs17, h⟩ := h
          refine e_inc (L' := [some (.inr (.inr 145)), some (.inl (0 : Int)), some (.inl (x2 + 1)), some (.inl v5)]) hP rfl rfl hs17 rfl ?_
          refine e_go hP rfl ?_
          exact en_fg h ⟨Or.inr rfl, Or.inr rfl, Or.inr rfl, Or.inl rfl, trivial⟩
        · have h := h.2 hc
          refine e_c hP rfl ?_
          refine e_go hP rfl ?_
          refine e_st (L' := [some (.inr (.inr 145)), some (.inl (1 : Int)), some (.inl x2), some (.inl v5)]) hP rfl rfl ?_
          refine e_ld hP rfl rfl ?_
          refine e_gR (a := 2) (w := 147) 144 (sh_144 hS) hP rfl (by decide) rfl ?_
          refine e_ld hP rfl rfl ?_
          refine e_ld hP rfl rfl ?_
          refine e_call hP rfl rfl rfl (Nat.le_of_ble_eq_true rfl) (Nat.le_of_ble_eq_true rfl) (rcv0 (sh_146 hS) (by decide)) ?_
          refine Ca.mono h (fun r hr => ?_)
          obtain ⟨M18, rfl, h⟩ := hr
          show En 24 35 [some (.inr (.inr 145)), some (.inl (1 : Int)), some (.inl x2), some (.inl v5)] [] S M18 Q
          refine e_ld hP rfl rfl ?_
          refine e_gR (a := 2) (w := 146) 144 (sh_144 hS) hP rfl (by decide) rfl ?_
          refine e_ld hP rfl rfl ?_
          refine e_ld hP rfl rfl ?_
          refine e_ld hP rfl rfl ?_
          refine e_ld hP rfl rfl ?_
          refine e_call hP rfl rfl rfl (Nat.le_of_ble_eq_true rfl) (Nat.le_of_ble_eq_true rfl) (rcv0 (sh_144 hS) (by decide)) ?_
          refine Ca.mono h (fun r hr => ?_)
          obtain ⟨M19, v20, rfl, h⟩ := hr
          show En 24 42 [some (.inr (.inr 145)), some (.inl (1 : Int)), some (.inl x2), some (.inl v5)] [.inl v20, .inl x2, .inr (.inr 146)] S M19 Q
          obtain ⟨hs21, h⟩ := h
          refine e_as 145 (sh_145 hS) (by decide) hP rfl hs21 ?_
          obtain ⟨hs22, h⟩ := h
          refine e_inc (L' := [some (.inr (.inr 145)), some (.inl (1 : Int)), some (.inl (x2 + 1)), some (.inl v5)]) hP rfl rfl hs22 rfl ?_
          refine e_go hP rfl ?_
          exact en_fg h ⟨Or.inr rfl, Or.inr rfl, Or.inr rfl, Or.inl rfl, trivial⟩
