/-! REGIONS of X0: by wip/gen/reggen.py -/
theorem r_X0_longestChain_0 {S : Shp} {M : Mem} {Q : Res → Prop} (hS : KC S) (h : En 1 2 [some (.inr (.inr 165)), some (.inr (.inr 9)), some (.inl (0 : Int)), none, none] [] S M Q) : Ca 1 [.inr (.inr 165), .inr (.inr 9)] S M Q := by
  have hP : PR 1 = (bc_1, 5) := rfl
  refine ⟨Nat.le_of_ble_eq_true rfl, ?_⟩
  show En 1 0 [some (.inr (.inr 165)), some (.inr (.inr 9)), none, none, none] [] S M Q
  refine e_c hP rfl ?_
  refine e_st (L' := [some (.inr (.inr 165)), some (.inr (.inr 9)), some (.inl (0 : Int)), none, none]) hP rfl rfl ?_
  exact h
theorem r_X0_longestChain_2 {S : Shp} {M : Mem} {Q : Res → Prop} (hS : KC S) {x2 : Int} (h : (((M 8 0) ≤ x2 → En 1 17 [some (.inr (.inr 165)), some (.inr (.inr 9)), some (.inl (1 : Int)), some (.inl (0 : Int)), none] [] S M Q) ∧ (x2 < (M 8 0) → (0 ≤ x2 ∧ x2 < 8) ∧ (inR (x2 + 1)) ∧ En 1 2 [some (.inr (.inr 165)), some (.inr (.inr 9)), some (.inl (x2 + 1)), none, none] [] S (up2 M 165 x2.toNat (0 : Int)) Q))) : En 1 2 [some (.inr (.inr 165)), some (.inr (.inr 9)), some (.inl x2), none, none] [] S M Q := by
  have hP : PR 1 = (bc_1, 5) := rfl
  refine e_ld hP rfl rfl ?_
  refine e_ld hP rfl rfl ?_
  refine e_gI (a := 7) 8 (sh_8 hS) hP rfl (by decide) ?_
  refine e_cge hP rfl (fun hc => ?_) (fun hc => ?_)
  · have h := h.1 hc
    refine e_c hP rfl ?_
    refine e_st (L' := [some (.inr (.inr 165)), some (.inr (.inr 9)), some (.inl (1 : Int)), none, none]) hP rfl rfl ?_
    refine e_c hP rfl ?_
    refine e_st (L' := [some (.inr (.inr 165)), some (.inr (.inr 9)), some (.inl (1 : Int)), some (.inl (0 : Int)), none]) hP rfl rfl ?_
    exact h
  · have h := h.2 hc
    refine e_ld hP rfl rfl ?_
    refine e_gR (a := 0) (w := 166) 164 (sh_164 hS) hP rfl (by decide) rfl ?_
    refine e_ld hP rfl rfl ?_
    refine e_c hP rfl ?_
    obtain ⟨hs1, h⟩ := h
    refine e_as 165 (sh_165 hS) (by decide) hP rfl hs1 ?_
    obtain ⟨hs2, h⟩ := h
    refine e_inc (L' := [some (.inr (.inr 165)), some (.inr (.inr 9)), some (.inl (x2 + 1)), none, none]) hP rfl rfl hs2 rfl ?_
    refine e_go hP rfl ?_
    exact h
theorem r_X0_longestChain_17 {S : Shp} {M : Mem} {Q : Res → Prop} (hS : KC S) {x2 x3 : Int} (h : (((M 8 0) ≤ x3 → ((x2 = 0 → En 1 37 [some (.inr (.inr 165)), some (.inr (.inr 9)), some (.inl x2), some (.inl (0 : Int)), some (.inl (0 : Int))] [] S M Q) ∧ (x2 ≠ 0 → Q (S, M, some (.inl (-4 : Int)))))) ∧ (x3 < (M 8 0) → ((x2 = 0 → ((x2 = 0 → En 1 37 [some (.inr (.inr 165)), some (.inr (.inr 9)), some (.inl x2), some (.inl (0 : Int)), some (.inl (0 : Int))] [] S M Q) ∧ (x2 ≠ 0 → Q (S, M, some (.inl (-4 : Int)))))) ∧ (x2 ≠ 0 → Ca 2 [.inr (.inr 165), .inr (.inr 9)] S M (fun r => ∃ (M1 : Mem) (v2 : Int), r = (S, M1, some (.inl v2)) ∧ (inR (x3 + 1)) ∧ En 1 17 [some (.inr (.inr 165)), some (.inr (.inr 9)), some (.inl v2), some (.inl (x3 + 1)), none] [] S M1 Q)))))) : En 1 17 [some (.inr (.inr 165)), some (.inr (.inr 9)), some (.inl x2), some (.inl x3), none] [] S M Q := by
  have hP : PR 1 = (bc_1, 5) := rfl
  refine e_ld hP rfl rfl ?_
  refine e_ld hP rfl rfl ?_
  refine e_gI (a := 7) 8 (sh_8 hS) hP rfl (by decide) ?_
  refine e_cge hP rfl (fun hc => ?_) (fun hc => ?_)
  · have h := h.1 hc
    refine e_ld hP rfl rfl ?_
    refine e_zeq hP rfl (fun hc => ?_) (fun hc => ?_)
    · have h := h.1 hc
      refine e_c hP rfl ?_
      refine e_st (L' := [some (.inr (.inr 165)), some (.inr (.inr 9)), some (.inl x2), some (.inl (0 : Int)), none]) hP rfl rfl ?_
      refine e_c hP rfl ?_
      refine e_st (L' := [some (.inr (.inr 165)), some (.inr (.inr 9)), some (.inl x2), some (.inl (0 : Int)), some (.inl (0 : Int))]) hP rfl rfl ?_
      exact h
    · have h := h.2 hc
      refine e_c hP rfl ?_
      exact e_ret hP rfl rfl h
  · have h := h.2 hc
    refine e_ld hP rfl rfl ?_
    refine e_zeq hP rfl (fun hc => ?_) (fun hc => ?_)
    · have h := h.1 hc
      refine e_ld hP rfl rfl ?_
      refine e_zeq hP rfl (fun hc => ?_) (fun hc => ?_)
      · have h := h.1 hc
        refine e_c hP rfl ?_
        refine e_st (L' := [some (.inr (.inr 165)), some (.inr (.inr 9)), some (.inl x2), some (.inl (0 : Int)), none]) hP rfl rfl ?_
        refine e_c hP rfl ?_
        refine e_st (L' := [some (.inr (.inr 165)), some (.inr (.inr 9)), some (.inl x2), some (.inl (0 : Int)), some (.inl (0 : Int))]) hP rfl rfl ?_
        exact h
      · have h := h.2 hc
        refine e_c hP rfl ?_
        exact e_ret hP rfl rfl h
    · have h := h.2 hc
      refine e_ld hP rfl rfl ?_
      refine e_ld hP rfl rfl ?_
      refine e_call hP rfl rfl rfl (Nat.le_of_ble_eq_true rfl) (Nat.le_of_ble_eq_true rfl) (rcv0 (sh_164 hS) (by decide)) ?_
      refine Ca.mono h (fun r hr => ?_)
      obtain ⟨M1, v2, rfl, h⟩ := hr
      show En 1 26 [some (.inr (.inr 165)), some (.inr (.inr 9)), some (.inl x2), some (.inl x3), none] [.inl v2] S M1 Q
      refine e_st (L' := [some (.inr (.inr 165)), some (.inr (.inr 9)), some (.inl v2), some (.inl x3), none]) hP rfl rfl ?_
      obtain ⟨hs3, h⟩ := h
      refine e_inc (L' := [some (.inr (.inr 165)), some (.inr (.inr 9)), some (.inl v2), some (.inl (x3 + 1)), none]) hP rfl rfl hs3 rfl ?_
      refine e_go hP rfl ?_
      exact h
theorem r_X0_longestChain_37 {S : Shp} {M : Mem} {Q : Res → Prop} (hS : KC S) {x2 x3 x4 : Int} (h : (((M 8 0) ≤ x4 → Q (S, M, some (.inl x3))) ∧ (x4 < (M 8 0) → (0 ≤ x4 ∧ x4 < 8) ∧ (inR (x4 + 1)) ∧ En 1 37 [some (.inr (.inr 165)), some (.inr (.inr 9)), some (.inl x2), some (.inl (if x3 < (M 165 x4.toNat) then (M 165 x4.toNat) else x3)), some (.inl (x4 + 1))] [] S M Q))) : En 1 37 [some (.inr (.inr 165)), some (.inr (.inr 9)), some (.inl x2), some (.inl x3), some (.inl x4)] [] S M Q := by
  have hP : PR 1 = (bc_1, 5) := rfl
  refine e_ld hP rfl rfl ?_
  refine e_ld hP rfl rfl ?_
  refine e_gI (a := 7) 8 (sh_8 hS) hP rfl (by decide) ?_
  refine e_cge hP rfl (fun hc => ?_) (fun hc => ?_)
  · have h := h.1 hc
    refine e_ld hP rfl rfl ?_
    exact e_ret hP rfl rfl h
  · have h := h.2 hc
    refine e_ld hP rfl rfl ?_
    refine e_ld hP rfl rfl ?_
    refine e_gR (a := 0) (w := 166) 164 (sh_164 hS) hP rfl (by decide) rfl ?_
    refine e_ld hP rfl rfl ?_
    obtain ⟨hs1, h⟩ := h
    refine e_al 165 (sh_165 hS) hP rfl hs1 ?_
    refine e_max hP rfl (Nat.le_of_ble_eq_true rfl) ?_
    refine e_st (L' := [some (.inr (.inr 165)), some (.inr (.inr 9)), some (.inl x2), some (.inl (if x3 < (M 165 x4.toNat) then (M 165 x4.toNat) else x3)), some (.inl x4)]) hP rfl rfl ?_
    obtain ⟨hs2, h⟩ := h
    refine e_inc (L' := [some (.inr (.inr 165)), some (.inr (.inr 9)), some (.inl x2), some (.inl (if x3 < (M 165 x4.toNat) then (M 165 x4.toNat) else x3)), some (.inl (x4 + 1))]) hP rfl rfl hs2 rfl ?_
    refine e_go hP rfl ?_
    exact h
theorem r_X0_stretch_0 {S : Shp} {M : Mem} {Q : Res → Prop} (hS : KC S) (h : En 2 4 [some (.inr (.inr 165)), some (.inr (.inr 9)), some (.inl (0 : Int)), some (.inl (0 : Int)), none] [] S M Q) : Ca 2 [.inr (.inr 165), .inr (.inr 9)] S M Q := by
  have hP : PR 2 = (bc_2, 5) := rfl
  refine ⟨Nat.le_of_ble_eq_true rfl, ?_⟩
  show En 2 0 [some (.inr (.inr 165)), some (.inr (.inr 9)), none, none, none] [] S M Q
  refine e_c hP rfl ?_
  refine e_st (L' := [some (.inr (.inr 165)), some (.inr (.inr 9)), some (.inl (0 : Int)), none, none]) hP rfl rfl ?_
  refine e_c hP rfl ?_
  refine e_st (L' := [some (.inr (.inr 165)), some (.inr (.inr 9)), some (.inl (0 : Int)), some (.inl (0 : Int)), none]) hP rfl rfl ?_
  exact h
theorem r_X0_stretch_4 {S : Shp} {M : Mem} {Q : Res → Prop} (hS : KC S) {x2 x3 : Int} (h : (((M 8 0) ≤ x3 → (x2 = 0 ∨ x2 = 1) ∧ Q (S, M, some (.inl x2))) ∧ (x3 < (M 8 0) → En 2 10 [some (.inr (.inr 165)), some (.inr (.inr 9)), some (.inl x2), some (.inl x3), some (.inl (0 : Int))] [] S M Q))) : En 2 4 [some (.inr (.inr 165)), some (.inr (.inr 9)), some (.inl x2), some (.inl x3), none] [] S M Q := by
  have hP : PR 2 = (bc_2, 5) := rfl
  refine e_ld hP rfl rfl ?_
  refine e_ld hP rfl rfl ?_
  refine e_gI (a := 7) 8 (sh_8 hS) hP rfl (by decide) ?_
  refine e_cge hP rfl (fun hc => ?_) (fun hc => ?_)
  · have h := h.1 hc
    refine e_ld hP rfl rfl ?_
    exact e_ret hP rfl (decide_eq_true h.1) h.2
  · have h := h.2 hc
    refine e_c hP rfl ?_
    refine e_st (L' := [some (.inr (.inr 165)), some (.inr (.inr 9)), some (.inl x2), some (.inl x3), some (.inl (0 : Int))]) hP rfl rfl ?_
    exact h
theorem r_X0_stretch_10 {S : Shp} {M : Mem} {Q : Res → Prop} (hS : KC S) {x2 x3 x4 : Int} (h : (((M 8 0) ≤ x4 → (inR (x3 + 1)) ∧ En 2 4 [some (.inr (.inr 165)), some (.inr (.inr 9)), some (.inl x2), some (.inl (x3 + 1)), none] [] S M Q) ∧ (x4 < (M 8 0) → Ca 88 [.inr (.inr 9), .inl x4, .inl x3] S M (fun r => ∃ (M2 : Mem) (v3 : Int), r = (S, M2, some (.inl v3)) ∧ ((v3 ≤ 0 → (inR (x4 + 1)) ∧ En 2 10 [some (.inr (.inr 165)), some (.inr (.inr 9)), some (.inl x2), some (.inl x3), some (.inl (x4 + 1))] [] S M2 Q) ∧ (0 < v3 → (0 ≤ x3 ∧ x3 < 8) ∧ (0 ≤ x4 ∧ x4 < 8) ∧ (inR ((M2 165 x4.toNat) + (1 : Int))) ∧ ((((M2 165 x4.toNat) + (1 : Int)) ≤ (M2 165 x3.toNat) → (inR (x4 + 1)) ∧ En 2 10 [some (.inr (.inr 165)), some (.inr (.inr 9)), some (.inl x2), some (.inl x3), some (.inl (x4 + 1))] [] S M2 Q) ∧ ((M2 165 x3.toNat) < ((M2 165 x4.toNat) + (1 : Int)) → (0 ≤ x4 ∧ x4 < 8) ∧ (inR ((M2 165 x4.toNat) + (1 : Int))) ∧ (0 ≤ x3 ∧ x3 < 8) ∧ (inR (x4 + 1)) ∧ En 2 10 [some (.inr (.inr 165)), some (.inr (.inr 9)), some (.inl (1 : Int)), some (.inl x3), some (.inl (x4 + 1))] [] S (up2 M2 165 x3.toNat ((M2 165 x4.toNat) + (1 : Int))) Q)))))))) : En 2 10 [some (.inr (.inr 165)), some (.inr (.inr 9)), some (.inl x2), some (.inl x3), some (.inl x4)] [] S M Q := by
  have hP : PR 2 = (bc_2, 5) := rfl
  refine e_ld hP rfl rfl ?_
  refine e_ld hP rfl rfl ?_
  refine e_gI (a := 7) 8 (sh_8 hS) hP rfl (by decide) ?_
  refine e_cge hP rfl (fun hc => ?_) (fun hc => ?_)
  · have h := h.1 hc
    obtain ⟨hs1, h⟩ := h
    refine e_inc (L' := [some (.inr (.inr 165)), some (.inr (.inr 9)), some (.inl x2), some (.inl (x3 + 1)), some (.inl x4)]) hP rfl rfl hs1 rfl ?_
    refine e_go hP rfl ?_
    exact en_fg h ⟨Or.inr rfl, Or.inr rfl, Or.inr rfl, Or.inr rfl, Or.inl rfl, trivial⟩
  · have h := h.2 hc
    refine e_ld hP rfl rfl ?_
    refine e_ld hP rfl rfl ?_
    refine e_ld hP rfl rfl ?_
    refine e_call hP rfl rfl rfl (Nat.le_of_ble_eq_true rfl) (Nat.le_of_ble_eq_true rfl) (rcv0 (sh_8 hS) (by decide)) ?_
    refine Ca.mono h (fun r hr => ?_)
    obtain ⟨M2, v3, rfl, h⟩ := hr
    show En 2 18 [some (.inr (.inr 165)), some (.inr (.inr 9)), some (.inl x2), some (.inl x3), some (.inl x4)] [.inl v3] S M2 Q
    refine e_zle hP rfl (fun hc => ?_) (fun hc => ?_)
    · have h := h.1 hc
      obtain ⟨hs4, h⟩ := h
      refine e_inc (L' := [some (.inr (.inr 165)), some (.inr (.inr 9)), some (.inl x2), some (.inl x3), some (.inl (x4 + 1))]) hP rfl rfl hs4 rfl ?_
      refine e_go hP rfl ?_
      exact h
    · have h := h.2 hc
      refine e_ld hP rfl rfl ?_
      refine e_gR (a := 0) (w := 166) 164 (sh_164 hS) hP rfl (by decide) rfl ?_
      refine e_ld hP rfl rfl ?_
      obtain ⟨hs5, h⟩ := h
      refine e_al 165 (sh_165 hS) hP rfl hs5 ?_
      refine e_ld hP rfl rfl ?_
      refine e_gR (a := 0) (w := 166) 164 (sh_164 hS) hP rfl (by decide) rfl ?_
      refine e_ld hP rfl rfl ?_
      obtain ⟨hs6, h⟩ := h
      refine e_al 165 (sh_165 hS) hP rfl hs6 ?_
      refine e_c hP rfl ?_
      obtain ⟨hs7, h⟩ := h
      refine e_add hP rfl hs7 ?_
      refine e_cge hP rfl (fun hc => ?_) (fun hc => ?_)
      · have h := h.1 hc
        obtain ⟨hs8, h⟩ := h
        refine e_inc (L' := [some (.inr (.inr 165)), some (.inr (.inr 9)), some (.inl x2), some (.inl x3), some (.inl (x4 + 1))]) hP rfl rfl hs8 rfl ?_
        refine e_go hP rfl ?_
        exact h
      · have h := h.2 hc
        refine e_ld hP rfl rfl ?_
        refine e_gR (a := 0) (w := 166) 164 (sh_164 hS) hP rfl (by decide) rfl ?_
        refine e_ld hP rfl rfl ?_
        refine e_ld hP rfl rfl ?_
        refine e_gR (a := 0) (w := 166) 164 (sh_164 hS) hP rfl (by decide) rfl ?_
        refine e_ld hP rfl rfl ?_
        obtain ⟨hs9, h⟩ := h
        refine e_al 165 (sh_165 hS) hP rfl hs9 ?_
        refine e_c hP rfl ?_
        obtain ⟨hs10, h⟩ := h
        refine e_add hP rfl hs10 ?_
        obtain ⟨hs11, h⟩ := h
        refine e_as 165 (sh_165 hS) (by decide) hP rfl hs11 ?_
        refine e_c hP rfl ?_
        refine e_st (L' := [some (.inr (.inr 165)), some (.inr (.inr 9)), some (.inl (1 : Int)), some (.inl x3), some (.inl x4)]) hP rfl rfl ?_
        obtain ⟨hs12, h⟩ := h
        refine e_inc (L' := [some (.inr (.inr 165)), some (.inr (.inr 9)), some (.inl (1 : Int)), some (.inl x3), some (.inl (x4 + 1))]) hP rfl rfl hs12 rfl ?_
        refine e_go hP rfl ?_
        exact h
theorem r_X0_fewestPayments_0 {S : Shp} {M : Mem} {Q : Res → Prop} (hS : KC S) (h : (0 ≤ (1 : Int) ∧ 0 ≤ (M 8 0) ∧ (M 8 0) < 32 ∧ inR ((1 : Int) * 2 ^ (M 8 0).toNat)) ∧ (inR (((1 : Int) * 2 ^ (M 8 0).toNat) - (1 : Int))) ∧ (0 ≤ (0 : Int) ∧ (0 : Int) < 256) ∧ (0 ≤ (0 : Int) ∧ (0 : Int) < 256) ∧ En 3 19 [some (.inr (.inr 165)), some (.inr (.inr 9)), some (.inl (((1 : Int) * 2 ^ (M 8 0).toNat) - (1 : Int))), some (.inl (0 : Int)), none, none, none] [] S (up2 (up2 M 166 (0 : Int).toNat (0 : Int)) 167 (0 : Int).toNat (0 : Int)) Q) : Ca 3 [.inr (.inr 165), .inr (.inr 9)] S M Q := by
  have hP : PR 3 = (bc_3, 7) := rfl
  refine ⟨Nat.le_of_ble_eq_true rfl, ?_⟩
  show En 3 0 [some (.inr (.inr 165)), some (.inr (.inr 9)), none, none, none, none, none] [] S M Q
  refine e_c hP rfl ?_
  refine e_ld hP rfl rfl ?_
  refine e_gI (a := 7) 8 (sh_8 hS) hP rfl (by decide) ?_
  obtain ⟨hs1, h⟩ := h
  refine e_shl hP rfl hs1 ?_
  refine e_c hP rfl ?_
  obtain ⟨hs2, h⟩ := h
  refine e_sub hP rfl hs2 ?_
  refine e_st (L' := [some (.inr (.inr 165)), some (.inr (.inr 9)), some (.inl (((1 : Int) * 2 ^ (M 8 0).toNat) - (1 : Int))), none, none, none, none]) hP rfl rfl ?_
  refine e_ld hP rfl rfl ?_
  refine e_gR (a := 0) (w := 167) 164 (sh_164 hS) hP rfl (by decide) rfl ?_
  refine e_c hP rfl ?_
  refine e_c hP rfl ?_
  obtain ⟨hs3, h⟩ := h
  refine e_as 166 (sh_166 hS) (by decide) hP rfl hs3 ?_
  refine e_ld hP rfl rfl ?_
  refine e_gR (a := 0) (w := 168) 164 (sh_164 hS) hP rfl (by decide) rfl ?_
  refine e_c hP rfl ?_
  refine e_c hP rfl ?_
  obtain ⟨hs4, h⟩ := h
  refine e_as 167 (sh_167 hS) (by decide) hP rfl hs4 ?_
  refine e_c hP rfl ?_
  refine e_st (L' := [some (.inr (.inr 165)), some (.inr (.inr 9)), some (.inl (((1 : Int) * 2 ^ (M 8 0).toNat) - (1 : Int))), some (.inl (0 : Int)), none, none, none]) hP rfl rfl ?_
  exact h
theorem r_X0_fewestPayments_19 {S : Shp} {M : Mem} {Q : Res → Prop} (hS : KC S) {x2 x3 : Int} (h : (((M 8 0) ≤ x3 → En 3 59 [some (.inr (.inr 165)), some (.inr (.inr 9)), some (.inl x2), some (.inl (1 : Int)), none, none, none] [] S M Q) ∧ (x3 < (M 8 0) → Ca 90 [.inr (.inr 9), .inl x3] S M (fun r => ∃ (M1 : Mem) (v2 : Int), r = (S, M1, some (.inl v2)) ∧ (0 ≤ (1 : Int) ∧ 0 ≤ x3 ∧ x3 < 32 ∧ inR ((1 : Int) * 2 ^ x3.toNat)) ∧ En 3 33 [some (.inr (.inr 165)), some (.inr (.inr 9)), some (.inl x2), some (.inl x3), some (.inl v2), some (.inl ((1 : Int) * 2 ^ x3.toNat)), some (.inl ((1 : Int) * 2 ^ x3.toNat))] [] S M1 Q)))) : En 3 19 [some (.inr (.inr 165)), some (.inr (.inr 9)), some (.inl x2), some (.inl x3), none, none, none] [] S M Q := by
  have hP : PR 3 = (bc_3, 7) := rfl
  refine e_ld hP rfl rfl ?_
  refine e_ld hP rfl rfl ?_
  refine e_gI (a := 7) 8 (sh_8 hS) hP rfl (by decide) ?_
  refine e_cge hP rfl (fun hc => ?_) (fun hc => ?_)
  · have h := h.1 hc
    refine e_c hP rfl ?_
    refine e_st (L' := [some (.inr (.inr 165)), some (.inr (.inr 9)), some (.inl x2), some (.inl (1 : Int)), none, none, none]) hP rfl rfl ?_
    exact h
  · have h := h.2 hc
    refine e_ld hP rfl rfl ?_
    refine e_ld hP rfl rfl ?_
    refine e_call hP rfl rfl rfl (Nat.le_of_ble_eq_true rfl) (Nat.le_of_ble_eq_true rfl) (rcv0 (sh_8 hS) (by decide)) ?_
    refine Ca.mono h (fun r hr => ?_)
    obtain ⟨M1, v2, rfl, h⟩ := hr
    show En 3 26 [some (.inr (.inr 165)), some (.inr (.inr 9)), some (.inl x2), some (.inl x3), none, none, none] [.inl v2] S M1 Q
    refine e_st (L' := [some (.inr (.inr 165)), some (.inr (.inr 9)), some (.inl x2), some (.inl x3), some (.inl v2), none, none]) hP rfl rfl ?_
    refine e_c hP rfl ?_
    refine e_ld hP rfl rfl ?_
    obtain ⟨hs3, h⟩ := h
    refine e_shl hP rfl hs3 ?_
    refine e_st (L' := [some (.inr (.inr 165)), some (.inr (.inr 9)), some (.inl x2), some (.inl x3), some (.inl v2), some (.inl ((1 : Int) * 2 ^ x3.toNat)), none]) hP rfl rfl ?_
    refine e_ld hP rfl rfl ?_
    refine e_st (L' := [some (.inr (.inr 165)), some (.inr (.inr 9)), some (.inl x2), some (.inl x3), some (.inl v2), some (.inl ((1 : Int) * 2 ^ x3.toNat)), some (.inl ((1 : Int) * 2 ^ x3.toNat))]) hP rfl rfl ?_
    exact h
theorem r_X0_fewestPayments_33 {S : Shp} {M : Mem} {Q : Res → Prop} (hS : KC S) {x2 x3 x4 x5 x6 : Int} (h : (inR ((2 : Int) * x5)) ∧ ((((2 : Int) * x5) ≤ x6 → (inR (x3 + 1)) ∧ En 3 19 [some (.inr (.inr 165)), some (.inr (.inr 9)), some (.inl x2), some (.inl (x3 + 1)), none, none, none] [] S M Q) ∧ (x6 < ((2 : Int) * x5) → (((256 : Int) ≤ x6 → (inR (x3 + 1)) ∧ En 3 19 [some (.inr (.inr 165)), some (.inr (.inr 9)), some (.inl x2), some (.inl (x3 + 1)), none, none, none] [] S M Q) ∧ (x6 < (256 : Int) → (∃ z4 : Int, bi_bin 10 x6 x5 = some z4 ∧ (0 ≤ z4 ∧ z4 < 256) ∧ (inR ((M 166 z4.toNat) + x4)) ∧ (0 ≤ x6 ∧ x6 < 256) ∧ (inR (x6 + 1)) ∧ En 3 33 [some (.inr (.inr 165)), some (.inr (.inr 9)), some (.inl x2), some (.inl x3), some (.inl x4), some (.inl x5), some (.inl (x6 + 1))] [] S (up2 M 166 x6.toNat ((M 166 z4.toNat) + x4)) Q)))))) : En 3 33 [some (.inr (.inr 165)), some (.inr (.inr 9)), some (.inl x2), some (.inl x3), some (.inl x4), some (.inl x5), some (.inl x6)] [] S M Q := by
  have hP : PR 3 = (bc_3, 7) := rfl
  refine e_ld hP rfl rfl ?_
  refine e_c hP rfl ?_
  refine e_ld hP rfl rfl ?_
  obtain ⟨hs1, h⟩ := h
  refine e_mul hP rfl hs1 ?_
  refine e_cge hP rfl (fun hc => ?_) (fun hc => ?_)
  · have h := h.1 hc
    obtain ⟨hs2, h⟩ := h
    refine e_inc (L' := [some (.inr (.inr 165)), some (.inr (.inr 9)), some (.inl x2), some (.inl (x3 + 1)), some (.inl x4), some (.inl x5), some (.inl x6)]) hP rfl rfl hs2 rfl ?_
    refine e_go hP rfl ?_
    exact en_fg h ⟨Or.inr rfl, Or.inr rfl, Or.inr rfl, Or.inr rfl, Or.inl rfl, Or.inl rfl, Or.inl rfl, trivial⟩
  · have h := h.2 hc
    refine e_ld hP rfl rfl ?_
    refine e_c hP rfl ?_
    refine e_cge hP rfl (fun hc => ?_) (fun hc => ?_)
    · have h := h.1 hc
      obtain ⟨hs3, h⟩ := h
      refine e_inc (L' := [some (.inr (.inr 165)), some (.inr (.inr 9)), some (.inl x2), some (.inl (x3 + 1)), some (.inl x4), some (.inl x5), some (.inl x6)]) hP rfl rfl hs3 rfl ?_
      refine e_go hP rfl ?_
      exact en_fg h ⟨Or.inr rfl, Or.inr rfl, Or.inr rfl, Or.inr rfl, Or.inl rfl, Or.inl rfl, Or.inl rfl, trivial⟩
    · have h := h.2 hc
      refine e_ld hP rfl rfl ?_
      refine e_gR (a := 0) (w := 167) 164 (sh_164 hS) hP rfl (by decide) rfl ?_
      refine e_ld hP rfl rfl ?_
      refine e_ld hP rfl rfl ?_
      refine e_gR (a := 0) (w := 167) 164 (sh_164 hS) hP rfl (by decide) rfl ?_
      refine e_ld hP rfl rfl ?_
      refine e_ld hP rfl rfl ?_
      obtain ⟨z4, hs5, h⟩ := h
      refine e_xor hP rfl hs5 ?_
      obtain ⟨hs6, h⟩ := h
      refine e_al 166 (sh_166 hS) hP rfl hs6 ?_
      refine e_ld hP rfl rfl ?_
      obtain ⟨hs7, h⟩ := h
      refine e_add hP rfl hs7 ?_
      obtain ⟨hs8, h⟩ := h
      refine e_as 166 (sh_166 hS) (by decide) hP rfl hs8 ?_
      obtain ⟨hs9, h⟩ := h
      refine e_inc (L' := [some (.inr (.inr 165)), some (.inr (.inr 9)), some (.inl x2), some (.inl x3), some (.inl x4), some (.inl x5), some (.inl (x6 + 1))]) hP rfl rfl hs9 rfl ?_
      refine e_go hP rfl ?_
      exact h
theorem r_X0_fewestPayments_59 {S : Shp} {M : Mem} {Q : Res → Prop} (hS : KC S) {x2 x3 : Int} (h : ((x2 < x3 → (0 ≤ x2 ∧ x2 < 256) ∧ (inR ((M 8 0) - (M 167 x2.toNat))) ∧ Q (S, M, some (.inl ((M 8 0) - (M 167 x2.toNat))))) ∧ (x3 ≤ x2 → (((256 : Int) ≤ x3 → (0 ≤ x2 ∧ x2 < 256) ∧ (inR ((M 8 0) - (M 167 x2.toNat))) ∧ Q (S, M, some (.inl ((M 8 0) - (M 167 x2.toNat))))) ∧ (x3 < (256 : Int) → Ca 4 [.inr (.inr 165), .inl x3] S M (fun r => ∃ (M5 : Mem) (v6 : Int), r = (S, M5, some (.inl v6)) ∧ (0 ≤ x3 ∧ x3 < 256) ∧ (inR (x3 + 1)) ∧ En 3 59 [some (.inr (.inr 165)), some (.inr (.inr 9)), some (.inl x2), some (.inl (x3 + 1)), none, none, none] [] S (up2 M5 167 x3.toNat v6) Q)))))) : En 3 59 [some (.inr (.inr 165)), some (.inr (.inr 9)), some (.inl x2), some (.inl x3), none, none, none] [] S M Q := by
  have hP : PR 3 = (bc_3, 7) := rfl
  refine e_ld hP rfl rfl ?_
  refine e_ld hP rfl rfl ?_
  refine e_cgt hP rfl (fun hc => ?_) (fun hc => ?_)
  · have h := h.1 hc
    refine e_ld hP rfl rfl ?_
    refine e_gI (a := 7) 8 (sh_8 hS) hP rfl (by decide) ?_
    refine e_ld hP rfl rfl ?_
    refine e_gR (a := 0) (w := 168) 164 (sh_164 hS) hP rfl (by decide) rfl ?_
    refine e_ld hP rfl rfl ?_
    obtain ⟨hs1, h⟩ := h
    refine e_al 167 (sh_167 hS) hP rfl hs1 ?_
    obtain ⟨hs2, h⟩ := h
    refine e_sub hP rfl hs2 ?_
    exact e_ret hP rfl rfl h
  · have h := h.2 hc
    refine e_ld hP rfl rfl ?_
    refine e_c hP rfl ?_
    refine e_cge hP rfl (fun hc => ?_) (fun hc => ?_)
    · have h := h.1 hc
      refine e_ld hP rfl rfl ?_
      refine e_gI (a := 7) 8 (sh_8 hS) hP rfl (by decide) ?_
      refine e_ld hP rfl rfl ?_
      refine e_gR (a := 0) (w := 168) 164 (sh_164 hS) hP rfl (by decide) rfl ?_
      refine e_ld hP rfl rfl ?_
      obtain ⟨hs3, h⟩ := h
      refine e_al 167 (sh_167 hS) hP rfl hs3 ?_
      obtain ⟨hs4, h⟩ := h
      refine e_sub hP rfl hs4 ?_
      exact e_ret hP rfl rfl h
    · have h := h.2 hc
      refine e_ld hP rfl rfl ?_
      refine e_gR (a := 0) (w := 168) 164 (sh_164 hS) hP rfl (by decide) rfl ?_
      refine e_ld hP rfl rfl ?_
      refine e_ld hP rfl rfl ?_
      refine e_ld hP rfl rfl ?_
      refine e_call hP rfl rfl rfl (Nat.le_of_ble_eq_true rfl) (Nat.le_of_ble_eq_true rfl) (rcv0 (sh_164 hS) (by decide)) ?_
      refine Ca.mono h (fun r hr => ?_)
      obtain ⟨M5, v6, rfl, h⟩ := hr
      show En 3 71 [some (.inr (.inr 165)), some (.inr (.inr 9)), some (.inl x2), some (.inl x3), none, none, none] [.inl v6, .inl x3, .inr (.inr 168)] S M5 Q
      obtain ⟨hs7, h⟩ := h
      refine e_as 167 (sh_167 hS) (by decide) hP rfl hs7 ?_
      obtain ⟨hs8, h⟩ := h
      refine e_inc (L' := [some (.inr (.inr 165)), some (.inr (.inr 9)), some (.inl x2), some (.inl (x3 + 1)), none, none, none]) hP rfl rfl hs8 rfl ?_
      refine e_go hP rfl ?_
      exact h
theorem r_X0_mostGroups_0 {S : Shp} {M : Mem} {Q : Res → Prop} (hS : KC S) {p1 : Int} (h : En 4 4 [some (.inr (.inr 165)), some (.inl p1), some (.inl (0 : Int)), some (.inl (0 : Int))] [] S M Q) : Ca 4 [.inr (.inr 165), .inl p1] S M Q := by
  have hP : PR 4 = (bc_4, 4) := rfl
  refine ⟨Nat.le_of_ble_eq_true rfl, ?_⟩
  show En 4 0 [some (.inr (.inr 165)), some (.inl p1), none, none] [] S M Q
  refine e_c hP rfl ?_
  refine e_st (L' := [some (.inr (.inr 165)), some (.inl p1), some (.inl (0 : Int)), none]) hP rfl rfl ?_
  refine e_c hP rfl ?_
  refine e_st (L' := [some (.inr (.inr 165)), some (.inl p1), some (.inl (0 : Int)), some (.inl (0 : Int))]) hP rfl rfl ?_
  exact h
theorem r_X0_mostGroups_4 {S : Shp} {M : Mem} {Q : Res → Prop} (hS : KC S) {x1 x2 x3 : Int} (h : (((8 : Int) ≤ x3 → (0 ≤ x1 ∧ x1 < 256) ∧ (((M 166 x1.toNat) ≠ 0 → Q (S, M, some (.inl x2))) ∧ ((M 166 x1.toNat) = 0 → (inR (x2 + (1 : Int))) ∧ Q (S, M, some (.inl (x2 + (1 : Int))))))) ∧ (x3 < (8 : Int) → Ca 135 [.inl x1, .inl x3] S M (fun r => ∃ (M3 : Mem) (v4 : Int), r = (S, M3, some (.inl v4)) ∧ ((v4 = 0 → (inR (x3 + 1)) ∧ En 4 4 [some (.inr (.inr 165)), some (.inl x1), some (.inl x2), some (.inl (x3 + 1))] [] S M3 Q) ∧ (v4 ≠ 0 → (0 ≤ (1 : Int) ∧ 0 ≤ x3 ∧ x3 < 32 ∧ inR ((1 : Int) * 2 ^ x3.toNat)) ∧ (∃ z7 : Int, bi_bin 10 x1 ((1 : Int) * 2 ^ x3.toNat) = some z7 ∧ (0 ≤ z7 ∧ z7 < 256) ∧ (inR (x3 + 1)) ∧ En 4 4 [some (.inr (.inr 165)), some (.inl x1), some (.inl (if x2 < (M3 167 z7.toNat) then (M3 167 z7.toNat) else x2)), some (.inl (x3 + 1))] [] S M3 Q))))))) : En 4 4 [some (.inr (.inr 165)), some (.inl x1), some (.inl x2), some (.inl x3)] [] S M Q := by
  have hP : PR 4 = (bc_4, 4) := rfl
  refine e_ld hP rfl rfl ?_
  refine e_c hP rfl ?_
  refine e_cge hP rfl (fun hc => ?_) (fun hc => ?_)
  · have h := h.1 hc
    refine e_ld hP rfl rfl ?_
    refine e_gR (a := 0) (w := 167) 164 (sh_164 hS) hP rfl (by decide) rfl ?_
    refine e_ld hP rfl rfl ?_
    obtain ⟨hs1, h⟩ := h
    refine e_al 166 (sh_166 hS) hP rfl hs1 ?_
    refine e_zne hP rfl (fun hc => ?_) (fun hc => ?_)
    · have h := h.1 hc
      refine e_ld hP rfl rfl ?_
      exact e_ret hP rfl rfl h
    · have h := h.2 hc
      refine e_ld hP rfl rfl ?_
      refine e_c hP rfl ?_
      obtain ⟨hs2, h⟩ := h
      refine e_add hP rfl hs2 ?_
      refine e_go hP rfl ?_
      exact e_ret hP rfl rfl h
  · have h := h.2 hc
    refine e_ld hP rfl rfl ?_
    refine e_ld hP rfl rfl ?_
    refine e_call hP rfl rfl rfl (Nat.le_of_ble_eq_true rfl) (Nat.le_of_ble_eq_true rfl) rcv1 ?_
    refine Ca.mono h (fun r hr => ?_)
    obtain ⟨M3, v4, rfl, h⟩ := hr
    show En 4 10 [some (.inr (.inr 165)), some (.inl x1), some (.inl x2), some (.inl x3)] [.inl v4] S M3 Q
    refine e_zeq hP rfl (fun hc => ?_) (fun hc => ?_)
    · have h := h.1 hc
      obtain ⟨hs5, h⟩ := h
      refine e_inc (L' := [some (.inr (.inr 165)), some (.inl x1), some (.inl x2), some (.inl (x3 + 1))]) hP rfl rfl hs5 rfl ?_
      refine e_go hP rfl ?_
      exact h
    · have h := h.2 hc
      refine e_ld hP rfl rfl ?_
      refine e_ld hP rfl rfl ?_
      refine e_gR (a := 0) (w := 168) 164 (sh_164 hS) hP rfl (by decide) rfl ?_
      refine e_ld hP rfl rfl ?_
      refine e_c hP rfl ?_
      refine e_ld hP rfl rfl ?_
      obtain ⟨hs6, h⟩ := h
      refine e_shl hP rfl hs6 ?_
      obtain ⟨z7, hs8, h⟩ := h
      refine e_xor hP rfl hs8 ?_
      obtain ⟨hs9, h⟩ := h
      refine e_al 167 (sh_167 hS) hP rfl hs9 ?_
      refine e_max hP rfl (Nat.le_of_ble_eq_true rfl) ?_
      refine e_st (L' := [some (.inr (.inr 165)), some (.inl x1), some (.inl (if x2 < (M3 167 z7.toNat) then (M3 167 z7.toNat) else x2)), some (.inl x3)]) hP rfl rfl ?_
      obtain ⟨hs10, h⟩ := h
      refine e_inc (L' := [some (.inr (.inr 165)), some (.inl x1), some (.inl (if x2 < (M3 167 z7.toNat) then (M3 167 z7.toNat) else x2)), some (.inl (x3 + 1))]) hP rfl rfl hs10 rfl ?_
      refine e_go hP rfl ?_
      exact h
