/-! REGIONS of X6: by wip/gen/reggen.py -/
theorem r_X6_plan_0 {S : Shp} {M : Mem} {Q : Res → Prop} (hS : KC S) (h : En 54 6 [some (.inr (.inr 161)), some (.inr (.inr 9)), some (.inl (0 : Int)), none, none] [] S (up2 M 160 3 (M 8 0)) Q) : Ca 54 [.inr (.inr 161), .inr (.inr 9)] S M Q := by
  have hP : PR 54 = (bc_54, 5) := rfl
  refine ⟨Nat.le_of_ble_eq_true rfl, ?_⟩
  show En 54 0 [some (.inr (.inr 161)), some (.inr (.inr 9)), none, none, none] [] S M Q
  refine e_ld hP rfl rfl ?_
  refine e_ld hP rfl rfl ?_
  refine e_gI (a := 7) 8 (sh_8 hS) hP rfl (by decide) ?_
  refine e_pI (a := 6) 160 (sh_160 hS) (by decide) hP rfl (by decide) ?_
  refine e_c hP rfl ?_
  refine e_st (L' := [some (.inr (.inr 161)), some (.inr (.inr 9)), some (.inl (0 : Int)), none, none]) hP rfl rfl ?_
  exact h
theorem r_X6_plan_6 {S : Shp} {M : Mem} {Q : Res → Prop} (hS : KC S) {x2 : Int} (h : (((M 160 3) ≤ x2 → (0 ≤ (1 : Int) ∧ 0 ≤ (M 160 3) ∧ (M 160 3) < 32 ∧ inR ((1 : Int) * 2 ^ (M 160 3).toNat)) ∧ (inR (((1 : Int) * 2 ^ (M 160 3).toNat) - (1 : Int))) ∧ En 54 54 [some (.inr (.inr 161)), some (.inr (.inr 9)), some (.inl (((1 : Int) * 2 ^ (M 160 3).toNat) - (1 : Int))), some (.inl (0 : Int)), none] [] S M Q) ∧ (x2 < (M 160 3) → (0 ≤ x2 ∧ x2 < 8) ∧ En 54 17 [some (.inr (.inr 161)), some (.inr (.inr 9)), some (.inl x2), some (.inl (0 : Int)), none] [] S (up2 M 163 x2.toNat (0 : Int)) Q))) : En 54 6 [some (.inr (.inr 161)), some (.inr (.inr 9)), some (.inl x2), none, none] [] S M Q := by
  have hP : PR 54 = (bc_54, 5) := rfl
  refine e_ld hP rfl rfl ?_
  refine e_ld hP rfl rfl ?_
  refine e_gI (a := 6) 160 (sh_160 hS) hP rfl (by decide) ?_
  refine e_cge hP rfl (fun hc => ?_) (fun hc => ?_)
  · have h := h.1 hc
    refine e_c hP rfl ?_
    refine e_ld hP rfl rfl ?_
    refine e_gI (a := 6) 160 (sh_160 hS) hP rfl (by decide) ?_
    obtain ⟨hs1, h⟩ := h
    refine e_shl hP rfl hs1 ?_
    refine e_c hP rfl ?_
    obtain ⟨hs2, h⟩ := h
    refine e_sub hP rfl hs2 ?_
    refine e_st (L' := [some (.inr (.inr 161)), some (.inr (.inr 9)), some (.inl (((1 : Int) * 2 ^ (M 160 3).toNat) - (1 : Int))), none, none]) hP rfl rfl ?_
    refine e_c hP rfl ?_
    refine e_st (L' := [some (.inr (.inr 161)), some (.inr (.inr 9)), some (.inl (((1 : Int) * 2 ^ (M 160 3).toNat) - (1 : Int))), some (.inl (0 : Int)), none]) hP rfl rfl ?_
    exact h
  · have h := h.2 hc
    refine e_ld hP rfl rfl ?_
    refine e_gR (a := 6) (w := 164) 160 (sh_160 hS) hP rfl (by decide) rfl ?_
    refine e_ld hP rfl rfl ?_
    refine e_c hP rfl ?_
    obtain ⟨hs3, h⟩ := h
    refine e_as 163 (sh_163 hS) (by decide) hP rfl hs3 ?_
    refine e_c hP rfl ?_
    refine e_st (L' := [some (.inr (.inr 161)), some (.inr (.inr 9)), some (.inl x2), some (.inl (0 : Int)), none]) hP rfl rfl ?_
    exact h
theorem r_X6_plan_17 {S : Shp} {M : Mem} {Q : Res → Prop} (hS : KC S) {x2 x3 : Int} (h : (((M 160 3) ≤ x3 → (inR (x2 + 1)) ∧ En 54 6 [some (.inr (.inr 161)), some (.inr (.inr 9)), some (.inl (x2 + 1)), none, none] [] S M Q) ∧ (x3 < (M 160 3) → (0 ≤ x2 ∧ x2 < 8) ∧ ((x2 = x3 → (0 ≤ (M 163 x2.toNat) ∧ 0 ≤ (0 : Int)) ∧ (0 ≤ x2 ∧ x2 < 8) ∧ (inR (x3 + 1)) ∧ En 54 17 [some (.inr (.inr 161)), some (.inr (.inr 9)), some (.inl x2), some (.inl (x3 + 1)), none] [] S (up2 M 163 x2.toNat ((((M 163 x2.toNat).toNat ||| (0 : Int).toNat : Nat) : Int))) Q) ∧ (x2 ≠ x3 → Ca 91 [.inr (.inr 9), .inl x2, .inl x3] S M (fun r => ∃ (M6 : Mem) (v7 : Int), r = (S, M6, some (.inl v7)) ∧ ((v7 = 0 → (0 ≤ (M 163 x2.toNat) ∧ 0 ≤ (0 : Int)) ∧ (0 ≤ x2 ∧ x2 < 8) ∧ (inR (x3 + 1)) ∧ En 54 17 [some (.inr (.inr 161)), some (.inr (.inr 9)), some (.inl x2), some (.inl (x3 + 1)), none] [] S (up2 M6 163 x2.toNat ((((M 163 x2.toNat).toNat ||| (0 : Int).toNat : Nat) : Int))) Q) ∧ (v7 ≠ 0 → (0 ≤ (1 : Int) ∧ 0 ≤ x3 ∧ x3 < 32 ∧ inR ((1 : Int) * 2 ^ x3.toNat)) ∧ (0 ≤ (M 163 x2.toNat) ∧ 0 ≤ ((1 : Int) * 2 ^ x3.toNat)) ∧ (0 ≤ x2 ∧ x2 < 8) ∧ (inR (x3 + 1)) ∧ En 54 17 [some (.inr (.inr 161)), some (.inr (.inr 9)), some (.inl x2), some (.inl (x3 + 1)), none] [] S (up2 M6 163 x2.toNat ((((M 163 x2.toNat).toNat ||| ((1 : Int) * 2 ^ x3.toNat).toNat : Nat) : Int))) Q)))))))) : En 54 17 [some (.inr (.inr 161)), some (.inr (.inr 9)), some (.inl x2), some (.inl x3), none] [] S M Q := by
  have hP : PR 54 = (bc_54, 5) := rfl
  refine e_ld hP rfl rfl ?_
  refine e_ld hP rfl rfl ?_
  refine e_gI (a := 6) 160 (sh_160 hS) hP rfl (by decide) ?_
  refine e_cge hP rfl (fun hc => ?_) (fun hc => ?_)
  · have h := h.1 hc
    obtain ⟨hs1, h⟩ := h
    refine e_inc (L' := [some (.inr (.inr 161)), some (.inr (.inr 9)), some (.inl (x2 + 1)), some (.inl x3), none]) hP rfl rfl hs1 rfl ?_
    refine e_go hP rfl ?_
    exact en_fg h ⟨Or.inr rfl, Or.inr rfl, Or.inr rfl, Or.inl rfl, Or.inr rfl, trivial⟩
  · have h := h.2 hc
    refine e_ld hP rfl rfl ?_
    refine e_gR (a := 6) (w := 164) 160 (sh_160 hS) hP rfl (by decide) rfl ?_
    refine e_ld hP rfl rfl ?_
    refine e_dup2 hP rfl ?_
    obtain ⟨hs2, h⟩ := h
    refine e_al 163 (sh_163 hS) hP rfl hs2 ?_
    refine e_ld hP rfl rfl ?_
    refine e_ld hP rfl rfl ?_
    refine e_ceq hP rfl (fun hc => ?_) (fun hc => ?_)
    · have h := h.1 hc
      refine e_c hP rfl ?_
      obtain ⟨hs3, h⟩ := h
      refine e_or hP rfl hs3 ?_
      obtain ⟨hs4, h⟩ := h
      refine e_as 163 (sh_163 hS) (by decide) hP rfl hs4 ?_
      obtain ⟨hs5, h⟩ := h
      refine e_inc (L' := [some (.inr (.inr 161)), some (.inr (.inr 9)), some (.inl x2), some (.inl (x3 + 1)), none]) hP rfl rfl hs5 rfl ?_
      refine e_go hP rfl ?_
      exact h
    · have h := h.2 hc
      refine e_ld hP rfl rfl ?_
      refine e_ld hP rfl rfl ?_
      refine e_ld hP rfl rfl ?_
      refine e_call hP rfl rfl rfl (Nat.le_of_ble_eq_true rfl) (Nat.le_of_ble_eq_true rfl) (rcv0 (sh_8 hS) (by decide)) ?_
      refine Ca.mono h (fun r hr => ?_)
      obtain ⟨M6, v7, rfl, h⟩ := hr
      show En 54 33 [some (.inr (.inr 161)), some (.inr (.inr 9)), some (.inl x2), some (.inl x3), none] [.inl v7, .inl (M 163 x2.toNat), .inl x2, .inr (.inr 164)] S M6 Q
      refine e_zeq hP rfl (fun hc => ?_) (fun hc => ?_)
      · have h := h.1 hc
        refine e_c hP rfl ?_
        obtain ⟨hs8, h⟩ := h
        refine e_or hP rfl hs8 ?_
        obtain ⟨hs9, h⟩ := h
        refine e_as 163 (sh_163 hS) (by decide) hP rfl hs9 ?_
        obtain ⟨hs10, h⟩ := h
        refine e_inc (L' := [some (.inr (.inr 161)), some (.inr (.inr 9)), some (.inl x2), some (.inl (x3 + 1)), none]) hP rfl rfl hs10 rfl ?_
        refine e_go hP rfl ?_
        exact h
      · have h := h.2 hc
        refine e_c hP rfl ?_
        refine e_ld hP rfl rfl ?_
        obtain ⟨hs11, h⟩ := h
        refine e_shl hP rfl hs11 ?_
        refine e_go hP rfl ?_
        obtain ⟨hs12, h⟩ := h
        refine e_or hP rfl hs12 ?_
        obtain ⟨hs13, h⟩ := h
        refine e_as 163 (sh_163 hS) (by decide) hP rfl hs13 ?_
        obtain ⟨hs14, h⟩ := h
        refine e_inc (L' := [some (.inr (.inr 161)), some (.inr (.inr 9)), some (.inl x2), some (.inl (x3 + 1)), none]) hP rfl rfl hs14 rfl ?_
        refine e_go hP rfl ?_
        exact h
theorem r_X6_plan_54 {S : Shp} {M : Mem} {Q : Res → Prop} (hS : KC S) {x2 x3 : Int} (h : (((M 160 3) ≤ x3 → (inR (x2 - (2 : Int))) ∧ En 54 84 [some (.inr (.inr 161)), some (.inr (.inr 9)), some (.inl x2), some (.inl (x2 - (2 : Int))), none] [] S M Q) ∧ (x3 < (M 160 3) → (inR (x2 * (8 : Int))) ∧ (inR ((x2 * (8 : Int)) + x3)) ∧ Ca 56 [.inr (.inr 161), .inl x3] S M (fun r => ∃ (M4 : Mem) (v5 : Int), r = (S, M4, some (.inl v5)) ∧ (0 ≤ ((x2 * (8 : Int)) + x3) ∧ ((x2 * (8 : Int)) + x3) < 2048) ∧ (inR (x2 * (8 : Int))) ∧ (inR ((x2 * (8 : Int)) + x3)) ∧ (0 ≤ ((x2 * (8 : Int)) + x3) ∧ ((x2 * (8 : Int)) + x3) < 2048) ∧ (inR (x3 + 1)) ∧ En 54 54 [some (.inr (.inr 161)), some (.inr (.inr 9)), some (.inl x2), some (.inl (x3 + 1)), none] [] S (up2 (up2 M4 161 ((x2 * (8 : Int)) + x3).toNat v5) 162 ((x2 * (8 : Int)) + x3).toNat (1 : Int)) Q)))) : En 54 54 [some (.inr (.inr 161)), some (.inr (.inr 9)), some (.inl x2), some (.inl x3), none] [] S M Q := by
  have hP : PR 54 = (bc_54, 5) := rfl
  refine e_ld hP rfl rfl ?_
  refine e_ld hP rfl rfl ?_
  refine e_gI (a := 6) 160 (sh_160 hS) hP rfl (by decide) ?_
  refine e_cge hP rfl (fun hc => ?_) (fun hc => ?_)
  · have h := h.1 hc
    refine e_ld hP rfl rfl ?_
    refine e_c hP rfl ?_
    obtain ⟨hs1, h⟩ := h
    refine e_sub hP rfl hs1 ?_
    refine e_st (L' := [some (.inr (.inr 161)), some (.inr (.inr 9)), some (.inl x2), some (.inl (x2 - (2 : Int))), none]) hP rfl rfl ?_
    exact h
  · have h := h.2 hc
    refine e_ld hP rfl rfl ?_
    refine e_gR (a := 6) (w := 162) 160 (sh_160 hS) hP rfl (by decide) rfl ?_
    refine e_ld hP rfl rfl ?_
    refine e_c hP rfl ?_
    obtain ⟨hs2, h⟩ := h
    refine e_mul hP rfl hs2 ?_
    refine e_ld hP rfl rfl ?_
    obtain ⟨hs3, h⟩ := h
    refine e_add hP rfl hs3 ?_
    refine e_ld hP rfl rfl ?_
    refine e_ld hP rfl rfl ?_
    refine e_call hP rfl rfl rfl (Nat.le_of_ble_eq_true rfl) (Nat.le_of_ble_eq_true rfl) (rcv0 (sh_160 hS) (by decide)) ?_
    refine Ca.mono h (fun r hr => ?_)
    obtain ⟨M4, v5, rfl, h⟩ := hr
    show En 54 68 [some (.inr (.inr 161)), some (.inr (.inr 9)), some (.inl x2), some (.inl x3), none] [.inl v5, .inl ((x2 * (8 : Int)) + x3), .inr (.inr 162)] S M4 Q
    obtain ⟨hs6, h⟩ := h
    refine e_as 161 (sh_161 hS) (by decide) hP rfl hs6 ?_
    refine e_ld hP rfl rfl ?_
    refine e_gR (a := 6) (w := 163) 160 (sh_160 hS) hP rfl (by decide) rfl ?_
    refine e_ld hP rfl rfl ?_
    refine e_c hP rfl ?_
    obtain ⟨hs7, h⟩ := h
    refine e_mul hP rfl hs7 ?_
    refine e_ld hP rfl rfl ?_
    obtain ⟨hs8, h⟩ := h
    refine e_add hP rfl hs8 ?_
    refine e_c hP rfl ?_
    obtain ⟨hs9, h⟩ := h
    refine e_as 162 (sh_162 hS) (by decide) hP rfl hs9 ?_
    obtain ⟨hs10, h⟩ := h
    refine e_inc (L' := [some (.inr (.inr 161)), some (.inr (.inr 9)), some (.inl x2), some (.inl (x3 + 1)), none]) hP rfl rfl hs10 rfl ?_
    refine e_go hP rfl ?_
    exact h
theorem r_X6_plan_84 {S : Shp} {M : Mem} {Q : Res → Prop} (hS : KC S) {x2 x3 : Int} (h : ((x3 ≤ 0 → Q (S, M, none)) ∧ (0 < x3 → En 54 88 [some (.inr (.inr 161)), some (.inr (.inr 9)), some (.inl x2), some (.inl x3), some (.inl (0 : Int))] [] S M Q))) : En 54 84 [some (.inr (.inr 161)), some (.inr (.inr 9)), some (.inl x2), some (.inl x3), none] [] S M Q := by
  have hP : PR 54 = (bc_54, 5) := rfl
  refine e_ld hP rfl rfl ?_
  refine e_zle hP rfl (fun hc => ?_) (fun hc => ?_)
  · have h := h.1 hc
    exact e_retv hP rfl h
  · have h := h.2 hc
    refine e_c hP rfl ?_
    refine e_st (L' := [some (.inr (.inr 161)), some (.inr (.inr 9)), some (.inl x2), some (.inl x3), some (.inl (0 : Int))]) hP rfl rfl ?_
    exact h
theorem r_X6_plan_88 {S : Shp} {M : Mem} {Q : Res → Prop} (hS : KC S) {x2 x3 x4 : Int} (h : (((M 160 3) ≤ x4 → (inR (x3 + (-2))) ∧ En 54 84 [some (.inr (.inr 161)), some (.inr (.inr 9)), some (.inl x2), some (.inl (x3 + (-2))), none] [] S M Q) ∧ (x4 < (M 160 3) → Ca 135 [.inl x3, .inl x4] S M (fun r => ∃ (M2 : Mem) (v3 : Int), r = (S, M2, some (.inl v3)) ∧ ((v3 = 0 → (inR (x4 + 1)) ∧ En 54 88 [some (.inr (.inr 161)), some (.inr (.inr 9)), some (.inl x2), some (.inl x3), some (.inl (x4 + 1))] [] S M2 Q) ∧ (v3 ≠ 0 → Ca 58 [.inr (.inr 161), .inl x3, .inl x4] S M2 (fun r => ∃ M5 : Mem, r = (S, M5, none) ∧ (inR (x4 + 1)) ∧ En 54 88 [some (.inr (.inr 161)), some (.inr (.inr 9)), some (.inl x2), some (.inl x3), some (.inl (x4 + 1))] [] S M5 Q))))))) : En 54 88 [some (.inr (.inr 161)), some (.inr (.inr 9)), some (.inl x2), some (.inl x3), some (.inl x4)] [] S M Q := by
  have hP : PR 54 = (bc_54, 5) := rfl
  refine e_ld hP rfl rfl ?_
  refine e_ld hP rfl rfl ?_
  refine e_gI (a := 6) 160 (sh_160 hS) hP rfl (by decide) ?_
  refine e_cge hP rfl (fun hc => ?_) (fun hc => ?_)
  · have h := h.1 hc
    obtain ⟨hs1, h⟩ := h
    refine e_inc (L' := [some (.inr (.inr 161)), some (.inr (.inr 9)), some (.inl x2), some (.inl (x3 + (-2))), some (.inl x4)]) hP rfl rfl hs1 rfl ?_
    refine e_go hP rfl ?_
    exact en_fg h ⟨Or.inr rfl, Or.inr rfl, Or.inr rfl, Or.inr rfl, Or.inl rfl, trivial⟩
  · have h := h.2 hc
    refine e_ld hP rfl rfl ?_
    refine e_ld hP rfl rfl ?_
    refine e_call hP rfl rfl rfl (Nat.le_of_ble_eq_true rfl) (Nat.le_of_ble_eq_true rfl) rcv1 ?_
    refine Ca.mono h (fun r hr => ?_)
    obtain ⟨M2, v3, rfl, h⟩ := hr
    show En 54 95 [some (.inr (.inr 161)), some (.inr (.inr 9)), some (.inl x2), some (.inl x3), some (.inl x4)] [.inl v3] S M2 Q
    refine e_zeq hP rfl (fun hc => ?_) (fun hc => ?_)
    · have h := h.1 hc
      obtain ⟨hs4, h⟩ := h
      refine e_inc (L' := [some (.inr (.inr 161)), some (.inr (.inr 9)), some (.inl x2), some (.inl x3), some (.inl (x4 + 1))]) hP rfl rfl hs4 rfl ?_
      refine e_go hP rfl ?_
      exact h
    · have h := h.2 hc
      refine e_ld hP rfl rfl ?_
      refine e_ld hP rfl rfl ?_
      refine e_ld hP rfl rfl ?_
      refine e_call hP rfl rfl rfl (Nat.le_of_ble_eq_true rfl) (Nat.le_of_ble_eq_true rfl) (rcv0 (sh_160 hS) (by decide)) ?_
      refine Ca.mono h (fun r hr => ?_)
      obtain ⟨M5, rfl, h⟩ := hr
      show En 54 100 [some (.inr (.inr 161)), some (.inr (.inr 9)), some (.inl x2), some (.inl x3), some (.inl x4)] [] S M5 Q
      obtain ⟨hs6, h⟩ := h
      refine e_inc (L' := [some (.inr (.inr 161)), some (.inr (.inr 9)), some (.inl x2), some (.inl x3), some (.inl (x4 + 1))]) hP rfl rfl hs6 rfl ?_
      refine e_go hP rfl ?_
      exact h
theorem r_X6_between_0 {S : Shp} {M : Mem} {Q : Res → Prop} (hS : KC S) {p1 p2 : Int} (h : (0 ≤ p1 ∧ p1 < 8) ∧ Ca 135 [.inl (M 163 p1.toNat), .inl p2] S M (fun r => ∃ (M2 : Mem) (v3 : Int), r = (S, M2, some (.inl v3)) ∧ ((v3 = 0 → Q (S, M2, some (.inl (0 : Int)))) ∧ (v3 ≠ 0 → Q (S, M2, some (.inl (1 : Int))))))) : Ca 55 [.inr (.inr 161), .inl p1, .inl p2] S M Q := by
  have hP : PR 55 = (bc_55, 3) := rfl
  refine ⟨Nat.le_of_ble_eq_true rfl, ?_⟩
  show En 55 0 [some (.inr (.inr 161)), some (.inl p1), some (.inl p2)] [] S M Q
  refine e_ld hP rfl rfl ?_
  refine e_gR (a := 6) (w := 164) 160 (sh_160 hS) hP rfl (by decide) rfl ?_
  refine e_ld hP rfl rfl ?_
  obtain ⟨hs1, h⟩ := h
  refine e_al 163 (sh_163 hS) hP rfl hs1 ?_
  refine e_ld hP rfl rfl ?_
  refine e_call hP rfl rfl rfl (Nat.le_of_ble_eq_true rfl) (Nat.le_of_ble_eq_true rfl) rcv1 ?_
  refine Ca.mono h (fun r hr => ?_)
  obtain ⟨M2, v3, rfl, h⟩ := hr
  show En 55 6 [some (.inr (.inr 161)), some (.inl p1), some (.inl p2)] [.inl v3] S M2 Q
  refine e_zeq hP rfl (fun hc => ?_) (fun hc => ?_)
  · have h := h.1 hc
    refine e_c hP rfl ?_
    exact e_ret hP rfl rfl h
  · have h := h.2 hc
    refine e_c hP rfl ?_
    refine e_go hP rfl ?_
    exact e_ret hP rfl rfl h
theorem r_X6_closing_0 {S : Shp} {M : Mem} {Q : Res → Prop} (hS : KC S) {p1 : Int} (h : (((M 160 3) ≤ (2 : Int) → Q (S, M, some (.inl (0 : Int)))) ∧ ((2 : Int) < (M 160 3) → Ca 55 [.inr (.inr 161), .inl p1, .inl (0 : Int)] S M (fun r => ∃ (M1 : Mem) (v2 : Int), r = (S, M1, some (.inl v2)) ∧ Q (S, M1, some (.inl v2)))))) : Ca 56 [.inr (.inr 161), .inl p1] S M Q := by
  have hP : PR 56 = (bc_56, 2) := rfl
  refine ⟨Nat.le_of_ble_eq_true rfl, ?_⟩
  show En 56 0 [some (.inr (.inr 161)), some (.inl p1)] [] S M Q
  refine e_ld hP rfl rfl ?_
  refine e_gI (a := 6) 160 (sh_160 hS) hP rfl (by decide) ?_
  refine e_c hP rfl ?_
  refine e_cle hP rfl (fun hc => ?_) (fun hc => ?_)
  · have h := h.1 hc
    refine e_c hP rfl ?_
    exact e_ret hP rfl rfl h
  · have h := h.2 hc
    refine e_ld hP rfl rfl ?_
    refine e_ld hP rfl rfl ?_
    refine e_c hP rfl ?_
    refine e_call hP rfl rfl rfl (Nat.le_of_ble_eq_true rfl) (Nat.le_of_ble_eq_true rfl) (rcv0 (sh_160 hS) (by decide)) ?_
    refine Ca.mono h (fun r hr => ?_)
    obtain ⟨M1, v2, rfl, h⟩ := hr
    show En 56 8 [some (.inr (.inr 161)), some (.inl p1)] [.inl v2] S M1 Q
    refine e_go hP rfl ?_
    exact e_ret hP rfl rfl h
theorem r_X6_quarrelsBy_0 {S : Shp} {M : Mem} {Q : Res → Prop} (hS : KC S) {p1 p2 p3 : Int} (h : Ca 55 [.inr (.inr 161), .inl p2, .inl p3] S M (fun r => ∃ (M1 : Mem) (v2 : Int), r = (S, M1, some (.inl v2)) ∧ (0 ≤ (1 : Int) ∧ 0 ≤ p3 ∧ p3 < 32 ∧ inR ((1 : Int) * 2 ^ p3.toNat)) ∧ (0 ≤ p1 ∧ 0 ≤ ((1 : Int) * 2 ^ p3.toNat)) ∧ (inR ((((p1.toNat ||| ((1 : Int) * 2 ^ p3.toNat).toNat : Nat) : Int)) * (8 : Int))) ∧ (inR (((((p1.toNat ||| ((1 : Int) * 2 ^ p3.toNat).toNat : Nat) : Int)) * (8 : Int)) + p3)) ∧ (0 ≤ (((((p1.toNat ||| ((1 : Int) * 2 ^ p3.toNat).toNat : Nat) : Int)) * (8 : Int)) + p3) ∧ (((((p1.toNat ||| ((1 : Int) * 2 ^ p3.toNat).toNat : Nat) : Int)) * (8 : Int)) + p3) < 2048) ∧ (inR (v2 + (M1 161 (((((p1.toNat ||| ((1 : Int) * 2 ^ p3.toNat).toNat : Nat) : Int)) * (8 : Int)) + p3).toNat))) ∧ Q (S, M1, some (.inl (v2 + (M1 161 (((((p1.toNat ||| ((1 : Int) * 2 ^ p3.toNat).toNat : Nat) : Int)) * (8 : Int)) + p3).toNat)))))) : Ca 57 [.inr (.inr 161), .inl p1, .inl p2, .inl p3] S M Q := by
  have hP : PR 57 = (bc_57, 4) := rfl
  refine ⟨Nat.le_of_ble_eq_true rfl, ?_⟩
  show En 57 0 [some (.inr (.inr 161)), some (.inl p1), some (.inl p2), some (.inl p3)] [] S M Q
  refine e_ld hP rfl rfl ?_
  refine e_ld hP rfl rfl ?_
  refine e_ld hP rfl rfl ?_
  refine e_call hP rfl rfl rfl (Nat.le_of_ble_eq_true rfl) (Nat.le_of_ble_eq_true rfl) (rcv0 (sh_160 hS) (by decide)) ?_
  refine Ca.mono h (fun r hr => ?_)
  obtain ⟨M1, v2, rfl, h⟩ := hr
  show En 57 4 [some (.inr (.inr 161)), some (.inl p1), some (.inl p2), some (.inl p3)] [.inl v2] S M1 Q
  refine e_ld hP rfl rfl ?_
  refine e_gR (a := 6) (w := 162) 160 (sh_160 hS) hP rfl (by decide) rfl ?_
  refine e_ld hP rfl rfl ?_
  refine e_c hP rfl ?_
  refine e_ld hP rfl rfl ?_
  obtain ⟨hs3, h⟩ := h
  refine e_shl hP rfl hs3 ?_
  obtain ⟨hs4, h⟩ := h
  refine e_or hP rfl hs4 ?_
  refine e_c hP rfl ?_
  obtain ⟨hs5, h⟩ := h
  refine e_mul hP rfl hs5 ?_
  refine e_ld hP rfl rfl ?_
  obtain ⟨hs6, h⟩ := h
  refine e_add hP rfl hs6 ?_
  obtain ⟨hs7, h⟩ := h
  refine e_al 161 (sh_161 hS) hP rfl hs7 ?_
  obtain ⟨hs8, h⟩ := h
  refine e_add hP rfl hs8 ?_
  exact e_ret hP rfl rfl h
theorem r_X6_weigh_0 {S : Shp} {M : Mem} {Q : Res → Prop} (hS : KC S) {p1 p2 : Int} (h : En 58 6 [some (.inr (.inr 161)), some (.inl p1), some (.inl p2), some (.inl (9 : Int)), some (.inl (0 : Int)), some (.inl (1 : Int)), none] [] S M Q) : Ca 58 [.inr (.inr 161), .inl p1, .inl p2] S M Q := by
  have hP : PR 58 = (bc_58, 7) := rfl
  refine ⟨Nat.le_of_ble_eq_true rfl, ?_⟩
  show En 58 0 [some (.inr (.inr 161)), some (.inl p1), some (.inl p2), none, none, none, none] [] S M Q
  refine e_c hP rfl ?_
  refine e_st (L' := [some (.inr (.inr 161)), some (.inl p1), some (.inl p2), some (.inl (9 : Int)), none, none, none]) hP rfl rfl ?_
  refine e_c hP rfl ?_
  refine e_st (L' := [some (.inr (.inr 161)), some (.inl p1), some (.inl p2), some (.inl (9 : Int)), some (.inl (0 : Int)), none, none]) hP rfl rfl ?_
  refine e_c hP rfl ?_
  refine e_st (L' := [some (.inr (.inr 161)), some (.inl p1), some (.inl p2), some (.inl (9 : Int)), some (.inl (0 : Int)), some (.inl (1 : Int)), none]) hP rfl rfl ?_
  exact h
theorem r_X6_weigh_6 {S : Shp} {M : Mem} {Q : Res → Prop} (hS : KC S) {x1 x2 x3 x4 x5 : Int} (h : (((M 160 3) ≤ x5 → (inR (x1 * (8 : Int))) ∧ (inR ((x1 * (8 : Int)) + x2)) ∧ (0 ≤ ((x1 * (8 : Int)) + x2) ∧ ((x1 * (8 : Int)) + x2) < 2048) ∧ (inR (x1 * (8 : Int))) ∧ (inR ((x1 * (8 : Int)) + x2)) ∧ (0 ≤ ((x1 * (8 : Int)) + x2) ∧ ((x1 * (8 : Int)) + x2) < 2048) ∧ Q (S, up2 (up2 M 161 ((x1 * (8 : Int)) + x2).toNat x3) 162 ((x1 * (8 : Int)) + x2).toNat x4, none)) ∧ (x5 < (M 160 3) → Ca 135 [.inl x1, .inl x5] S M (fun r => ∃ (M7 : Mem) (v8 : Int), r = (S, M7, some (.inl v8)) ∧ ((v8 ≠ 0 → (inR (x5 + 1)) ∧ En 58 6 [some (.inr (.inr 161)), some (.inl x1), some (.inl x2), some (.inl x3), some (.inl x4), some (.inl (x5 + 1)), none] [] S M7 Q) ∧ (v8 = 0 → Ca 57 [.inr (.inr 161), .inl x1, .inl x2, .inl x5] S M7 (fun r => ∃ (M10 : Mem) (v11 : Int), r = (S, M10, some (.inl v11)) ∧ ((x3 ≤ v11 → ((v11 ≠ x3 → (inR (x5 + 1)) ∧ En 58 6 [some (.inr (.inr 161)), some (.inl x1), some (.inl x2), some (.inl x3), some (.inl x4), some (.inl (x5 + 1)), none] [] S M10 Q) ∧ (v11 = x3 → (0 ≤ (1 : Int) ∧ 0 ≤ x5 ∧ x5 < 32 ∧ inR ((1 : Int) * 2 ^ x5.toNat)) ∧ (0 ≤ x1 ∧ 0 ≤ ((1 : Int) * 2 ^ x5.toNat)) ∧ (inR ((((x1.toNat ||| ((1 : Int) * 2 ^ x5.toNat).toNat : Nat) : Int)) * (8 : Int))) ∧ (inR (((((x1.toNat ||| ((1 : Int) * 2 ^ x5.toNat).toNat : Nat) : Int)) * (8 : Int)) + x5)) ∧ (0 ≤ (((((x1.toNat ||| ((1 : Int) * 2 ^ x5.toNat).toNat : Nat) : Int)) * (8 : Int)) + x5) ∧ (((((x1.toNat ||| ((1 : Int) * 2 ^ x5.toNat).toNat : Nat) : Int)) * (8 : Int)) + x5) < 2048) ∧ (inR (x4 + (M10 162 (((((x1.toNat ||| ((1 : Int) * 2 ^ x5.toNat).toNat : Nat) : Int)) * (8 : Int)) + x5).toNat))) ∧ (inR (x5 + 1)) ∧ En 58 6 [some (.inr (.inr 161)), some (.inl x1), some (.inl x2), some (.inl x3), some (.inl (x4 + (M10 162 (((((x1.toNat ||| ((1 : Int) * 2 ^ x5.toNat).toNat : Nat) : Int)) * (8 : Int)) + x5).toNat))), some (.inl (x5 + 1)), none] [] S M10 Q))) ∧ (v11 < x3 → ((v11 ≠ v11 → (inR (x5 + 1)) ∧ En 58 6 [some (.inr (.inr 161)), some (.inl x1), some (.inl x2), some (.inl v11), some (.inl (0 : Int)), some (.inl (x5 + 1)), none] [] S M10 Q) ∧ (v11 = v11 → (0 ≤ (1 : Int) ∧ 0 ≤ x5 ∧ x5 < 32 ∧ inR ((1 : Int) * 2 ^ x5.toNat)) ∧ (0 ≤ x1 ∧ 0 ≤ ((1 : Int) * 2 ^ x5.toNat)) ∧ (inR ((((x1.toNat ||| ((1 : Int) * 2 ^ x5.toNat).toNat : Nat) : Int)) * (8 : Int))) ∧ (inR (((((x1.toNat ||| ((1 : Int) * 2 ^ x5.toNat).toNat : Nat) : Int)) * (8 : Int)) + x5)) ∧ (0 ≤ (((((x1.toNat ||| ((1 : Int) * 2 ^ x5.toNat).toNat : Nat) : Int)) * (8 : Int)) + x5) ∧ (((((x1.toNat ||| ((1 : Int) * 2 ^ x5.toNat).toNat : Nat) : Int)) * (8 : Int)) + x5) < 2048) ∧ (inR ((0 : Int) + (M10 162 (((((x1.toNat ||| ((1 : Int) * 2 ^ x5.toNat).toNat : Nat) : Int)) * (8 : Int)) + x5).toNat))) ∧ (inR (x5 + 1)) ∧ En 58 6 [some (.inr (.inr 161)), some (.inl x1), some (.inl x2), some (.inl v11), some (.inl ((0 : Int) + (M10 162 (((((x1.toNat ||| ((1 : Int) * 2 ^ x5.toNat).toNat : Nat) : Int)) * (8 : Int)) + x5).toNat))), some (.inl (x5 + 1)), none] [] S M10 Q))))))))))) : En 58 6 [some (.inr (.inr 161)), some (.inl x1), some (.inl x2), some (.inl x3), some (.inl x4), some (.inl x5), none] [] S M Q := by
  have hP : PR 58 = (bc_58, 7) := rfl
  refine e_ld hP rfl rfl ?_
  refine e_ld hP rfl rfl ?_
  refine e_gI (a := 6) 160 (sh_160 hS) hP rfl (by decide) ?_
  refine e_cge hP rfl (fun hc => ?_) (fun hc => ?_)
  · have h := h.1 hc
    refine e_ld hP rfl rfl ?_
    refine e_gR (a := 6) (w := 162) 160 (sh_160 hS) hP rfl (by decide) rfl ?_
    refine e_ld hP rfl rfl ?_
    refine e_c hP rfl ?_
    obtain ⟨hs1, h⟩ := h
    refine e_mul hP rfl hs1 ?_
    refine e_ld hP rfl rfl ?_
    obtain ⟨hs2, h⟩ := h
    refine e_add hP rfl hs2 ?_
    refine e_ld hP rfl rfl ?_
    obtain ⟨hs3, h⟩ := h
    refine e_as 161 (sh_161 hS) (by decide) hP rfl hs3 ?_
    refine e_ld hP rfl rfl ?_
    refine e_gR (a := 6) (w := 163) 160 (sh_160 hS) hP rfl (by decide) rfl ?_
    refine e_ld hP rfl rfl ?_
    refine e_c hP rfl ?_
    obtain ⟨hs4, h⟩ := h
    refine e_mul hP rfl hs4 ?_
    refine e_ld hP rfl rfl ?_
    obtain ⟨hs5, h⟩ := h
    refine e_add hP rfl hs5 ?_
    refine e_ld hP rfl rfl ?_
    obtain ⟨hs6, h⟩ := h
    refine e_as 162 (sh_162 hS) (by decide) hP rfl hs6 ?_
    exact e_retv hP rfl h
  · have h := h.2 hc
    refine e_ld hP rfl rfl ?_
    refine e_ld hP rfl rfl ?_
    refine e_call hP rfl rfl rfl (Nat.le_of_ble_eq_true rfl) (Nat.le_of_ble_eq_true rfl) rcv1 ?_
    refine Ca.mono h (fun r hr => ?_)
    obtain ⟨M7, v8, rfl, h⟩ := hr
    show En 58 13 [some (.inr (.inr 161)), some (.inl x1), some (.inl x2), some (.inl x3), some (.inl x4), some (.inl x5), none] [.inl v8] S M7 Q
    refine e_zne hP rfl (fun hc => ?_) (fun hc => ?_)
    · have h := h.1 hc
      obtain ⟨hs9, h⟩ := h
      refine e_inc (L' := [some (.inr (.inr 161)), some (.inl x1), some (.inl x2), some (.inl x3), some (.inl x4), some (.inl (x5 + 1)), none]) hP rfl rfl hs9 rfl ?_
      refine e_go hP rfl ?_
      exact h
    · have h := h.2 hc
      refine e_ld hP rfl rfl ?_
      refine e_ld hP rfl rfl ?_
      refine e_ld hP rfl rfl ?_
      refine e_ld hP rfl rfl ?_
      refine e_call hP rfl rfl rfl (Nat.le_of_ble_eq_true rfl) (Nat.le_of_ble_eq_true rfl) (rcv0 (sh_160 hS) (by decide)) ?_
      refine Ca.mono h (fun r hr => ?_)
      obtain ⟨M10, v11, rfl, h⟩ := hr
      show En 58 19 [some (.inr (.inr 161)), some (.inl x1), some (.inl x2), some (.inl x3), some (.inl x4), some (.inl x5), none] [.inl v11] S M10 Q
      refine e_st (L' := [some (.inr (.inr 161)), some (.inl x1), some (.inl x2), some (.inl x3), some (.inl x4), some (.inl x5), some (.inl v11)]) hP rfl rfl ?_
      refine e_ld hP rfl rfl ?_
      refine e_ld hP rfl rfl ?_
      refine e_cge hP rfl (fun hc => ?_) (fun hc => ?_)
      · have h := h.1 hc
        refine e_ld hP rfl rfl ?_
        refine e_ld hP rfl rfl ?_
        refine e_cne hP rfl (fun hc => ?_) (fun hc => ?_)
        · have h := h.1 hc
          obtain ⟨hs12, h⟩ := h
          refine e_inc (L' := [some (.inr (.inr 161)), some (.inl x1), some (.inl x2), some (.inl x3), some (.inl x4), some (.inl (x5 + 1)), some (.inl v11)]) hP rfl rfl hs12 rfl ?_
          refine e_go hP rfl ?_
          exact en_fg h ⟨Or.inr rfl, Or.inr rfl, Or.inr rfl, Or.inr rfl, Or.inr rfl, Or.inr rfl, Or.inl rfl, trivial⟩
        · have h := h.2 hc
          refine e_ld hP rfl rfl ?_
          refine e_ld hP rfl rfl ?_
          refine e_gR (a := 6) (w := 163) 160 (sh_160 hS) hP rfl (by decide) rfl ?_
          refine e_ld hP rfl rfl ?_
          refine e_c hP rfl ?_
          refine e_ld hP rfl rfl ?_
          obtain ⟨hs13, h⟩ := h
          refine e_shl hP rfl hs13 ?_
          obtain ⟨hs14, h⟩ := h
          refine e_or hP rfl hs14 ?_
          refine e_c hP rfl ?_
          obtain ⟨hs15, h⟩ := h
          refine e_mul hP rfl hs15 ?_
          refine e_ld hP rfl rfl ?_
          obtain ⟨hs16, h⟩ := h
          refine e_add hP rfl hs16 ?_
          obtain ⟨hs17, h⟩ := h
          refine e_al 162 (sh_162 hS) hP rfl hs17 ?_
          obtain ⟨hs18, h⟩ := h
          refine e_add hP rfl hs18 ?_
          refine e_st (L' := [some (.inr (.inr 161)), some (.inl x1), some (.inl x2), some (.inl x3), some (.inl (x4 + (M10 162 (((((x1.toNat ||| ((1 : Int) * 2 ^ x5.toNat).toNat : Nat) : Int)) * (8 : Int)) + x5).toNat))), some (.inl x5), some (.inl v11)]) hP rfl rfl ?_
          obtain ⟨hs19, h⟩ := h
          refine e_inc (L' := [some (.inr (.inr 161)), some (.inl x1), some (.inl x2), some (.inl x3), some (.inl (x4 + (M10 162 (((((x1.toNat ||| ((1 : Int) * 2 ^ x5.toNat).toNat : Nat) : Int)) * (8 : Int)) + x5).toNat))), some (.inl (x5 + 1)), some (.inl v11)]) hP rfl rfl hs19 rfl ?_
          refine e_go hP rfl ?_
          exact en_fg h ⟨Or.inr rfl, Or.inr rfl, Or.inr rfl, Or.inr rfl, Or.inr rfl, Or.inr rfl, Or.inl rfl, trivial⟩
      · have h := h.2 hc
        refine e_ld hP rfl rfl ?_
        refine e_st (L' := [some (.inr (.inr 161)), some (.inl x1), some (.inl x2), some (.inl v11), some (.inl x4), some (.inl x5), some (.inl v11)]) hP rfl rfl ?_
        refine e_c hP rfl ?_
        refine e_st (L' := [some (.inr (.inr 161)), some (.inl x1), some (.inl x2), some (.inl v11), some (.inl (0 : Int)), some (.inl x5), some (.inl v11)]) hP rfl rfl ?_
        refine e_ld hP rfl rfl ?_
        refine e_ld hP rfl rfl ?_
        refine e_cne hP rfl (fun hc => ?_) (fun hc => ?_)
        · have h := h.1 hc
          obtain ⟨hs20, h⟩ := h
          refine e_inc (L' := [some (.inr (.inr 161)), some (.inl x1), some (.inl x2), some (.inl v11), some (.inl (0 : Int)), some (.inl (x5 + 1)), some (.inl v11)]) hP rfl rfl hs20 rfl ?_
          refine e_go hP rfl ?_
          exact en_fg h ⟨Or.inr rfl, Or.inr rfl, Or.inr rfl, Or.inr rfl, Or.inr rfl, Or.inr rfl, Or.inl rfl, trivial⟩
        · have h := h.2 hc
          refine e_ld hP rfl rfl ?_
          refine e_ld hP rfl rfl ?_
          refine e_gR (a := 6) (w := 163) 160 (sh_160 hS) hP rfl (by decide) rfl ?_
          refine e_ld hP rfl rfl ?_
          refine e_c hP rfl ?_
          refine e_ld hP rfl rfl ?_
          obtain ⟨hs21, h⟩ := h
          refine e_shl hP rfl hs21 ?_
          obtain ⟨hs22, h⟩ := h
          refine e_or hP rfl hs22 ?_
          refine e_c hP rfl ?_
          obtain ⟨hs23, h⟩ := h
          refine e_mul hP rfl hs23 ?_
          refine e_ld hP rfl rfl ?_
          obtain ⟨hs24, h⟩ := h
          refine e_add hP rfl hs24 ?_
          obtain ⟨hs25, h⟩ := h
          refine e_al 162 (sh_162 hS) hP rfl hs25 ?_
          obtain ⟨hs26, h⟩ := h
          refine e_add hP rfl hs26 ?_
          refine e_st (L' := [some (.inr (.inr 161)), some (.inl x1), some (.inl x2), some (.inl v11), some (.inl ((0 : Int) + (M10 162 (((((x1.toNat ||| ((1 : Int) * 2 ^ x5.toNat).toNat : Nat) : Int)) * (8 : Int)) + x5).toNat))), some (.inl x5), some (.inl v11)]) hP rfl rfl ?_
          obtain ⟨hs27, h⟩ := h
          refine e_inc (L' := [some (.inr (.inr 161)), some (.inl x1), some (.inl x2), some (.inl v11), some (.inl ((0 : Int) + (M10 162 (((((x1.toNat ||| ((1 : Int) * 2 ^ x5.toNat).toNat : Nat) : Int)) * (8 : Int)) + x5).toNat))), some (.inl (x5 + 1)), some (.inl v11)]) hP rfl rfl hs27 rfl ?_
          refine e_go hP rfl ?_
          exact en_fg h ⟨Or.inr rfl, Or.inr rfl, Or.inr rfl, Or.inr rfl, Or.inr rfl, Or.inr rfl, Or.inl rfl, trivial⟩
theorem r_X6_fewestQuarrels_0 {S : Shp} {M : Mem} {Q : Res → Prop} (hS : KC S) (h : (0 ≤ (8 : Int) ∧ (8 : Int) < 2048) ∧ Q (S, M, some (.inl (M 161 (8 : Int).toNat)))) : Ca 59 [.inr (.inr 161)] S M Q := by
  have hP : PR 59 = (bc_59, 1) := rfl
  refine ⟨Nat.le_of_ble_eq_true rfl, ?_⟩
  show En 59 0 [some (.inr (.inr 161))] [] S M Q
  refine e_ld hP rfl rfl ?_
  refine e_gR (a := 6) (w := 162) 160 (sh_160 hS) hP rfl (by decide) rfl ?_
  refine e_c hP rfl ?_
  obtain ⟨hs1, h⟩ := h
  refine e_al 161 (sh_161 hS) hP rfl hs1 ?_
  exact e_ret hP rfl rfl h
theorem r_X6_waysOfFewest_0 {S : Shp} {M : Mem} {Q : Res → Prop} (hS : KC S) (h : (0 ≤ (8 : Int) ∧ (8 : Int) < 2048) ∧ Q (S, M, some (.inl (M 162 (8 : Int).toNat)))) : Ca 60 [.inr (.inr 161)] S M Q := by
  have hP : PR 60 = (bc_60, 1) := rfl
  refine ⟨Nat.le_of_ble_eq_true rfl, ?_⟩
  show En 60 0 [some (.inr (.inr 161))] [] S M Q
  refine e_ld hP rfl rfl ?_
  refine e_gR (a := 6) (w := 163) 160 (sh_160 hS) hP rfl (by decide) rfl ?_
  refine e_c hP rfl ?_
  obtain ⟨hs1, h⟩ := h
  refine e_al 162 (sh_162 hS) hP rfl hs1 ?_
  exact e_ret hP rfl rfl h
theorem r_X6_sitterAt_0 {S : Shp} {M : Mem} {Q : Res → Prop} (hS : KC S) {p1 : Int} (h : En 61 6 [some (.inr (.inr 161)), some (.inl p1), some (.inl (1 : Int)), some (.inl (0 : Int)), some (.inl (0 : Int))] [] S M Q) : Ca 61 [.inr (.inr 161), .inl p1] S M Q := by
  have hP : PR 61 = (bc_61, 5) := rfl
  refine ⟨Nat.le_of_ble_eq_true rfl, ?_⟩
  show En 61 0 [some (.inr (.inr 161)), some (.inl p1), none, none, none] [] S M Q
  refine e_c hP rfl ?_
  refine e_st (L' := [some (.inr (.inr 161)), some (.inl p1), some (.inl (1 : Int)), none, none]) hP rfl rfl ?_
  refine e_c hP rfl ?_
  refine e_st (L' := [some (.inr (.inr 161)), some (.inl p1), some (.inl (1 : Int)), some (.inl (0 : Int)), none]) hP rfl rfl ?_
  refine e_c hP rfl ?_
  refine e_st (L' := [some (.inr (.inr 161)), some (.inl p1), some (.inl (1 : Int)), some (.inl (0 : Int)), some (.inl (0 : Int))]) hP rfl rfl ?_
  exact h
theorem r_X6_sitterAt_6 {S : Shp} {M : Mem} {Q : Res → Prop} (hS : KC S) {x1 x2 x3 x4 : Int} (h : ((x1 ≤ x4 → Q (S, M, some (.inl x3))) ∧ (x4 < x1 → (((8 : Int) ≤ x4 → Q (S, M, some (.inl x3))) ∧ (x4 < (8 : Int) → Ca 62 [.inr (.inr 161), .inl x2, .inl x3] S M (fun r => ∃ (M1 : Mem) (v2 : Int), r = (S, M1, some (.inl v2)) ∧ (0 ≤ (1 : Int) ∧ 0 ≤ v2 ∧ v2 < 32 ∧ inR ((1 : Int) * 2 ^ v2.toNat)) ∧ (0 ≤ x2 ∧ 0 ≤ ((1 : Int) * 2 ^ v2.toNat)) ∧ (inR (x4 + 1)) ∧ En 61 6 [some (.inr (.inr 161)), some (.inl x1), some (.inl (((x2.toNat ||| ((1 : Int) * 2 ^ v2.toNat).toNat : Nat) : Int))), some (.inl v2), some (.inl (x4 + 1))] [] S M1 Q)))))) : En 61 6 [some (.inr (.inr 161)), some (.inl x1), some (.inl x2), some (.inl x3), some (.inl x4)] [] S M Q := by
  have hP : PR 61 = (bc_61, 5) := rfl
  refine e_ld hP rfl rfl ?_
  refine e_ld hP rfl rfl ?_
  refine e_cge hP rfl (fun hc => ?_) (fun hc => ?_)
  · have h := h.1 hc
    refine e_ld hP rfl rfl ?_
    exact e_ret hP rfl rfl h
  · have h := h.2 hc
    refine e_ld hP rfl rfl ?_
    refine e_c hP rfl ?_
    refine e_cge hP rfl (fun hc => ?_) (fun hc => ?_)
    · have h := h.1 hc
      refine e_ld hP rfl rfl ?_
      exact e_ret hP rfl rfl h
    · have h := h.2 hc
      refine e_ld hP rfl rfl ?_
      refine e_ld hP rfl rfl ?_
      refine e_ld hP rfl rfl ?_
      refine e_call hP rfl rfl rfl (Nat.le_of_ble_eq_true rfl) (Nat.le_of_ble_eq_true rfl) (rcv0 (sh_160 hS) (by decide)) ?_
      refine Ca.mono h (fun r hr => ?_)
      obtain ⟨M1, v2, rfl, h⟩ := hr
      show En 61 16 [some (.inr (.inr 161)), some (.inl x1), some (.inl x2), some (.inl x3), some (.inl x4)] [.inl v2] S M1 Q
      refine e_st (L' := [some (.inr (.inr 161)), some (.inl x1), some (.inl x2), some (.inl v2), some (.inl x4)]) hP rfl rfl ?_
      refine e_ld hP rfl rfl ?_
      refine e_c hP rfl ?_
      refine e_ld hP rfl rfl ?_
      obtain ⟨hs3, h⟩ := h
      refine e_shl hP rfl hs3 ?_
      obtain ⟨hs4, h⟩ := h
      refine e_or hP rfl hs4 ?_
      refine e_st (L' := [some (.inr (.inr 161)), some (.inl x1), some (.inl (((x2.toNat ||| ((1 : Int) * 2 ^ v2.toNat).toNat : Nat) : Int))), some (.inl v2), some (.inl x4)]) hP rfl rfl ?_
      obtain ⟨hs5, h⟩ := h
      refine e_inc (L' := [some (.inr (.inr 161)), some (.inl x1), some (.inl (((x2.toNat ||| ((1 : Int) * 2 ^ v2.toNat).toNat : Nat) : Int))), some (.inl v2), some (.inl (x4 + 1))]) hP rfl rfl hs5 rfl ?_
      refine e_go hP rfl ?_
      exact h
theorem r_X6_nextBehind_0 {S : Shp} {M : Mem} {Q : Res → Prop} (hS : KC S) {p1 p2 : Int} (h : En 62 2 [some (.inr (.inr 161)), some (.inl p1), some (.inl p2), some (.inl (1 : Int))] [] S M Q) : Ca 62 [.inr (.inr 161), .inl p1, .inl p2] S M Q := by
  have hP : PR 62 = (bc_62, 4) := rfl
  refine ⟨Nat.le_of_ble_eq_true rfl, ?_⟩
  show En 62 0 [some (.inr (.inr 161)), some (.inl p1), some (.inl p2), none] [] S M Q
  refine e_c hP rfl ?_
  refine e_st (L' := [some (.inr (.inr 161)), some (.inl p1), some (.inl p2), some (.inl (1 : Int))]) hP rfl rfl ?_
  exact h
theorem r_X6_nextBehind_2 {S : Shp} {M : Mem} {Q : Res → Prop} (hS : KC S) {x1 x2 x3 : Int} (h : (((M 160 3) ≤ x3 → Q (S, M, some (.inl (0 : Int)))) ∧ (x3 < (M 160 3) → Ca 135 [.inl x1, .inl x3] S M (fun r => ∃ (M1 : Mem) (v2 : Int), r = (S, M1, some (.inl v2)) ∧ ((v2 ≠ 0 → (inR (x3 + 1)) ∧ En 62 2 [some (.inr (.inr 161)), some (.inl x1), some (.inl x2), some (.inl (x3 + 1))] [] S M1 Q) ∧ (v2 = 0 → Ca 57 [.inr (.inr 161), .inl x1, .inl x2, .inl x3] S M1 (fun r => ∃ (M4 : Mem) (v5 : Int), r = (S, M4, some (.inl v5)) ∧ (inR (x1 * (8 : Int))) ∧ (inR ((x1 * (8 : Int)) + x2)) ∧ (0 ≤ ((x1 * (8 : Int)) + x2) ∧ ((x1 * (8 : Int)) + x2) < 2048) ∧ ((v5 ≠ (M4 161 ((x1 * (8 : Int)) + x2).toNat) → (inR (x3 + 1)) ∧ En 62 2 [some (.inr (.inr 161)), some (.inl x1), some (.inl x2), some (.inl (x3 + 1))] [] S M4 Q) ∧ (v5 = (M4 161 ((x1 * (8 : Int)) + x2).toNat) → Q (S, M4, some (.inl x3))))))))))) : En 62 2 [some (.inr (.inr 161)), some (.inl x1), some (.inl x2), some (.inl x3)] [] S M Q := by
  have hP : PR 62 = (bc_62, 4) := rfl
  refine e_ld hP rfl rfl ?_
  refine e_ld hP rfl rfl ?_
  refine e_gI (a := 6) 160 (sh_160 hS) hP rfl (by decide) ?_
  refine e_cge hP rfl (fun hc => ?_) (fun hc => ?_)
  · have h := h.1 hc
    refine e_c hP rfl ?_
    exact e_ret hP rfl rfl h
  · have h := h.2 hc
    refine e_ld hP rfl rfl ?_
    refine e_ld hP rfl rfl ?_
    refine e_call hP rfl rfl rfl (Nat.le_of_ble_eq_true rfl) (Nat.le_of_ble_eq_true rfl) rcv1 ?_
    refine Ca.mono h (fun r hr => ?_)
    obtain ⟨M1, v2, rfl, h⟩ := hr
    show En 62 9 [some (.inr (.inr 161)), some (.inl x1), some (.inl x2), some (.inl x3)] [.inl v2] S M1 Q
    refine e_zne hP rfl (fun hc => ?_) (fun hc => ?_)
    · have h := h.1 hc
      obtain ⟨hs3, h⟩ := h
      refine e_inc (L' := [some (.inr (.inr 161)), some (.inl x1), some (.inl x2), some (.inl (x3 + 1))]) hP rfl rfl hs3 rfl ?_
      refine e_go hP rfl ?_
      exact h
    · have h := h.2 hc
      refine e_ld hP rfl rfl ?_
      refine e_ld hP rfl rfl ?_
      refine e_ld hP rfl rfl ?_
      refine e_ld hP rfl rfl ?_
      refine e_call hP rfl rfl rfl (Nat.le_of_ble_eq_true rfl) (Nat.le_of_ble_eq_true rfl) (rcv0 (sh_160 hS) (by decide)) ?_
      refine Ca.mono h (fun r hr => ?_)
      obtain ⟨M4, v5, rfl, h⟩ := hr
      show En 62 15 [some (.inr (.inr 161)), some (.inl x1), some (.inl x2), some (.inl x3)] [.inl v5] S M4 Q
      refine e_ld hP rfl rfl ?_
      refine e_gR (a := 6) (w := 162) 160 (sh_160 hS) hP rfl (by decide) rfl ?_
      refine e_ld hP rfl rfl ?_
      refine e_c hP rfl ?_
      obtain ⟨hs6, h⟩ := h
      refine e_mul hP rfl hs6 ?_
      refine e_ld hP rfl rfl ?_
      obtain ⟨hs7, h⟩ := h
      refine e_add hP rfl hs7 ?_
      obtain ⟨hs8, h⟩ := h
      refine e_al 161 (sh_161 hS) hP rfl hs8 ?_
      refine e_cne hP rfl (fun hc => ?_) (fun hc => ?_)
      · have h := h.1 hc
        obtain ⟨hs9, h⟩ := h
        refine e_inc (L' := [some (.inr (.inr 161)), some (.inl x1), some (.inl x2), some (.inl (x3 + 1))]) hP rfl rfl hs9 rfl ?_
        refine e_go hP rfl ?_
        exact h
      · have h := h.2 hc
        refine e_ld hP rfl rfl ?_
        exact e_ret hP rfl rfl h
