/-! REGIONS of X3: by wip/gen/reggen.py -/
theorem r_X3_most_0 {S : Shp} {M : Mem} {Q : Res → Prop} (hS : KC S) {p2 : Int} (h : En 26 2 [some (.inr (.inr 158)), some (.inr (.inr 9)), some (.inl p2), some (.inl (0 : Int)), none] [] S M Q) : Ca 26 [.inr (.inr 158), .inr (.inr 9), .inl p2] S M Q := by
  have hP : PR 26 = (bc_26, 5) := rfl
  refine ⟨Nat.le_of_ble_eq_true rfl, ?_⟩
  show En 26 0 [some (.inr (.inr 158)), some (.inr (.inr 9)), some (.inl p2), none, none] [] S M Q
  refine e_c hP rfl ?_
  refine e_st (L' := [some (.inr (.inr 158)), some (.inr (.inr 9)), some (.inl p2), some (.inl (0 : Int)), none]) hP rfl rfl ?_
  exact h
theorem r_X3_most_2 {S : Shp} {M : Mem} {Q : Res → Prop} (hS : KC S) {x2 x3 : Int} (h : (((M 8 0) ≤ x3 → (0 ≤ (1 : Int) ∧ 0 ≤ (M 8 0) ∧ (M 8 0) < 32 ∧ inR ((1 : Int) * 2 ^ (M 8 0).toNat)) ∧ (inR (((1 : Int) * 2 ^ (M 8 0).toNat) - (1 : Int))) ∧ (0 ≤ (0 : Int) ∧ (0 : Int) < 256) ∧ En 26 56 [some (.inr (.inr 158)), some (.inr (.inr 9)), some (.inl x2), some (.inl (((1 : Int) * 2 ^ (M 8 0).toNat) - (1 : Int))), some (.inl (1 : Int))] [] S (up2 M 159 (0 : Int).toNat (0 : Int)) Q) ∧ (x3 < (M 8 0) → (0 ≤ x3 ∧ x3 < 8) ∧ En 26 13 [some (.inr (.inr 158)), some (.inr (.inr 9)), some (.inl x2), some (.inl x3), some (.inl (0 : Int))] [] S (up2 M 158 x3.toNat (0 : Int)) Q))) : En 26 2 [some (.inr (.inr 158)), some (.inr (.inr 9)), some (.inl x2), some (.inl x3), none] [] S M Q := by
  have hP : PR 26 = (bc_26, 5) := rfl
  refine e_ld hP rfl rfl ?_
  refine e_ld hP rfl rfl ?_
  refine e_gI (a := 7) 8 (sh_8 hS) hP rfl (by decide) ?_
  refine e_cge hP rfl (fun hc => ?_) (fun hc => ?_)
  · have h := h.1 hc
    refine e_c hP rfl ?_
    refine e_ld hP rfl rfl ?_
    refine e_gI (a := 7) 8 (sh_8 hS) hP rfl (by decide) ?_
    obtain ⟨hs1, h⟩ := h
    refine e_shl hP rfl hs1 ?_
    refine e_c hP rfl ?_
    obtain ⟨hs2, h⟩ := h
    refine e_sub hP rfl hs2 ?_
    refine e_st (L' := [some (.inr (.inr 158)), some (.inr (.inr 9)), some (.inl x2), some (.inl (((1 : Int) * 2 ^ (M 8 0).toNat) - (1 : Int))), none]) hP rfl rfl ?_
    refine e_ld hP rfl rfl ?_
    refine e_gR (a := 3) (w := 160) 157 (sh_157 hS) hP rfl (by decide) rfl ?_
    refine e_c hP rfl ?_
    refine e_c hP rfl ?_
    obtain ⟨hs3, h⟩ := h
    refine e_as 159 (sh_159 hS) (by decide) hP rfl hs3 ?_
    refine e_c hP rfl ?_
    refine e_st (L' := [some (.inr (.inr 158)), some (.inr (.inr 9)), some (.inl x2), some (.inl (((1 : Int) * 2 ^ (M 8 0).toNat) - (1 : Int))), some (.inl (1 : Int))]) hP rfl rfl ?_
    exact h
  · have h := h.2 hc
    refine e_ld hP rfl rfl ?_
    refine e_gR (a := 3) (w := 159) 157 (sh_157 hS) hP rfl (by decide) rfl ?_
    refine e_ld hP rfl rfl ?_
    refine e_c hP rfl ?_
    obtain ⟨hs4, h⟩ := h
    refine e_as 158 (sh_158 hS) (by decide) hP rfl hs4 ?_
    refine e_c hP rfl ?_
    refine e_st (L' := [some (.inr (.inr 158)), some (.inr (.inr 9)), some (.inl x2), some (.inl x3), some (.inl (0 : Int))]) hP rfl rfl ?_
    exact h
theorem r_X3_most_13 {S : Shp} {M : Mem} {Q : Res → Prop} (hS : KC S) {x2 x3 x4 : Int} (h : (((M 8 0) ≤ x4 → (inR (x3 + 1)) ∧ En 26 2 [some (.inr (.inr 158)), some (.inr (.inr 9)), some (.inl x2), some (.inl (x3 + 1)), none] [] S M Q) ∧ (x4 < (M 8 0) → (0 ≤ x3 ∧ x3 < 8) ∧ ((x3 = x4 → (0 ≤ (M 158 x3.toNat) ∧ 0 ≤ (0 : Int)) ∧ (0 ≤ x3 ∧ x3 < 8) ∧ (inR (x4 + 1)) ∧ En 26 13 [some (.inr (.inr 158)), some (.inr (.inr 9)), some (.inl x2), some (.inl x3), some (.inl (x4 + 1))] [] S (up2 M 158 x3.toNat ((((M 158 x3.toNat).toNat ||| (0 : Int).toNat : Nat) : Int))) Q) ∧ (x3 ≠ x4 → Ca 84 [.inr (.inr 9), .inl x3, .inl x4, .inl x2] S M (fun r => ∃ (M6 : Mem) (v7 : Int), r = (S, M6, some (.inl v7)) ∧ ((v7 = 0 → (0 ≤ (M 158 x3.toNat) ∧ 0 ≤ (0 : Int)) ∧ (0 ≤ x3 ∧ x3 < 8) ∧ (inR (x4 + 1)) ∧ En 26 13 [some (.inr (.inr 158)), some (.inr (.inr 9)), some (.inl x2), some (.inl x3), some (.inl (x4 + 1))] [] S (up2 M6 158 x3.toNat ((((M 158 x3.toNat).toNat ||| (0 : Int).toNat : Nat) : Int))) Q) ∧ (v7 ≠ 0 → (0 ≤ (1 : Int) ∧ 0 ≤ x4 ∧ x4 < 32 ∧ inR ((1 : Int) * 2 ^ x4.toNat)) ∧ (0 ≤ (M 158 x3.toNat) ∧ 0 ≤ ((1 : Int) * 2 ^ x4.toNat)) ∧ (0 ≤ x3 ∧ x3 < 8) ∧ (inR (x4 + 1)) ∧ En 26 13 [some (.inr (.inr 158)), some (.inr (.inr 9)), some (.inl x2), some (.inl x3), some (.inl (x4 + 1))] [] S (up2 M6 158 x3.toNat ((((M 158 x3.toNat).toNat ||| ((1 : Int) * 2 ^ x4.toNat).toNat : Nat) : Int))) Q)))))))) : En 26 13 [some (.inr (.inr 158)), some (.inr (.inr 9)), some (.inl x2), some (.inl x3), some (.inl x4)] [] S M Q := by
  have hP : PR 26 = (bc_26, 5) := rfl
  refine e_ld hP rfl rfl ?_
  refine e_ld hP rfl rfl ?_
  refine e_gI (a := 7) 8 (sh_8 hS) hP rfl (by decide) ?_
  refine e_cge hP rfl (fun hc => ?_) (fun hc => ?_)
  · have h := h.1 hc
    obtain ⟨hs1, h⟩ := h
    refine e_inc (L' := [some (.inr (.inr 158)), some (.inr (.inr 9)), some (.inl x2), some (.inl (x3 + 1)), some (.inl x4)]) hP rfl rfl hs1 rfl ?_
    refine e_go hP rfl ?_
    exact en_fg h ⟨Or.inr rfl, Or.inr rfl, Or.inr rfl, Or.inr rfl, Or.inl rfl, trivial⟩
  · have h := h.2 hc
    refine e_ld hP rfl rfl ?_
    refine e_gR (a := 3) (w := 159) 157 (sh_157 hS) hP rfl (by decide) rfl ?_
    refine e_ld hP rfl rfl ?_
    refine e_dup2 hP rfl ?_
    obtain ⟨hs2, h⟩ := h
    refine e_al 158 (sh_158 hS) hP rfl hs2 ?_
    refine e_ld hP rfl rfl ?_
    refine e_ld hP rfl rfl ?_
    refine e_ceq hP rfl (fun hc => ?_) (fun hc => ?_)
    · have h := h.1 hc
      refine e_c hP rfl ?_
      obtain ⟨hs3, h⟩ := h
      refine e_or hP rfl hs3 ?_
      obtain ⟨hs4, h⟩ := h
      refine e_as 158 (sh_158 hS) (by decide) hP rfl hs4 ?_
      obtain ⟨hs5, h⟩ := h
      refine e_inc (L' := [some (.inr (.inr 158)), some (.inr (.inr 9)), some (.inl x2), some (.inl x3), some (.inl (x4 + 1))]) hP rfl rfl hs5 rfl ?_
      refine e_go hP rfl ?_
      exact h
    · have h := h.2 hc
      refine e_ld hP rfl rfl ?_
      refine e_ld hP rfl rfl ?_
      refine e_ld hP rfl rfl ?_
      refine e_ld hP rfl rfl ?_
      refine e_call hP rfl rfl rfl (Nat.le_of_ble_eq_true rfl) (Nat.le_of_ble_eq_true rfl) (rcv0 (sh_8 hS) (by decide)) ?_
      refine Ca.mono h (fun r hr => ?_)
      obtain ⟨M6, v7, rfl, h⟩ := hr
      show En 26 30 [some (.inr (.inr 158)), some (.inr (.inr 9)), some (.inl x2), some (.inl x3), some (.inl x4)] [.inl v7, .inl (M 158 x3.toNat), .inl x3, .inr (.inr 159)] S M6 Q
      refine e_zeq hP rfl (fun hc => ?_) (fun hc => ?_)
      · have h := h.1 hc
        refine e_c hP rfl ?_
        obtain ⟨hs8, h⟩ := h
        refine e_or hP rfl hs8 ?_
        obtain ⟨hs9, h⟩ := h
        refine e_as 158 (sh_158 hS) (by decide) hP rfl hs9 ?_
        obtain ⟨hs10, h⟩ := h
        refine e_inc (L' := [some (.inr (.inr 158)), some (.inr (.inr 9)), some (.inl x2), some (.inl x3), some (.inl (x4 + 1))]) hP rfl rfl hs10 rfl ?_
        refine e_go hP rfl ?_
        exact h
      · have h := h.2 hc
        refine e_c hP rfl ?_
        refine e_ld hP rfl rfl ?_
        obtain ⟨hs11, h⟩ := h
        refine e_shl hP rfl hs11 ?_
        refine e_go hP rfl ?_
        obtain ⟨hs12, h⟩ := h
        refine e_or hP rfl hs12 ?_
        obtain ⟨hs13, h⟩ := h
        refine e_as 158 (sh_158 hS) (by decide) hP rfl hs13 ?_
        obtain ⟨hs14, h⟩ := h
        refine e_inc (L' := [some (.inr (.inr 158)), some (.inr (.inr 9)), some (.inl x2), some (.inl x3), some (.inl (x4 + 1))]) hP rfl rfl hs14 rfl ?_
        refine e_go hP rfl ?_
        exact h
theorem r_X3_most_56 {S : Shp} {M : Mem} {Q : Res → Prop} (hS : KC S) {x2 x3 x4 : Int} (h : ((x3 < x4 → (0 ≤ x3 ∧ x3 < 256) ∧ Q (S, M, some (.inl (M 159 x3.toNat)))) ∧ (x4 ≤ x3 → (((256 : Int) ≤ x4 → (0 ≤ x3 ∧ x3 < 256) ∧ Q (S, M, some (.inl (M 159 x3.toNat)))) ∧ (x4 < (256 : Int) → Ca 27 [.inr (.inr 158), .inl x4] S M (fun r => ∃ (M3 : Mem) (v4 : Int), r = (S, M3, some (.inl v4)) ∧ (0 ≤ x4 ∧ x4 < 256) ∧ (inR (x4 + 1)) ∧ En 26 56 [some (.inr (.inr 158)), some (.inr (.inr 9)), some (.inl x2), some (.inl x3), some (.inl (x4 + 1))] [] S (up2 M3 159 x4.toNat v4) Q)))))) : En 26 56 [some (.inr (.inr 158)), some (.inr (.inr 9)), some (.inl x2), some (.inl x3), some (.inl x4)] [] S M Q := by
  have hP : PR 26 = (bc_26, 5) := rfl
  refine e_ld hP rfl rfl ?_
  refine e_ld hP rfl rfl ?_
  refine e_cgt hP rfl (fun hc => ?_) (fun hc => ?_)
  · have h := h.1 hc
    refine e_ld hP rfl rfl ?_
    refine e_gR (a := 3) (w := 160) 157 (sh_157 hS) hP rfl (by decide) rfl ?_
    refine e_ld hP rfl rfl ?_
    obtain ⟨hs1, h⟩ := h
    refine e_al 159 (sh_159 hS) hP rfl hs1 ?_
    exact e_ret hP rfl rfl h
  · have h := h.2 hc
    refine e_ld hP rfl rfl ?_
    refine e_c hP rfl ?_
    refine e_cge hP rfl (fun hc => ?_) (fun hc => ?_)
    · have h := h.1 hc
      refine e_ld hP rfl rfl ?_
      refine e_gR (a := 3) (w := 160) 157 (sh_157 hS) hP rfl (by decide) rfl ?_
      refine e_ld hP rfl rfl ?_
      obtain ⟨hs2, h⟩ := h
      refine e_al 159 (sh_159 hS) hP rfl hs2 ?_
      exact e_ret hP rfl rfl h
    · have h := h.2 hc
      refine e_ld hP rfl rfl ?_
      refine e_gR (a := 3) (w := 160) 157 (sh_157 hS) hP rfl (by decide) rfl ?_
      refine e_ld hP rfl rfl ?_
      refine e_ld hP rfl rfl ?_
      refine e_ld hP rfl rfl ?_
      refine e_call hP rfl rfl rfl (Nat.le_of_ble_eq_true rfl) (Nat.le_of_ble_eq_true rfl) (rcv0 (sh_157 hS) (by decide)) ?_
      refine Ca.mono h (fun r hr => ?_)
      obtain ⟨M3, v4, rfl, h⟩ := hr
      show En 26 68 [some (.inr (.inr 158)), some (.inr (.inr 9)), some (.inl x2), some (.inl x3), some (.inl x4)] [.inl v4, .inl x4, .inr (.inr 160)] S M3 Q
      obtain ⟨hs5, h⟩ := h
      refine e_as 159 (sh_159 hS) (by decide) hP rfl hs5 ?_
      obtain ⟨hs6, h⟩ := h
      refine e_inc (L' := [some (.inr (.inr 158)), some (.inr (.inr 9)), some (.inl x2), some (.inl x3), some (.inl (x4 + 1))]) hP rfl rfl hs6 rfl ?_
      refine e_go hP rfl ?_
      exact h
theorem r_X3_bestWithin_0 {S : Shp} {M : Mem} {Q : Res → Prop} (hS : KC S) {p1 : Int} (h : Ca 28 [.inl p1] S M (fun r => ∃ (M1 : Mem) (v2 : Int), r = (S, M1, some (.inl v2)) ∧ (inR (p1 - (1 : Int))) ∧ (∃ z4 : Int, bi_and p1 (p1 - (1 : Int)) = some z4 ∧ (0 ≤ z4 ∧ z4 < 256) ∧ (inR (v2 + (1 : Int))) ∧ En 27 18 [some (.inr (.inr 158)), some (.inl p1), some (.inl v2), some (.inl z4), some (.inl (M1 159 z4.toNat)), some (.inl (v2 + (1 : Int)))] [] S M1 Q))) : Ca 27 [.inr (.inr 158), .inl p1] S M Q := by
  have hP : PR 27 = (bc_27, 6) := rfl
  refine ⟨Nat.le_of_ble_eq_true rfl, ?_⟩
  show En 27 0 [some (.inr (.inr 158)), some (.inl p1), none, none, none, none] [] S M Q
  refine e_ld hP rfl rfl ?_
  refine e_call hP rfl rfl rfl (Nat.le_of_ble_eq_true rfl) (Nat.le_of_ble_eq_true rfl) rcv1 ?_
  refine Ca.mono h (fun r hr => ?_)
  obtain ⟨M1, v2, rfl, h⟩ := hr
  show En 27 2 [some (.inr (.inr 158)), some (.inl p1), none, none, none, none] [.inl v2] S M1 Q
  refine e_st (L' := [some (.inr (.inr 158)), some (.inl p1), some (.inl v2), none, none, none]) hP rfl rfl ?_
  refine e_ld hP rfl rfl ?_
  refine e_ld hP rfl rfl ?_
  refine e_c hP rfl ?_
  obtain ⟨hs3, h⟩ := h
  refine e_sub hP rfl hs3 ?_
  obtain ⟨z4, hs5, h⟩ := h
  refine e_and hP rfl hs5 ?_
  refine e_st (L' := [some (.inr (.inr 158)), some (.inl p1), some (.inl v2), some (.inl z4), none, none]) hP rfl rfl ?_
  refine e_ld hP rfl rfl ?_
  refine e_gR (a := 3) (w := 160) 157 (sh_157 hS) hP rfl (by decide) rfl ?_
  refine e_ld hP rfl rfl ?_
  obtain ⟨hs6, h⟩ := h
  refine e_al 159 (sh_159 hS) hP rfl hs6 ?_
  refine e_st (L' := [some (.inr (.inr 158)), some (.inl p1), some (.inl v2), some (.inl z4), some (.inl (M1 159 z4.toNat)), none]) hP rfl rfl ?_
  refine e_ld hP rfl rfl ?_
  refine e_c hP rfl ?_
  obtain ⟨hs7, h⟩ := h
  refine e_add hP rfl hs7 ?_
  refine e_st (L' := [some (.inr (.inr 158)), some (.inl p1), some (.inl v2), some (.inl z4), some (.inl (M1 159 z4.toNat)), some (.inl (v2 + (1 : Int)))]) hP rfl rfl ?_
  exact h
theorem r_X3_bestWithin_18 {S : Shp} {M : Mem} {Q : Res → Prop} (hS : KC S) {x1 x2 x3 x4 x5 : Int} (h : (((8 : Int) ≤ x5 → Q (S, M, some (.inl x4))) ∧ (x5 < (8 : Int) → (0 ≤ x2 ∧ x2 < 8) ∧ (∃ z2 : Int, bi_and x3 (M 158 x2.toNat) = some z2 ∧ Ca 135 [.inl z2, .inl x5] S M (fun r => ∃ (M4 : Mem) (v5 : Int), r = (S, M4, some (.inl v5)) ∧ ((v5 = 0 → (inR (x5 + 1)) ∧ En 27 18 [some (.inr (.inr 158)), some (.inl x1), some (.inl x2), some (.inl x3), some (.inl x4), some (.inl (x5 + 1))] [] S M4 Q) ∧ (v5 ≠ 0 → (0 ≤ (1 : Int) ∧ 0 ≤ x5 ∧ x5 < 32 ∧ inR ((1 : Int) * 2 ^ x5.toNat)) ∧ (∃ z8 : Int, bi_bin 10 x3 ((1 : Int) * 2 ^ x5.toNat) = some z8 ∧ (0 ≤ z8 ∧ z8 < 256) ∧ (inR ((1 : Int) + (M4 159 z8.toNat))) ∧ (inR (x5 + 1)) ∧ En 27 18 [some (.inr (.inr 158)), some (.inl x1), some (.inl x2), some (.inl x3), some (.inl (if x4 < ((1 : Int) + (M4 159 z8.toNat)) then ((1 : Int) + (M4 159 z8.toNat)) else x4)), some (.inl (x5 + 1))] [] S M4 Q)))))))) : En 27 18 [some (.inr (.inr 158)), some (.inl x1), some (.inl x2), some (.inl x3), some (.inl x4), some (.inl x5)] [] S M Q := by
  have hP : PR 27 = (bc_27, 6) := rfl
  refine e_ld hP rfl rfl ?_
  refine e_c hP rfl ?_
  refine e_cge hP rfl (fun hc => ?_) (fun hc => ?_)
  · have h := h.1 hc
    refine e_ld hP rfl rfl ?_
    exact e_ret hP rfl rfl h
  · have h := h.2 hc
    refine e_ld hP rfl rfl ?_
    refine e_ld hP rfl rfl ?_
    refine e_gR (a := 3) (w := 159) 157 (sh_157 hS) hP rfl (by decide) rfl ?_
    refine e_ld hP rfl rfl ?_
    obtain ⟨hs1, h⟩ := h
    refine e_al 158 (sh_158 hS) hP rfl hs1 ?_
    obtain ⟨z2, hs3, h⟩ := h
    refine e_and hP rfl hs3 ?_
    refine e_ld hP rfl rfl ?_
    refine e_call hP rfl rfl rfl (Nat.le_of_ble_eq_true rfl) (Nat.le_of_ble_eq_true rfl) rcv1 ?_
    refine Ca.mono h (fun r hr => ?_)
    obtain ⟨M4, v5, rfl, h⟩ := hr
    show En 27 29 [some (.inr (.inr 158)), some (.inl x1), some (.inl x2), some (.inl x3), some (.inl x4), some (.inl x5)] [.inl v5] S M4 Q
    refine e_zeq hP rfl (fun hc => ?_) (fun hc => ?_)
    · have h := h.1 hc
      obtain ⟨hs6, h⟩ := h
      refine e_inc (L' := [some (.inr (.inr 158)), some (.inl x1), some (.inl x2), some (.inl x3), some (.inl x4), some (.inl (x5 + 1))]) hP rfl rfl hs6 rfl ?_
      refine e_go hP rfl ?_
      exact h
    · have h := h.2 hc
      refine e_ld hP rfl rfl ?_
      refine e_c hP rfl ?_
      refine e_ld hP rfl rfl ?_
      refine e_gR (a := 3) (w := 160) 157 (sh_157 hS) hP rfl (by decide) rfl ?_
      refine e_ld hP rfl rfl ?_
      refine e_c hP rfl ?_
      refine e_ld hP rfl rfl ?_
      obtain ⟨hs7, h⟩ := h
      refine e_shl hP rfl hs7 ?_
      obtain ⟨z8, hs9, h⟩ := h
      refine e_xor hP rfl hs9 ?_
      obtain ⟨hs10, h⟩ := h
      refine e_al 159 (sh_159 hS) hP rfl hs10 ?_
      obtain ⟨hs11, h⟩ := h
      refine e_add hP rfl hs11 ?_
      refine e_max hP rfl (Nat.le_of_ble_eq_true rfl) ?_
      refine e_st (L' := [some (.inr (.inr 158)), some (.inl x1), some (.inl x2), some (.inl x3), some (.inl (if x4 < ((1 : Int) + (M4 159 z8.toNat)) then ((1 : Int) + (M4 159 z8.toNat)) else x4)), some (.inl x5)]) hP rfl rfl ?_
      obtain ⟨hs12, h⟩ := h
      refine e_inc (L' := [some (.inr (.inr 158)), some (.inl x1), some (.inl x2), some (.inl x3), some (.inl (if x4 < ((1 : Int) + (M4 159 z8.toNat)) then ((1 : Int) + (M4 159 z8.toNat)) else x4)), some (.inl (x5 + 1))]) hP rfl rfl hs12 rfl ?_
      refine e_go hP rfl ?_
      exact h
theorem r_X3_lowest_0 {S : Shp} {M : Mem} {Q : Res → Prop} (hS : KC S) {p1 : Int} (h : En 28 2 [some (.inl p1), some (.inl (0 : Int))] [] S M Q) : Ca 28 [.inl p1] S M Q := by
  have hP : PR 28 = (bc_28, 2) := rfl
  refine ⟨Nat.le_of_ble_eq_true rfl, ?_⟩
  show En 28 0 [some (.inl p1), none] [] S M Q
  refine e_c hP rfl ?_
  refine e_st (L' := [some (.inl p1), some (.inl (0 : Int))]) hP rfl rfl ?_
  exact h
theorem r_X3_lowest_2 {S : Shp} {M : Mem} {Q : Res → Prop} (hS : KC S) {x0 x1 : Int} (h : (((7 : Int) ≤ x1 → Q (S, M, some (.inl x1))) ∧ (x1 < (7 : Int) → Ca 135 [.inl x0, .inl x1] S M (fun r => ∃ (M1 : Mem) (v2 : Int), r = (S, M1, some (.inl v2)) ∧ ((v2 ≠ 0 → Q (S, M1, some (.inl x1))) ∧ (v2 = 0 → (inR (x1 + 1)) ∧ En 28 2 [some (.inl x0), some (.inl (x1 + 1))] [] S M1 Q)))))) : En 28 2 [some (.inl x0), some (.inl x1)] [] S M Q := by
  have hP : PR 28 = (bc_28, 2) := rfl
  refine e_ld hP rfl rfl ?_
  refine e_c hP rfl ?_
  refine e_cge hP rfl (fun hc => ?_) (fun hc => ?_)
  · have h := h.1 hc
    refine e_ld hP rfl rfl ?_
    exact e_ret hP rfl rfl h
  · have h := h.2 hc
    refine e_ld hP rfl rfl ?_
    refine e_ld hP rfl rfl ?_
    refine e_call hP rfl rfl rfl (Nat.le_of_ble_eq_true rfl) (Nat.le_of_ble_eq_true rfl) rcv1 ?_
    refine Ca.mono h (fun r hr => ?_)
    obtain ⟨M1, v2, rfl, h⟩ := hr
    show En 28 8 [some (.inl x0), some (.inl x1)] [.inl v2] S M1 Q
    refine e_zne hP rfl (fun hc => ?_) (fun hc => ?_)
    · have h := h.1 hc
      refine e_ld hP rfl rfl ?_
      exact e_ret hP rfl rfl h
    · have h := h.2 hc
      obtain ⟨hs3, h⟩ := h
      refine e_inc (L' := [some (.inl x0), some (.inl (x1 + 1))]) hP rfl rfl hs3 rfl ?_
      refine e_go hP rfl ?_
      exact h
theorem r_X3_partnerOf_0 {S : Shp} {M : Mem} {Q : Res → Prop} (hS : KC S) {p1 p2 : Int} (h : (0 ≤ (1 : Int) ∧ 0 ≤ p2 ∧ p2 < 32 ∧ inR ((1 : Int) * 2 ^ p2.toNat)) ∧ (inR (((1 : Int) * 2 ^ p2.toNat) - (1 : Int))) ∧ En 29 8 [some (.inr (.inr 158)), some (.inl p1), some (.inl p2), some (.inl (((1 : Int) * 2 ^ p2.toNat) - (1 : Int))), some (.inl (0 : Int)), none, none] [] S M Q) : Ca 29 [.inr (.inr 158), .inl p1, .inl p2] S M Q := by
  have hP : PR 29 = (bc_29, 7) := rfl
  refine ⟨Nat.le_of_ble_eq_true rfl, ?_⟩
  show En 29 0 [some (.inr (.inr 158)), some (.inl p1), some (.inl p2), none, none, none, none] [] S M Q
  refine e_c hP rfl ?_
  refine e_ld hP rfl rfl ?_
  obtain ⟨hs1, h⟩ := h
  refine e_shl hP rfl hs1 ?_
  refine e_c hP rfl ?_
  obtain ⟨hs2, h⟩ := h
  refine e_sub hP rfl hs2 ?_
  refine e_st (L' := [some (.inr (.inr 158)), some (.inl p1), some (.inl p2), some (.inl (((1 : Int) * 2 ^ p2.toNat) - (1 : Int))), none, none, none]) hP rfl rfl ?_
  refine e_c hP rfl ?_
  refine e_st (L' := [some (.inr (.inr 158)), some (.inl p1), some (.inl p2), some (.inl (((1 : Int) * 2 ^ p2.toNat) - (1 : Int))), some (.inl (0 : Int)), none, none]) hP rfl rfl ?_
  exact h
theorem r_X3_partnerOf_8 {S : Shp} {M : Mem} {Q : Res → Prop} (hS : KC S) {x1 x2 x3 x4 : Int} (h : (((8 : Int) ≤ x4 → Q (S, M, some (.inl (-4 : Int)))) ∧ (x4 < (8 : Int) → ((x3 = 0 → Q (S, M, some (.inl (-4 : Int)))) ∧ (x3 ≠ 0 → Ca 28 [.inl x3] S M (fun r => ∃ (M1 : Mem) (v2 : Int), r = (S, M1, some (.inl v2)) ∧ Ca 30 [.inr (.inr 158), .inl v2, .inl x3] S M1 (fun r => ∃ (M3 : Mem) (v4 : Int), r = (S, M3, some (.inl v4)) ∧ ((v2 ≠ x1 → ((v4 ≠ x1 → (inR (x3 - (1 : Int))) ∧ (∃ z6 : Int, bi_and x3 (x3 - (1 : Int)) = some z6 ∧ ((v4 = (-4 : Int) → (inR (x4 + 1)) ∧ En 29 8 [some (.inr (.inr 158)), some (.inl x1), some (.inl x2), some (.inl z6), some (.inl (x4 + 1)), none, none] [] S M3 Q) ∧ (v4 ≠ (-4 : Int) → (0 ≤ (1 : Int) ∧ 0 ≤ v4 ∧ v4 < 32 ∧ inR ((1 : Int) * 2 ^ v4.toNat)) ∧ (∃ z10 : Int, bi_bin 10 z6 ((1 : Int) * 2 ^ v4.toNat) = some z10 ∧ (inR (x4 + 1)) ∧ En 29 8 [some (.inr (.inr 158)), some (.inl x1), some (.inl x2), some (.inl z10), some (.inl (x4 + 1)), none, none] [] S M3 Q))))) ∧ (v4 = x1 → Q (S, M3, some (.inl v2))))) ∧ (v2 = x1 → Q (S, M3, some (.inl v4))))))))))) : En 29 8 [some (.inr (.inr 158)), some (.inl x1), some (.inl x2), some (.inl x3), some (.inl x4), none, none] [] S M Q := by
  have hP : PR 29 = (bc_29, 7) := rfl
  refine e_ld hP rfl rfl ?_
  refine e_c hP rfl ?_
  refine e_cge hP rfl (fun hc => ?_) (fun hc => ?_)
  · have h := h.1 hc
    refine e_c hP rfl ?_
    exact e_ret hP rfl rfl h
  · have h := h.2 hc
    refine e_ld hP rfl rfl ?_
    refine e_zeq hP rfl (fun hc => ?_) (fun hc => ?_)
    · have h := h.1 hc
      refine e_c hP rfl ?_
      exact e_ret hP rfl rfl h
    · have h := h.2 hc
      refine e_ld hP rfl rfl ?_
      refine e_call hP rfl rfl rfl (Nat.le_of_ble_eq_true rfl) (Nat.le_of_ble_eq_true rfl) rcv1 ?_
      refine Ca.mono h (fun r hr => ?_)
      obtain ⟨M1, v2, rfl, h⟩ := hr
      show En 29 15 [some (.inr (.inr 158)), some (.inl x1), some (.inl x2), some (.inl x3), some (.inl x4), none, none] [.inl v2] S M1 Q
      refine e_st (L' := [some (.inr (.inr 158)), some (.inl x1), some (.inl x2), some (.inl x3), some (.inl x4), some (.inl v2), none]) hP rfl rfl ?_
      refine e_ld hP rfl rfl ?_
      refine e_ld hP rfl rfl ?_
      refine e_ld hP rfl rfl ?_
      refine e_call hP rfl rfl rfl (Nat.le_of_ble_eq_true rfl) (Nat.le_of_ble_eq_true rfl) (rcv0 (sh_157 hS) (by decide)) ?_
      refine Ca.mono h (fun r hr => ?_)
      obtain ⟨M3, v4, rfl, h⟩ := hr
      show En 29 20 [some (.inr (.inr 158)), some (.inl x1), some (.inl x2), some (.inl x3), some (.inl x4), some (.inl v2), none] [.inl v4] S M3 Q
      refine e_st (L' := [some (.inr (.inr 158)), some (.inl x1), some (.inl x2), some (.inl x3), some (.inl x4), some (.inl v2), some (.inl v4)]) hP rfl rfl ?_
      refine e_ld hP rfl rfl ?_
      refine e_ld hP rfl rfl ?_
      refine e_cne hP rfl (fun hc => ?_) (fun hc => ?_)
      · have h := h.1 hc
        refine e_ld hP rfl rfl ?_
        refine e_ld hP rfl rfl ?_
        refine e_cne hP rfl (fun hc => ?_) (fun hc => ?_)
        · have h := h.1 hc
          refine e_ld hP rfl rfl ?_
          refine e_ld hP rfl rfl ?_
          refine e_c hP rfl ?_
          obtain ⟨hs5, h⟩ := h
          refine e_sub hP rfl hs5 ?_
          obtain ⟨z6, hs7, h⟩ := h
          refine e_and hP rfl hs7 ?_
          refine e_st (L' := [some (.inr (.inr 158)), some (.inl x1), some (.inl x2), some (.inl z6), some (.inl x4), some (.inl v2), some (.inl v4)]) hP rfl rfl ?_
          refine e_ld hP rfl rfl ?_
          refine e_c hP rfl ?_
          refine e_ceq hP rfl (fun hc => ?_) (fun hc => ?_)
          · have h := h.1 hc
            obtain ⟨hs8, h⟩ := h
            refine e_inc (L' := [some (.inr (.inr 158)), some (.inl x1), some (.inl x2), some (.inl z6), some (.inl (x4 + 1)), some (.inl v2), some (.inl v4)]) hP rfl rfl hs8 rfl ?_
            refine e_go hP rfl ?_
            exact en_fg h ⟨Or.inr rfl, Or.inr rfl, Or.inr rfl, Or.inr rfl, Or.inr rfl, Or.inl rfl, Or.inl rfl, trivial⟩
          · have h := h.2 hc
            refine e_ld hP rfl rfl ?_
            refine e_c hP rfl ?_
            refine e_ld hP rfl rfl ?_
            obtain ⟨hs9, h⟩ := h
            refine e_shl hP rfl hs9 ?_
            obtain ⟨z10, hs11, h⟩ := h
            refine e_xor hP rfl hs11 ?_
            refine e_st (L' := [some (.inr (.inr 158)), some (.inl x1), some (.inl x2), some (.inl z10), some (.inl x4), some (.inl v2), some (.inl v4)]) hP rfl rfl ?_
            obtain ⟨hs12, h⟩ := h
            refine e_inc (L' := [some (.inr (.inr 158)), some (.inl x1), some (.inl x2), some (.inl z10), some (.inl (x4 + 1)), some (.inl v2), some (.inl v4)]) hP rfl rfl hs12 rfl ?_
            refine e_go hP rfl ?_
            exact en_fg h ⟨Or.inr rfl, Or.inr rfl, Or.inr rfl, Or.inr rfl, Or.inr rfl, Or.inl rfl, Or.inl rfl, trivial⟩
        · have h := h.2 hc
          refine e_ld hP rfl rfl ?_
          exact e_ret hP rfl rfl h
      · have h := h.2 hc
        refine e_ld hP rfl rfl ?_
        exact e_ret hP rfl rfl h
theorem r_X3_choiceOf_0 {S : Shp} {M : Mem} {Q : Res → Prop} (hS : KC S) {p1 p2 : Int} (h : (inR (p2 - (1 : Int))) ∧ (∃ z2 : Int, bi_and p2 (p2 - (1 : Int)) = some z2 ∧ (inR (p1 + (1 : Int))) ∧ En 30 10 [some (.inr (.inr 158)), some (.inl p1), some (.inl p2), some (.inl z2), some (.inl (p1 + (1 : Int)))] [] S M Q)) : Ca 30 [.inr (.inr 158), .inl p1, .inl p2] S M Q := by
  have hP : PR 30 = (bc_30, 5) := rfl
  refine ⟨Nat.le_of_ble_eq_true rfl, ?_⟩
  show En 30 0 [some (.inr (.inr 158)), some (.inl p1), some (.inl p2), none, none] [] S M Q
  refine e_ld hP rfl rfl ?_
  refine e_ld hP rfl rfl ?_
  refine e_c hP rfl ?_
  obtain ⟨hs1, h⟩ := h
  refine e_sub hP rfl hs1 ?_
  obtain ⟨z2, hs3, h⟩ := h
  refine e_and hP rfl hs3 ?_
  refine e_st (L' := [some (.inr (.inr 158)), some (.inl p1), some (.inl p2), some (.inl z2), none]) hP rfl rfl ?_
  refine e_ld hP rfl rfl ?_
  refine e_c hP rfl ?_
  obtain ⟨hs4, h⟩ := h
  refine e_add hP rfl hs4 ?_
  refine e_st (L' := [some (.inr (.inr 158)), some (.inl p1), some (.inl p2), some (.inl z2), some (.inl (p1 + (1 : Int)))]) hP rfl rfl ?_
  exact h
theorem r_X3_choiceOf_10 {S : Shp} {M : Mem} {Q : Res → Prop} (hS : KC S) {x1 x2 x3 x4 : Int} (h : (((8 : Int) ≤ x4 → Q (S, M, some (.inl (-4 : Int)))) ∧ (x4 < (8 : Int) → (0 ≤ x1 ∧ x1 < 8) ∧ (∃ z2 : Int, bi_and x3 (M 158 x1.toNat) = some z2 ∧ Ca 135 [.inl z2, .inl x4] S M (fun r => ∃ (M4 : Mem) (v5 : Int), r = (S, M4, some (.inl v5)) ∧ ((v5 = 0 → (inR (x4 + 1)) ∧ En 30 10 [some (.inr (.inr 158)), some (.inl x1), some (.inl x2), some (.inl x3), some (.inl (x4 + 1))] [] S M4 Q) ∧ (v5 ≠ 0 → (0 ≤ (1 : Int) ∧ 0 ≤ x4 ∧ x4 < 32 ∧ inR ((1 : Int) * 2 ^ x4.toNat)) ∧ (∃ z8 : Int, bi_bin 10 x3 ((1 : Int) * 2 ^ x4.toNat) = some z8 ∧ (0 ≤ z8 ∧ z8 < 256) ∧ (inR ((1 : Int) + (M4 159 z8.toNat))) ∧ (0 ≤ x2 ∧ x2 < 256) ∧ ((((1 : Int) + (M4 159 z8.toNat)) ≠ (M4 159 x2.toNat) → (inR (x4 + 1)) ∧ En 30 10 [some (.inr (.inr 158)), some (.inl x1), some (.inl x2), some (.inl x3), some (.inl (x4 + 1))] [] S M4 Q) ∧ (((1 : Int) + (M4 159 z8.toNat)) = (M4 159 x2.toNat) → Q (S, M4, some (.inl x4)))))))))))) : En 30 10 [some (.inr (.inr 158)), some (.inl x1), some (.inl x2), some (.inl x3), some (.inl x4)] [] S M Q := by
  have hP : PR 30 = (bc_30, 5) := rfl
  refine e_ld hP rfl rfl ?_
  refine e_c hP rfl ?_
  refine e_cge hP rfl (fun hc => ?_) (fun hc => ?_)
  · have h := h.1 hc
    refine e_c hP rfl ?_
    exact e_ret hP rfl rfl h
  · have h := h.2 hc
    refine e_ld hP rfl rfl ?_
    refine e_ld hP rfl rfl ?_
    refine e_gR (a := 3) (w := 159) 157 (sh_157 hS) hP rfl (by decide) rfl ?_
    refine e_ld hP rfl rfl ?_
    obtain ⟨hs1, h⟩ := h
    refine e_al 158 (sh_158 hS) hP rfl hs1 ?_
    obtain ⟨z2, hs3, h⟩ := h
    refine e_and hP rfl hs3 ?_
    refine e_ld hP rfl rfl ?_
    refine e_call hP rfl rfl rfl (Nat.le_of_ble_eq_true rfl) (Nat.le_of_ble_eq_true rfl) rcv1 ?_
    refine Ca.mono h (fun r hr => ?_)
    obtain ⟨M4, v5, rfl, h⟩ := hr
    show En 30 21 [some (.inr (.inr 158)), some (.inl x1), some (.inl x2), some (.inl x3), some (.inl x4)] [.inl v5] S M4 Q
    refine e_zeq hP rfl (fun hc => ?_) (fun hc => ?_)
    · have h := h.1 hc
      obtain ⟨hs6, h⟩ := h
      refine e_inc (L' := [some (.inr (.inr 158)), some (.inl x1), some (.inl x2), some (.inl x3), some (.inl (x4 + 1))]) hP rfl rfl hs6 rfl ?_
      refine e_go hP rfl ?_
      exact h
    · have h := h.2 hc
      refine e_c hP rfl ?_
      refine e_ld hP rfl rfl ?_
      refine e_gR (a := 3) (w := 160) 157 (sh_157 hS) hP rfl (by decide) rfl ?_
      refine e_ld hP rfl rfl ?_
      refine e_c hP rfl ?_
      refine e_ld hP rfl rfl ?_
      obtain ⟨hs7, h⟩ := h
      refine e_shl hP rfl hs7 ?_
      obtain ⟨z8, hs9, h⟩ := h
      refine e_xor hP rfl hs9 ?_
      obtain ⟨hs10, h⟩ := h
      refine e_al 159 (sh_159 hS) hP rfl hs10 ?_
      obtain ⟨hs11, h⟩ := h
      refine e_add hP rfl hs11 ?_
      refine e_ld hP rfl rfl ?_
      refine e_gR (a := 3) (w := 160) 157 (sh_157 hS) hP rfl (by decide) rfl ?_
      refine e_ld hP rfl rfl ?_
      obtain ⟨hs12, h⟩ := h
      refine e_al 159 (sh_159 hS) hP rfl hs12 ?_
      refine e_cne hP rfl (fun hc => ?_) (fun hc => ?_)
      · have h := h.1 hc
        obtain ⟨hs13, h⟩ := h
        refine e_inc (L' := [some (.inr (.inr 158)), some (.inl x1), some (.inl x2), some (.inl x3), some (.inl (x4 + 1))]) hP rfl rfl hs13 rfl ?_
        refine e_go hP rfl ?_
        exact h
      · have h := h.2 hc
        refine e_ld hP rfl rfl ?_
        exact e_ret hP rfl rfl h
