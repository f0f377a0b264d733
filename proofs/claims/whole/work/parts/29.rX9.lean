/-! REGIONS of X9: by wip/gen/reggen.py -/
theorem r_X9_in_0 {S : Shp} {M : Mem} {Q : Res → Prop} (hM : KM S) {p1 p2 p3 : Int} (h : (((if p1 < p2 then -1 else if p1 = p2 then 0 else 1) < 0 → Q (S, M, some (.inl (0 : Int)))) ∧ (0 ≤ (if p1 < p2 then -1 else if p1 = p2 then 0 else 1) → ((0 < (if p1 < p3 then -1 else if p1 = p3 then 0 else 1) → Q (S, M, some (.inl (0 : Int)))) ∧ ((if p1 < p3 then -1 else if p1 = p3 then 0 else 1) ≤ 0 → Q (S, M, some (.inl (1 : Int)))))))) : Ca 140 [.inr (.inl p1), .inr (.inl p2), .inr (.inl p3)] S M Q := by
  have hP : PR 140 = (bc_140, 6) := rfl
  refine ⟨Nat.le_of_ble_eq_true rfl, ?_⟩
  show En 140 0 [some (.inr (.inl p1)), none, some (.inr (.inl p2)), none, some (.inr (.inl p3)), none] [] S M Q
  refine e_ld hP rfl rfl ?_
  refine e_ld hP rfl rfl ?_
  refine e_lcmp hP rfl ?_
  refine e_zlt hP rfl (fun hc => ?_) (fun hc => ?_)
  · have h := h.1 hc
    refine e_c hP rfl ?_
    exact e_ret hP rfl rfl h
  · have h := h.2 hc
    refine e_ld hP rfl rfl ?_
    refine e_ld hP rfl rfl ?_
    refine e_lcmp hP rfl ?_
    refine e_zgt hP rfl (fun hc => ?_) (fun hc => ?_)
    · have h := h.1 hc
      refine e_c hP rfl ?_
      exact e_ret hP rfl rfl h
    · have h := h.2 hc
      refine e_c hP rfl ?_
      refine e_go hP rfl ?_
      exact e_ret hP rfl rfl h
theorem r_X9_spelled_0 {S : Shp} {M : Mem} {Q : Res → Prop} (hM : KM S) {p1 p2 p3 p4 p5 p6 : Int} (h : (0 ≤ (0 : Int) ∧ (0 : Int) < 6) ∧ (0 ≤ (1 : Int) ∧ (1 : Int) < 6) ∧ (0 ≤ (2 : Int) ∧ (2 : Int) < 6) ∧ (0 ≤ (3 : Int) ∧ (3 : Int) < 6) ∧ (0 ≤ (4 : Int) ∧ (4 : Int) < 6) ∧ Q (S, up2 (up2 (up2 (up2 (up2 (up2 M 172 23 p1) 188 (0 : Int).toNat p2) 188 (1 : Int).toNat p3) 188 (2 : Int).toNat p4) 188 (3 : Int).toNat p5) 188 (4 : Int).toNat p6, none)) : Ca 141 [.inr (.inr 173), .inl p1, .inl p2, .inl p3, .inl p4, .inl p5, .inl p6] S M Q := by
  have hP : PR 141 = (bc_141, 7) := rfl
  refine ⟨Nat.le_of_ble_eq_true rfl, ?_⟩
  show En 141 0 [some (.inr (.inr 173)), some (.inl p1), some (.inl p2), some (.inl p3), some (.inl p4), some (.inl p5), some (.inl p6)] [] S M Q
  refine e_ld hP rfl rfl ?_
  refine e_ld hP rfl rfl ?_
  refine e_pI (a := 9) 172 (sh_172 hM) (by decide) hP rfl (by decide) ?_
  refine e_ld hP rfl rfl ?_
  refine e_gR (a := 9) (w := 189) 172 (sh_172 hM) hP rfl (by decide) rfl ?_
  refine e_c hP rfl ?_
  refine e_ld hP rfl rfl ?_
  obtain ⟨hs1, h⟩ := h
  refine e_as 188 (sh_188 hM) (by decide) hP rfl hs1 ?_
  refine e_ld hP rfl rfl ?_
  refine e_gR (a := 9) (w := 189) 172 (sh_172 hM) hP rfl (by decide) rfl ?_
  refine e_c hP rfl ?_
  refine e_ld hP rfl rfl ?_
  obtain ⟨hs2, h⟩ := h
  refine e_as 188 (sh_188 hM) (by decide) hP rfl hs2 ?_
  refine e_ld hP rfl rfl ?_
  refine e_gR (a := 9) (w := 189) 172 (sh_172 hM) hP rfl (by decide) rfl ?_
  refine e_c hP rfl ?_
  refine e_ld hP rfl rfl ?_
  obtain ⟨hs3, h⟩ := h
  refine e_as 188 (sh_188 hM) (by decide) hP rfl hs3 ?_
  refine e_ld hP rfl rfl ?_
  refine e_gR (a := 9) (w := 189) 172 (sh_172 hM) hP rfl (by decide) rfl ?_
  refine e_c hP rfl ?_
  refine e_ld hP rfl rfl ?_
  obtain ⟨hs4, h⟩ := h
  refine e_as 188 (sh_188 hM) (by decide) hP rfl hs4 ?_
  refine e_ld hP rfl rfl ?_
  refine e_gR (a := 9) (w := 189) 172 (sh_172 hM) hP rfl (by decide) rfl ?_
  refine e_c hP rfl ?_
  refine e_ld hP rfl rfl ?_
  obtain ⟨hs5, h⟩ := h
  refine e_as 188 (sh_188 hM) (by decide) hP rfl hs5 ?_
  exact e_retv hP rfl h
theorem r_X9_puts_0 {S : Shp} {M : Mem} {Q : Res → Prop} (hM : KM S) {p1 p2 : Int} (h : (0 ≤ (0 : Int) ∧ (0 : Int) < 2) ∧ (0 ≤ (1 : Int) ∧ (1 : Int) < 2) ∧ Ca 150 [.inr (.inr 173)] S (up2 (up2 M 187 (0 : Int).toNat p1) 187 (1 : Int).toNat p2) (fun r => ∃ (M3 : Mem) (v4 : Int), r = (S, M3, some (.inl v4)) ∧ (0 ≤ (11 : Int) ∧ (11 : Int) < 12) ∧ ((v4 = 0 → (inR ((M3 174 (11 : Int).toNat) + (1 : Int))) ∧ (0 ≤ (11 : Int) ∧ (11 : Int) < 12) ∧ Q (S, up2 M3 174 (11 : Int).toNat ((M3 174 (11 : Int).toNat) + (1 : Int)), none)) ∧ (v4 ≠ 0 → (inR ((M3 174 (11 : Int).toNat) + (0 : Int))) ∧ (0 ≤ (11 : Int) ∧ (11 : Int) < 12) ∧ Q (S, up2 M3 174 (11 : Int).toNat ((M3 174 (11 : Int).toNat) + (0 : Int)), none))))) : Ca 142 [.inr (.inr 173), .inl p1, .inl p2] S M Q := by
  have hP : PR 142 = (bc_142, 4) := rfl
  refine ⟨Nat.le_of_ble_eq_true rfl, ?_⟩
  show En 142 0 [some (.inr (.inr 173)), some (.inl p1), some (.inl p2), none] [] S M Q
  refine e_ld hP rfl rfl ?_
  refine e_gR (a := 9) (w := 188) 172 (sh_172 hM) hP rfl (by decide) rfl ?_
  refine e_c hP rfl ?_
  refine e_ld hP rfl rfl ?_
  obtain ⟨hs1, h⟩ := h
  refine e_as 187 (sh_187 hM) (by decide) hP rfl hs1 ?_
  refine e_ld hP rfl rfl ?_
  refine e_gR (a := 9) (w := 188) 172 (sh_172 hM) hP rfl (by decide) rfl ?_
  refine e_c hP rfl ?_
  refine e_ld hP rfl rfl ?_
  obtain ⟨hs2, h⟩ := h
  refine e_as 187 (sh_187 hM) (by decide) hP rfl hs2 ?_
  refine e_ld hP rfl rfl ?_
  refine e_call hP rfl rfl rfl (Nat.le_of_ble_eq_true rfl) (Nat.le_of_ble_eq_true rfl) (rcv0 (sh_172 hM) (by decide)) ?_
  refine Ca.mono h (fun r hr => ?_)
  obtain ⟨M3, v4, rfl, h⟩ := hr
  show En 142 12 [some (.inr (.inr 173)), some (.inl p1), some (.inl p2), none] [.inl v4] S M3 Q
  refine e_st (L' := [some (.inr (.inr 173)), some (.inl p1), some (.inl p2), some (.inl v4)]) hP rfl rfl ?_
  refine e_ld hP rfl rfl ?_
  refine e_gR (a := 9) (w := 175) 172 (sh_172 hM) hP rfl (by decide) rfl ?_
  refine e_c hP rfl ?_
  refine e_dup2 hP rfl ?_
  obtain ⟨hs5, h⟩ := h
  refine e_al 174 (sh_174 hM) hP rfl hs5 ?_
  refine e_ld hP rfl rfl ?_
  refine e_zeq hP rfl (fun hc => ?_) (fun hc => ?_)
  · have h := h.1 hc
    refine e_c hP rfl ?_
    obtain ⟨hs6, h⟩ := h
    refine e_add hP rfl hs6 ?_
    obtain ⟨hs7, h⟩ := h
    refine e_as 174 (sh_174 hM) (by decide) hP rfl hs7 ?_
    exact e_retv hP rfl h
  · have h := h.2 hc
    refine e_c hP rfl ?_
    refine e_go hP rfl ?_
    obtain ⟨hs8, h⟩ := h
    refine e_add hP rfl hs8 ?_
    obtain ⟨hs9, h⟩ := h
    refine e_as 174 (sh_174 hM) (by decide) hP rfl hs9 ?_
    exact e_retv hP rfl h
theorem r_X9_write_0 {S : Shp} {M : Mem} {Q : Res → Prop} (hM : KM S) {p1 : Int} (h : Ca 140 [.inr (.inl p1), .inr (.inl (32 : Int)), .inr (.inl (126 : Int))] S M (fun r => ∃ (M1 : Mem) (v2 : Int), r = (S, M1, some (.inl v2)) ∧ ((v2 ≠ 0 → (((M1 172 0) ≠ (200 : Int) → (-128 ≤ p1 ∧ p1 ≤ 127) ∧ ((0 ≤ (M1 172 0) ∧ (M1 172 0) < 200) ∧ (-128 ≤ p1 ∧ p1 ≤ 127)) ∧ (inR (((up2 M1 173 (M1 172 0).toNat p1) 172 0) + (1 : Int))) ∧ Q (S, up2 (up2 M1 173 (M1 172 0).toNat p1) 172 0 (((up2 M1 173 (M1 172 0).toNat p1) 172 0) + (1 : Int)), some (.inl ((up2 (up2 M1 173 (M1 172 0).toNat p1) 172 0 (((up2 M1 173 (M1 172 0).toNat p1) 172 0) + (1 : Int))) 172 0)))) ∧ ((M1 172 0) = (200 : Int) → Q (S, M1, some (.inl (-3 : Int)))))) ∧ (v2 = 0 → Q (S, M1, some (.inl (-1 : Int))))))) : Ca 143 [.inr (.inr 173), .inl p1] S M Q := by
  have hP : PR 143 = (bc_143, 2) := rfl
  refine ⟨Nat.le_of_ble_eq_true rfl, ?_⟩
  show En 143 0 [some (.inr (.inr 173)), some (.inl p1)] [] S M Q
  refine e_ld hP rfl rfl ?_
  refine e_i2l hP rfl ?_
  refine e_lc hP rfl ?_
  refine e_lc hP rfl ?_
  refine e_call hP rfl rfl rfl (Nat.le_of_ble_eq_true rfl) (Nat.le_of_ble_eq_true rfl) rcv1 ?_
  refine Ca.mono h (fun r hr => ?_)
  obtain ⟨M1, v2, rfl, h⟩ := hr
  show En 143 5 [some (.inr (.inr 173)), some (.inl p1)] [.inl v2] S M1 Q
  refine e_zne hP rfl (fun hc => ?_) (fun hc => ?_)
  · have h := h.1 hc
    refine e_ld hP rfl rfl ?_
    refine e_gI (a := 9) 172 (sh_172 hM) hP rfl (by decide) ?_
    refine e_c hP rfl ?_
    refine e_cne hP rfl (fun hc => ?_) (fun hc => ?_)
    · have h := h.1 hc
      refine e_ld hP rfl rfl ?_
      refine e_gR (a := 9) (w := 174) 172 (sh_172 hM) hP rfl (by decide) rfl ?_
      refine e_ld hP rfl rfl ?_
      refine e_gI (a := 9) 172 (sh_172 hM) hP rfl (by decide) ?_
      refine e_ld hP rfl rfl ?_
      obtain ⟨hs3, h⟩ := h
      refine e_un (z := p1) hP rfl (if_pos hs3) ?_
      obtain ⟨hs4, h⟩ := h
      refine e_bs 173 (sh_173 hM) (by decide) hP rfl hs4.1 (by assumption) ?_
      refine e_ld hP rfl rfl ?_
      refine e_dupR hP rfl ?_
      refine e_gI (a := 9) 172 (sh_172 hM) hP rfl (by decide) ?_
      refine e_c hP rfl ?_
      obtain ⟨hs5, h⟩ := h
      refine e_add hP rfl hs5 ?_
      refine e_pI (a := 9) 172 (sh_172 hM) (by decide) hP rfl (by decide) ?_
      refine e_ld hP rfl rfl ?_
      refine e_gI (a := 9) 172 (sh_172 hM) hP rfl (by decide) ?_
      exact e_ret hP rfl rfl h
    · have h := h.2 hc
      refine e_c hP rfl ?_
      exact e_ret hP rfl rfl h
  · have h := h.2 hc
    refine e_c hP rfl ?_
    exact e_ret hP rfl rfl h
theorem r_X9_wipe_0 {S : Shp} {M : Mem} {Q : Res → Prop} (hM : KM S) (h : Q (S, up2 M 172 0 (0 : Int), some (.inl (M 172 0)))) : Ca 144 [.inr (.inr 173)] S M Q := by
  have hP : PR 144 = (bc_144, 2) := rfl
  refine ⟨Nat.le_of_ble_eq_true rfl, ?_⟩
  show En 144 0 [some (.inr (.inr 173)), none] [] S M Q
  refine e_ld hP rfl rfl ?_
  refine e_gI (a := 9) 172 (sh_172 hM) hP rfl (by decide) ?_
  refine e_st (L' := [some (.inr (.inr 173)), some (.inl (M 172 0))]) hP rfl rfl ?_
  refine e_ld hP rfl rfl ?_
  refine e_c hP rfl ?_
  refine e_pI (a := 9) 172 (sh_172 hM) (by decide) hP rfl (by decide) ?_
  refine e_ld hP rfl rfl ?_
  exact e_ret hP rfl rfl h
theorem r_X9_number_0 {S : Shp} {M : Mem} {Q : Res → Prop} (hM : KM S) (h : En 145 4 [some (.inr (.inr 173)), some (.inl (0 : Int)), some (.inl (0 : Int))] [] S M Q) : Ca 145 [.inr (.inr 173)] S M Q := by
  have hP : PR 145 = (bc_145, 3) := rfl
  refine ⟨Nat.le_of_ble_eq_true rfl, ?_⟩
  show En 145 0 [some (.inr (.inr 173)), none, none] [] S M Q
  refine e_c hP rfl ?_
  refine e_st (L' := [some (.inr (.inr 173)), some (.inl (0 : Int)), none]) hP rfl rfl ?_
  refine e_c hP rfl ?_
  refine e_st (L' := [some (.inr (.inr 173)), some (.inl (0 : Int)), some (.inl (0 : Int))]) hP rfl rfl ?_
  exact h
theorem r_X9_number_4 {S : Shp} {M : Mem} {Q : Res → Prop} (hM : KM S) {x1 x2 : Int} (h : (((M 172 0) ≤ (M 172 2) → Ca 140 [.inr (.inl x2), .inr (.inl (1 : Int)), .inr (.inl (2 : Int))] S M (fun r => ∃ (M1 : Mem) (v2 : Int), r = (S, M1, some (.inl v2)) ∧ ((v2 = 0 → Q (S, M1, some (.inl (-1 : Int)))) ∧ (v2 ≠ 0 → Q (S, M1, some (.inl x1)))))) ∧ ((M 172 2) < (M 172 0) → (0 ≤ (M 172 2) ∧ (M 172 2) < 200) ∧ Ca 140 [.inr (.inl (M 173 (M 172 2).toNat)), .inr (.inl (48 : Int)), .inr (.inl (57 : Int))] S M (fun r => ∃ (M4 : Mem) (v5 : Int), r = (S, M4, some (.inl v5)) ∧ ((v5 = 0 → Ca 140 [.inr (.inl x2), .inr (.inl (1 : Int)), .inr (.inl (2 : Int))] S M4 (fun r => ∃ (M6 : Mem) (v7 : Int), r = (S, M6, some (.inl v7)) ∧ ((v7 = 0 → Q (S, M6, some (.inl (-1 : Int)))) ∧ (v7 ≠ 0 → Q (S, M6, some (.inl x1)))))) ∧ (v5 ≠ 0 → (((2 : Int) ≤ x2 → (inR (x2 + 1)) ∧ (inR ((M4 172 2) + (1 : Int))) ∧ En 145 4 [some (.inr (.inr 173)), some (.inl x1), some (.inl (x2 + 1))] [] S (up2 M4 172 2 ((M4 172 2) + (1 : Int))) Q) ∧ (x2 < (2 : Int) → (inR ((10 : Int) * x1)) ∧ (0 ≤ (M4 172 2) ∧ (M4 172 2) < 200) ∧ (inR (((10 : Int) * x1) + (M4 173 (M4 172 2).toNat))) ∧ (inR ((((10 : Int) * x1) + (M4 173 (M4 172 2).toNat)) - (48 : Int))) ∧ (inR (x2 + 1)) ∧ (inR ((M4 172 2) + (1 : Int))) ∧ En 145 4 [some (.inr (.inr 173)), some (.inl ((((10 : Int) * x1) + (M4 173 (M4 172 2).toNat)) - (48 : Int))), some (.inl (x2 + 1))] [] S (up2 M4 172 2 ((M4 172 2) + (1 : Int))) Q)))))))) : En 145 4 [some (.inr (.inr 173)), some (.inl x1), some (.inl x2)] [] S M Q := by
  have hP : PR 145 = (bc_145, 3) := rfl
  refine e_ld hP rfl rfl ?_
  refine e_gI (a := 9) 172 (sh_172 hM) hP rfl (by decide) ?_
  refine e_ld hP rfl rfl ?_
  refine e_gI (a := 9) 172 (sh_172 hM) hP rfl (by decide) ?_
  refine e_cge hP rfl (fun hc => ?_) (fun hc => ?_)
  · have h := h.1 hc
    refine e_ld hP rfl rfl ?_
    refine e_i2l hP rfl ?_
    refine e_lc hP rfl ?_
    refine e_lc hP rfl ?_
    refine e_call hP rfl rfl rfl (Nat.le_of_ble_eq_true rfl) (Nat.le_of_ble_eq_true rfl) rcv1 ?_
    refine Ca.mono h (fun r hr => ?_)
    obtain ⟨M1, v2, rfl, h⟩ := hr
    show En 145 49 [some (.inr (.inr 173)), some (.inl x1), some (.inl x2)] [.inl v2] S M1 Q
    refine e_zeq hP rfl (fun hc => ?_) (fun hc => ?_)
    · have h := h.1 hc
      refine e_c hP rfl ?_
      exact e_ret hP rfl rfl h
    · have h := h.2 hc
      refine e_ld hP rfl rfl ?_
      refine e_go hP rfl ?_
      exact e_ret hP rfl rfl h
  · have h := h.2 hc
    refine e_ld hP rfl rfl ?_
    refine e_gR (a := 9) (w := 174) 172 (sh_172 hM) hP rfl (by decide) rfl ?_
    refine e_ld hP rfl rfl ?_
    refine e_gI (a := 9) 172 (sh_172 hM) hP rfl (by decide) ?_
    obtain ⟨hs3, h⟩ := h
    refine e_bl 173 (sh_173 hM) hP rfl hs3 ?_
    refine e_i2l hP rfl ?_
    refine e_lc hP rfl ?_
    refine e_lc hP rfl ?_
    refine e_call hP rfl rfl rfl (Nat.le_of_ble_eq_true rfl) (Nat.le_of_ble_eq_true rfl) rcv1 ?_
    refine Ca.mono h (fun r hr => ?_)
    obtain ⟨M4, v5, rfl, h⟩ := hr
    show En 145 18 [some (.inr (.inr 173)), some (.inl x1), some (.inl x2)] [.inl v5] S M4 Q
    refine e_zeq hP rfl (fun hc => ?_) (fun hc => ?_)
    · have h := h.1 hc
      refine e_ld hP rfl rfl ?_
      refine e_i2l hP rfl ?_
      refine e_lc hP rfl ?_
      refine e_lc hP rfl ?_
      refine e_call hP rfl rfl rfl (Nat.le_of_ble_eq_true rfl) (Nat.le_of_ble_eq_true rfl) rcv1 ?_
      refine Ca.mono h (fun r hr => ?_)
      obtain ⟨M6, v7, rfl, h⟩ := hr
      show En 145 49 [some (.inr (.inr 173)), some (.inl x1), some (.inl x2)] [.inl v7] S M6 Q
      refine e_zeq hP rfl (fun hc => ?_) (fun hc => ?_)
      · have h := h.1 hc
        refine e_c hP rfl ?_
        exact e_ret hP rfl rfl h
      · have h := h.2 hc
        refine e_ld hP rfl rfl ?_
        refine e_go hP rfl ?_
        exact e_ret hP rfl rfl h
    · have h := h.2 hc
      refine e_ld hP rfl rfl ?_
      refine e_c hP rfl ?_
      refine e_cge hP rfl (fun hc => ?_) (fun hc => ?_)
      · have h := h.1 hc
        refine e_ld hP rfl rfl ?_
        refine e_st (L' := [some (.inr (.inr 173)), some (.inl x1), some (.inl x2)]) hP rfl rfl ?_
        obtain ⟨hs8, h⟩ := h
        refine e_inc (L' := [some (.inr (.inr 173)), some (.inl x1), some (.inl (x2 + 1))]) hP rfl rfl hs8 rfl ?_
        refine e_ld hP rfl rfl ?_
        refine e_dupR hP rfl ?_
        refine e_gI (a := 9) 172 (sh_172 hM) hP rfl (by decide) ?_
        refine e_c hP rfl ?_
        obtain ⟨hs9, h⟩ := h
        refine e_add hP rfl hs9 ?_
        refine e_pI (a := 9) 172 (sh_172 hM) (by decide) hP rfl (by decide) ?_
        refine e_go hP rfl ?_
        exact h
      · have h := h.2 hc
        refine e_c hP rfl ?_
        refine e_ld hP rfl rfl ?_
        obtain ⟨hs10, h⟩ := h
        refine e_mul hP rfl hs10 ?_
        refine e_ld hP rfl rfl ?_
        refine e_gR (a := 9) (w := 174) 172 (sh_172 hM) hP rfl (by decide) rfl ?_
        refine e_ld hP rfl rfl ?_
        refine e_gI (a := 9) 172 (sh_172 hM) hP rfl (by decide) ?_
        obtain ⟨hs11, h⟩ := h
        refine e_bl 173 (sh_173 hM) hP rfl hs11 ?_
        obtain ⟨hs12, h⟩ := h
        refine e_add hP rfl hs12 ?_
        refine e_c hP rfl ?_
        obtain ⟨hs13, h⟩ := h
        refine e_sub hP rfl hs13 ?_
        refine e_go hP rfl ?_
        refine e_st (L' := [some (.inr (.inr 173)), some (.inl ((((10 : Int) * x1) + (M4 173 (M4 172 2).toNat)) - (48 : Int))), some (.inl x2)]) hP rfl rfl ?_
        obtain ⟨hs14, h⟩ := h
        refine e_inc (L' := [some (.inr (.inr 173)), some (.inl ((((10 : Int) * x1) + (M4 173 (M4 172 2).toNat)) - (48 : Int))), some (.inl (x2 + 1))]) hP rfl rfl hs14 rfl ?_
        refine e_ld hP rfl rfl ?_
        refine e_dupR hP rfl ?_
        refine e_gI (a := 9) 172 (sh_172 hM) hP rfl (by decide) ?_
        refine e_c hP rfl ?_
        obtain ⟨hs15, h⟩ := h
        refine e_add hP rfl hs15 ?_
        refine e_pI (a := 9) 172 (sh_172 hM) (by decide) hP rfl (by decide) ?_
        refine e_go hP rfl ?_
        exact h
theorem r_X9_isSpelt_0 {S : Shp} {M : Mem} {Q : Res → Prop} (hM : KM S) (h : En 146 3 [some (.inr (.inr 173))] [] S (up2 M 172 23 (0 : Int)) Q) : Ca 146 [.inr (.inr 173)] S M Q := by
  have hP : PR 146 = (bc_146, 1) := rfl
  refine ⟨Nat.le_of_ble_eq_true rfl, ?_⟩
  show En 146 0 [some (.inr (.inr 173))] [] S M Q
  refine e_ld hP rfl rfl ?_
  refine e_c hP rfl ?_
  refine e_pI (a := 9) 172 (sh_172 hM) (by decide) hP rfl (by decide) ?_
  exact h
theorem r_X9_isSpelt_3 {S : Shp} {M : Mem} {Q : Res → Prop} (hM : KM S) (h : (((M 172 0) ≤ (M 172 2) → (((7 : Int) ≤ (M 172 23) → Q (S, M, some (.inl (0 : Int)))) ∧ ((M 172 23) < (7 : Int) → Q (S, M, some (.inl (1 : Int)))))) ∧ ((M 172 2) < (M 172 0) → (0 ≤ (M 172 2) ∧ (M 172 2) < 200) ∧ Ca 140 [.inr (.inl (M 173 (M 172 2).toNat)), .inr (.inl (97 : Int)), .inr (.inl (122 : Int))] S M (fun r => ∃ (M2 : Mem) (v3 : Int), r = (S, M2, some (.inl v3)) ∧ ((v3 = 0 → (((7 : Int) ≤ (M2 172 23) → Q (S, M2, some (.inl (0 : Int)))) ∧ ((M2 172 23) < (7 : Int) → Q (S, M2, some (.inl (1 : Int)))))) ∧ (v3 ≠ 0 → (((6 : Int) ≤ (M2 172 23) → (inR ((M2 172 23) + (1 : Int))) ∧ (inR (((up2 M2 172 23 ((M2 172 23) + (1 : Int))) 172 2) + (1 : Int))) ∧ En 146 3 [some (.inr (.inr 173))] [] S (up2 (up2 M2 172 23 ((M2 172 23) + (1 : Int))) 172 2 (((up2 M2 172 23 ((M2 172 23) + (1 : Int))) 172 2) + (1 : Int))) Q) ∧ ((M2 172 23) < (6 : Int) → (0 ≤ (M2 172 2) ∧ (M2 172 2) < 200) ∧ (inR ((M2 173 (M2 172 2).toNat) - (97 : Int))) ∧ (0 ≤ (M2 172 23) ∧ (M2 172 23) < 6) ∧ (inR (((up2 M2 188 (M2 172 23).toNat ((M2 173 (M2 172 2).toNat) - (97 : Int))) 172 23) + (1 : Int))) ∧ (inR (((up2 (up2 M2 188 (M2 172 23).toNat ((M2 173 (M2 172 2).toNat) - (97 : Int))) 172 23 (((up2 M2 188 (M2 172 23).toNat ((M2 173 (M2 172 2).toNat) - (97 : Int))) 172 23) + (1 : Int))) 172 2) + (1 : Int))) ∧ En 146 3 [some (.inr (.inr 173))] [] S (up2 (up2 (up2 M2 188 (M2 172 23).toNat ((M2 173 (M2 172 2).toNat) - (97 : Int))) 172 23 (((up2 M2 188 (M2 172 23).toNat ((M2 173 (M2 172 2).toNat) - (97 : Int))) 172 23) + (1 : Int))) 172 2 (((up2 (up2 M2 188 (M2 172 23).toNat ((M2 173 (M2 172 2).toNat) - (97 : Int))) 172 23 (((up2 M2 188 (M2 172 23).toNat ((M2 173 (M2 172 2).toNat) - (97 : Int))) 172 23) + (1 : Int))) 172 2) + (1 : Int))) Q)))))))) : En 146 3 [some (.inr (.inr 173))] [] S M Q := by
  have hP : PR 146 = (bc_146, 1) := rfl
  refine e_ld hP rfl rfl ?_
  refine e_gI (a := 9) 172 (sh_172 hM) hP rfl (by decide) ?_
  refine e_ld hP rfl rfl ?_
  refine e_gI (a := 9) 172 (sh_172 hM) hP rfl (by decide) ?_
  refine e_cge hP rfl (fun hc => ?_) (fun hc => ?_)
  · have h := h.1 hc
    refine e_ld hP rfl rfl ?_
    refine e_gI (a := 9) 172 (sh_172 hM) hP rfl (by decide) ?_
    refine e_c hP rfl ?_
    refine e_cge hP rfl (fun hc => ?_) (fun hc => ?_)
    · have h := h.1 hc
      refine e_c hP rfl ?_
      exact e_ret hP rfl rfl h
    · have h := h.2 hc
      refine e_c hP rfl ?_
      refine e_go hP rfl ?_
      exact e_ret hP rfl rfl h
  · have h := h.2 hc
    refine e_ld hP rfl rfl ?_
    refine e_gR (a := 9) (w := 174) 172 (sh_172 hM) hP rfl (by decide) rfl ?_
    refine e_ld hP rfl rfl ?_
    refine e_gI (a := 9) 172 (sh_172 hM) hP rfl (by decide) ?_
    obtain ⟨hs1, h⟩ := h
    refine e_bl 173 (sh_173 hM) hP rfl hs1 ?_
    refine e_i2l hP rfl ?_
    refine e_lc hP rfl ?_
    refine e_lc hP rfl ?_
    refine e_call hP rfl rfl rfl (Nat.le_of_ble_eq_true rfl) (Nat.le_of_ble_eq_true rfl) rcv1 ?_
    refine Ca.mono h (fun r hr => ?_)
    obtain ⟨M2, v3, rfl, h⟩ := hr
    show En 146 17 [some (.inr (.inr 173))] [.inl v3] S M2 Q
    refine e_zeq hP rfl (fun hc => ?_) (fun hc => ?_)
    · have h := h.1 hc
      refine e_ld hP rfl rfl ?_
      refine e_gI (a := 9) 172 (sh_172 hM) hP rfl (by decide) ?_
      refine e_c hP rfl ?_
      refine e_cge hP rfl (fun hc => ?_) (fun hc => ?_)
      · have h := h.1 hc
        refine e_c hP rfl ?_
        exact e_ret hP rfl rfl h
      · have h := h.2 hc
        refine e_c hP rfl ?_
        refine e_go hP rfl ?_
        exact e_ret hP rfl rfl h
    · have h := h.2 hc
      refine e_ld hP rfl rfl ?_
      refine e_gI (a := 9) 172 (sh_172 hM) hP rfl (by decide) ?_
      refine e_c hP rfl ?_
      refine e_cge hP rfl (fun hc => ?_) (fun hc => ?_)
      · have h := h.1 hc
        refine e_ld hP rfl rfl ?_
        refine e_dupR hP rfl ?_
        refine e_gI (a := 9) 172 (sh_172 hM) hP rfl (by decide) ?_
        refine e_c hP rfl ?_
        obtain ⟨hs4, h⟩ := h
        refine e_add hP rfl hs4 ?_
        refine e_pI (a := 9) 172 (sh_172 hM) (by decide) hP rfl (by decide) ?_
        refine e_ld hP rfl rfl ?_
        refine e_dupR hP rfl ?_
        refine e_gI (a := 9) 172 (sh_172 hM) hP rfl (by decide) ?_
        refine e_c hP rfl ?_
        obtain ⟨hs5, h⟩ := h
        refine e_add hP rfl hs5 ?_
        refine e_pI (a := 9) 172 (sh_172 hM) (by decide) hP rfl (by decide) ?_
        refine e_go hP rfl ?_
        exact h
      · have h := h.2 hc
        refine e_ld hP rfl rfl ?_
        refine e_gR (a := 9) (w := 189) 172 (sh_172 hM) hP rfl (by decide) rfl ?_
        refine e_ld hP rfl rfl ?_
        refine e_gI (a := 9) 172 (sh_172 hM) hP rfl (by decide) ?_
        refine e_ld hP rfl rfl ?_
        refine e_gR (a := 9) (w := 174) 172 (sh_172 hM) hP rfl (by decide) rfl ?_
        refine e_ld hP rfl rfl ?_
        refine e_gI (a := 9) 172 (sh_172 hM) hP rfl (by decide) ?_
        obtain ⟨hs6, h⟩ := h
        refine e_bl 173 (sh_173 hM) hP rfl hs6 ?_
        refine e_c hP rfl ?_
        obtain ⟨hs7, h⟩ := h
        refine e_sub hP rfl hs7 ?_
        obtain ⟨hs8, h⟩ := h
        refine e_as 188 (sh_188 hM) (by decide) hP rfl hs8 ?_
        refine e_ld hP rfl rfl ?_
        refine e_dupR hP rfl ?_
        refine e_gI (a := 9) 172 (sh_172 hM) hP rfl (by decide) ?_
        refine e_c hP rfl ?_
        obtain ⟨hs9, h⟩ := h
        refine e_add hP rfl hs9 ?_
        refine e_pI (a := 9) 172 (sh_172 hM) (by decide) hP rfl (by decide) ?_
        refine e_ld hP rfl rfl ?_
        refine e_dupR hP rfl ?_
        refine e_gI (a := 9) 172 (sh_172 hM) hP rfl (by decide) ?_
        refine e_c hP rfl ?_
        obtain ⟨hs10, h⟩ := h
        refine e_add hP rfl hs10 ?_
        refine e_pI (a := 9) 172 (sh_172 hM) (by decide) hP rfl (by decide) ?_
        refine e_go hP rfl ?_
        exact h
theorem r_X9_isMore_0 {S : Shp} {M : Mem} {Q : Res → Prop} (hM : KM S) {p1 : Int} (h : (((M 172 2) = (M 172 0) → Q (S, M, some (.inl (0 : Int)))) ∧ ((M 172 2) ≠ (M 172 0) → (0 ≤ (M 172 2) ∧ (M 172 2) < 200) ∧ (((M 173 (M 172 2).toNat) = (44 : Int) → (inR ((M 172 2) + (1 : Int))) ∧ Ca 145 [.inr (.inr 173)] S (up2 M 172 2 ((M 172 2) + (1 : Int))) (fun r => ∃ (M3 : Mem) (v4 : Int), r = (S, M3, some (.inl v4)) ∧ (0 ≤ p1 ∧ p1 < 2) ∧ (0 ≤ p1 ∧ p1 < 2) ∧ ((((up2 M3 187 p1.toNat v4) 187 p1.toNat) < 0 → Q (S, up2 M3 187 p1.toNat v4, some (.inl (0 : Int)))) ∧ (0 ≤ ((up2 M3 187 p1.toNat v4) 187 p1.toNat) → Q (S, up2 M3 187 p1.toNat v4, some (.inl (1 : Int))))))) ∧ ((M 173 (M 172 2).toNat) ≠ (44 : Int) → Q (S, M, some (.inl (0 : Int)))))))) : Ca 147 [.inr (.inr 173), .inl p1] S M Q := by
  have hP : PR 147 = (bc_147, 2) := rfl
  refine ⟨Nat.le_of_ble_eq_true rfl, ?_⟩
  show En 147 0 [some (.inr (.inr 173)), some (.inl p1)] [] S M Q
  refine e_ld hP rfl rfl ?_
  refine e_gI (a := 9) 172 (sh_172 hM) hP rfl (by decide) ?_
  refine e_ld hP rfl rfl ?_
  refine e_gI (a := 9) 172 (sh_172 hM) hP rfl (by decide) ?_
  refine e_ceq hP rfl (fun hc => ?_) (fun hc => ?_)
  · have h := h.1 hc
    refine e_c hP rfl ?_
    exact e_ret hP rfl rfl h
  · have h := h.2 hc
    refine e_ld hP rfl rfl ?_
    refine e_gR (a := 9) (w := 174) 172 (sh_172 hM) hP rfl (by decide) rfl ?_
    refine e_ld hP rfl rfl ?_
    refine e_gI (a := 9) 172 (sh_172 hM) hP rfl (by decide) ?_
    obtain ⟨hs1, h⟩ := h
    refine e_bl 173 (sh_173 hM) hP rfl hs1 ?_
    refine e_c hP rfl ?_
    refine e_ceq hP rfl (fun hc => ?_) (fun hc => ?_)
    · have h := h.1 hc
      refine e_ld hP rfl rfl ?_
      refine e_dupR hP rfl ?_
      refine e_gI (a := 9) 172 (sh_172 hM) hP rfl (by decide) ?_
      refine e_c hP rfl ?_
      obtain ⟨hs2, h⟩ := h
      refine e_add hP rfl hs2 ?_
      refine e_pI (a := 9) 172 (sh_172 hM) (by decide) hP rfl (by decide) ?_
      refine e_ld hP rfl rfl ?_
      refine e_gR (a := 9) (w := 188) 172 (sh_172 hM) hP rfl (by decide) rfl ?_
      refine e_ld hP rfl rfl ?_
      refine e_ld hP rfl rfl ?_
      refine e_call hP rfl rfl rfl (Nat.le_of_ble_eq_true rfl) (Nat.le_of_ble_eq_true rfl) (rcv0 (sh_172 hM) (by decide)) ?_
      refine Ca.mono h (fun r hr => ?_)
      obtain ⟨M3, v4, rfl, h⟩ := hr
      show En 147 25 [some (.inr (.inr 173)), some (.inl p1)] [.inl v4, .inl p1, .inr (.inr 188)] S M3 Q
      obtain ⟨hs5, h⟩ := h
      refine e_as 187 (sh_187 hM) (by decide) hP rfl hs5 ?_
      refine e_ld hP rfl rfl ?_
      refine e_gR (a := 9) (w := 188) 172 (sh_172 hM) hP rfl (by decide) rfl ?_
      refine e_ld hP rfl rfl ?_
      obtain ⟨hs6, h⟩ := h
      refine e_al 187 (sh_187 hM) hP rfl hs6 ?_
      refine e_zlt hP rfl (fun hc => ?_) (fun hc => ?_)
      · have h := h.1 hc
        refine e_c hP rfl ?_
        exact e_ret hP rfl rfl h
      · have h := h.2 hc
        refine e_c hP rfl ?_
        refine e_go hP rfl ?_
        exact e_ret hP rfl rfl h
    · have h := h.2 hc
      refine e_c hP rfl ?_
      exact e_ret hP rfl rfl h
theorem r_X9_isItem_0 {S : Shp} {M : Mem} {Q : Res → Prop} (hM : KM S) (h : (0 ≤ (M 172 2) ∧ (M 172 2) < 200) ∧ (inR ((M 172 2) + (1 : Int))) ∧ (((M 173 (M 172 2).toNat) ≠ (110 : Int) → (((M 173 (M 172 2).toNat) = (111 : Int) → En 148 40 [some (.inr (.inr 173)), some (.inl (M 173 (M 172 2).toNat)), none] [] S (up2 M 172 2 ((M 172 2) + (1 : Int))) Q) ∧ ((M 173 (M 172 2).toNat) ≠ (111 : Int) → (((M 173 (M 172 2).toNat) = (118 : Int) → En 148 40 [some (.inr (.inr 173)), some (.inl (M 173 (M 172 2).toNat)), none] [] S (up2 M 172 2 ((M 172 2) + (1 : Int))) Q) ∧ ((M 173 (M 172 2).toNat) ≠ (118 : Int) → (((M 173 (M 172 2).toNat) ≠ (113 : Int) → (((M 173 (M 172 2).toNat) = (103 : Int) → En 148 63 [some (.inr (.inr 173)), some (.inl (M 173 (M 172 2).toNat)), none] [.inl (0 : Int), .inr (.inr 188)] S (up2 M 172 2 ((M 172 2) + (1 : Int))) Q) ∧ ((M 173 (M 172 2).toNat) ≠ (103 : Int) → (((M 173 (M 172 2).toNat) = (119 : Int) → En 148 63 [some (.inr (.inr 173)), some (.inl (M 173 (M 172 2).toNat)), none] [.inl (0 : Int), .inr (.inr 188)] S (up2 M 172 2 ((M 172 2) + (1 : Int))) Q) ∧ ((M 173 (M 172 2).toNat) ≠ (119 : Int) → (((M 173 (M 172 2).toNat) ≠ (99 : Int) → En 148 67 [some (.inr (.inr 173)), some (.inl (M 173 (M 172 2).toNat)), none] [.inl (-1 : Int), .inl (0 : Int), .inr (.inr 188)] S (up2 M 172 2 ((M 172 2) + (1 : Int))) Q) ∧ ((M 173 (M 172 2).toNat) = (99 : Int) → En 148 63 [some (.inr (.inr 173)), some (.inl (M 173 (M 172 2).toNat)), none] [.inl (0 : Int), .inr (.inr 188)] S (up2 M 172 2 ((M 172 2) + (1 : Int))) Q))))))) ∧ ((M 173 (M 172 2).toNat) = (113 : Int) → En 148 40 [some (.inr (.inr 173)), some (.inl (M 173 (M 172 2).toNat)), none] [] S (up2 M 172 2 ((M 172 2) + (1 : Int))) Q))))))) ∧ ((M 173 (M 172 2).toNat) = (110 : Int) → Ca 146 [.inr (.inr 173)] S (up2 M 172 2 ((M 172 2) + (1 : Int))) (fun r => ∃ (M3 : Mem) (v4 : Int), r = (S, M3, some (.inl v4)) ∧ ((v4 = 0 → En 148 28 [some (.inr (.inr 173)), some (.inl (M 173 (M 172 2).toNat)), none] [] S M3 Q) ∧ (v4 ≠ 0 → Ca 147 [.inr (.inr 173), .inl (0 : Int)] S M3 (fun r => ∃ (M5 : Mem) (v6 : Int), r = (S, M5, some (.inl v6)) ∧ ((v6 = 0 → En 148 28 [some (.inr (.inr 173)), some (.inl (M 173 (M 172 2).toNat)), none] [] S M5 Q) ∧ (v6 ≠ 0 → Ca 147 [.inr (.inr 173), .inl (1 : Int)] S M5 (fun r => ∃ (M7 : Mem) (v8 : Int), r = (S, M7, some (.inl v8)) ∧ ((v8 = 0 → En 148 28 [some (.inr (.inr 173)), some (.inl (M 173 (M 172 2).toNat)), none] [] S M7 Q) ∧ (v8 ≠ 0 → En 148 29 [some (.inr (.inr 173)), some (.inl (M 173 (M 172 2).toNat)), none] [.inl (1 : Int)] S M7 Q)))))))))))) : Ca 148 [.inr (.inr 173)] S M Q := by
  have hP : PR 148 = (bc_148, 3) := rfl
  refine ⟨Nat.le_of_ble_eq_true rfl, ?_⟩
  show En 148 0 [some (.inr (.inr 173)), none, none] [] S M Q
  refine e_ld hP rfl rfl ?_
  refine e_gR (a := 9) (w := 174) 172 (sh_172 hM) hP rfl (by decide) rfl ?_
  refine e_ld hP rfl rfl ?_
  refine e_gI (a := 9) 172 (sh_172 hM) hP rfl (by decide) ?_
  obtain ⟨hs1, h⟩ := h
  refine e_bl 173 (sh_173 hM) hP rfl hs1 ?_
  refine e_st (L' := [some (.inr (.inr 173)), some (.inl (M 173 (M 172 2).toNat)), none]) hP rfl rfl ?_
  refine e_ld hP rfl rfl ?_
  refine e_dupR hP rfl ?_
  refine e_gI (a := 9) 172 (sh_172 hM) hP rfl (by decide) ?_
  refine e_c hP rfl ?_
  obtain ⟨hs2, h⟩ := h
  refine e_add hP rfl hs2 ?_
  refine e_pI (a := 9) 172 (sh_172 hM) (by decide) hP rfl (by decide) ?_
  refine e_ld hP rfl rfl ?_
  refine e_c hP rfl ?_
  refine e_cne hP rfl (fun hc => ?_) (fun hc => ?_)
  · have h := h.1 hc
    refine e_ld hP rfl rfl ?_
    refine e_c hP rfl ?_
    refine e_ceq hP rfl (fun hc => ?_) (fun hc => ?_)
    · have h := h.1 hc
      exact h
    · have h := h.2 hc
      refine e_ld hP rfl rfl ?_
      refine e_c hP rfl ?_
      refine e_ceq hP rfl (fun hc => ?_) (fun hc => ?_)
      · have h := h.1 hc
        exact h
      · have h := h.2 hc
        refine e_ld hP rfl rfl ?_
        refine e_c hP rfl ?_
        refine e_cne hP rfl (fun hc => ?_) (fun hc => ?_)
        · have h := h.1 hc
          refine e_ld hP rfl rfl ?_
          refine e_gR (a := 9) (w := 188) 172 (sh_172 hM) hP rfl (by decide) rfl ?_
          refine e_c hP rfl ?_
          refine e_ld hP rfl rfl ?_
          refine e_c hP rfl ?_
          refine e_ceq hP rfl (fun hc => ?_) (fun hc => ?_)
          · have h := h.1 hc
            exact h
          · have h := h.2 hc
            refine e_ld hP rfl rfl ?_
            refine e_c hP rfl ?_
            refine e_ceq hP rfl (fun hc => ?_) (fun hc => ?_)
            · have h := h.1 hc
              exact h
            · have h := h.2 hc
              refine e_ld hP rfl rfl ?_
              refine e_c hP rfl ?_
              refine e_cne hP rfl (fun hc => ?_) (fun hc => ?_)
              · have h := h.1 hc
                refine e_c hP rfl ?_
                exact h
              · have h := h.2 hc
                exact h
        · have h := h.2 hc
          exact h
  · have h := h.2 hc
    refine e_ld hP rfl rfl ?_
    refine e_call hP rfl rfl rfl (Nat.le_of_ble_eq_true rfl) (Nat.le_of_ble_eq_true rfl) (rcv0 (sh_172 hM) (by decide)) ?_
    refine Ca.mono h (fun r hr => ?_)
    obtain ⟨M3, v4, rfl, h⟩ := hr
    show En 148 17 [some (.inr (.inr 173)), some (.inl (M 173 (M 172 2).toNat)), none] [.inl v4] S M3 Q
    refine e_zeq hP rfl (fun hc => ?_) (fun hc => ?_)
    · have h := h.1 hc
      exact h
    · have h := h.2 hc
      refine e_ld hP rfl rfl ?_
      refine e_c hP rfl ?_
      refine e_call hP rfl rfl rfl (Nat.le_of_ble_eq_true rfl) (Nat.le_of_ble_eq_true rfl) (rcv0 (sh_172 hM) (by decide)) ?_
      refine Ca.mono h (fun r hr => ?_)
      obtain ⟨M5, v6, rfl, h⟩ := hr
      show En 148 21 [some (.inr (.inr 173)), some (.inl (M 173 (M 172 2).toNat)), none] [.inl v6] S M5 Q
      refine e_zeq hP rfl (fun hc => ?_) (fun hc => ?_)
      · have h := h.1 hc
        exact h
      · have h := h.2 hc
        refine e_ld hP rfl rfl ?_
        refine e_c hP rfl ?_
        refine e_call hP rfl rfl rfl (Nat.le_of_ble_eq_true rfl) (Nat.le_of_ble_eq_true rfl) (rcv0 (sh_172 hM) (by decide)) ?_
        refine Ca.mono h (fun r hr => ?_)
        obtain ⟨M7, v8, rfl, h⟩ := hr
        show En 148 25 [some (.inr (.inr 173)), some (.inl (M 173 (M 172 2).toNat)), none] [.inl v8] S M7 Q
        refine e_zeq hP rfl (fun hc => ?_) (fun hc => ?_)
        · have h := h.1 hc
          exact h
        · have h := h.2 hc
          refine e_c hP rfl ?_
          refine e_go hP rfl ?_
          exact h
theorem r_X9_isItem_28 {S : Shp} {M : Mem} {Q : Res → Prop} (hM : KM S) {x1 : Int} (h : En 148 29 [some (.inr (.inr 173)), some (.inl x1), none] [.inl (0 : Int)] S M Q) : En 148 28 [some (.inr (.inr 173)), some (.inl x1), none] [] S M Q := by
  have hP : PR 148 = (bc_148, 3) := rfl
  refine e_c hP rfl ?_
  exact h
theorem r_X9_isItem_29 {S : Shp} {M : Mem} {Q : Res → Prop} (hM : KM S) {x1 s0 : Int} (h : En 148 77 [some (.inr (.inr 173)), some (.inl x1), some (.inl s0)] [] S M Q) : En 148 29 [some (.inr (.inr 173)), some (.inl x1), none] [.inl s0] S M Q := by
  have hP : PR 148 = (bc_148, 3) := rfl
  refine e_st (L' := [some (.inr (.inr 173)), some (.inl x1), some (.inl s0)]) hP rfl rfl ?_
  refine e_go hP rfl ?_
  exact h
theorem r_X9_isItem_40 {S : Shp} {M : Mem} {Q : Res → Prop} (hM : KM S) {x1 : Int} (h : Ca 146 [.inr (.inr 173)] S M (fun r => ∃ (M1 : Mem) (v2 : Int), r = (S, M1, some (.inl v2)) ∧ ((v2 = 0 → En 148 48 [some (.inr (.inr 173)), some (.inl x1), none] [] S M1 Q) ∧ (v2 ≠ 0 → (((M1 172 23) ≤ 0 → En 148 48 [some (.inr (.inr 173)), some (.inl x1), none] [] S M1 Q) ∧ (0 < (M1 172 23) → En 148 49 [some (.inr (.inr 173)), some (.inl x1), none] [.inl (1 : Int)] S M1 Q)))))) : En 148 40 [some (.inr (.inr 173)), some (.inl x1), none] [] S M Q := by
  have hP : PR 148 = (bc_148, 3) := rfl
  refine e_ld hP rfl rfl ?_
  refine e_call hP rfl rfl rfl (Nat.le_of_ble_eq_true rfl) (Nat.le_of_ble_eq_true rfl) (rcv0 (sh_172 hM) (by decide)) ?_
  refine Ca.mono h (fun r hr => ?_)
  obtain ⟨M1, v2, rfl, h⟩ := hr
  show En 148 42 [some (.inr (.inr 173)), some (.inl x1), none] [.inl v2] S M1 Q
  refine e_zeq hP rfl (fun hc => ?_) (fun hc => ?_)
  · have h := h.1 hc
    exact h
  · have h := h.2 hc
    refine e_ld hP rfl rfl ?_
    refine e_gI (a := 9) 172 (sh_172 hM) hP rfl (by decide) ?_
    refine e_zle hP rfl (fun hc => ?_) (fun hc => ?_)
    · have h := h.1 hc
      exact h
    · have h := h.2 hc
      refine e_c hP rfl ?_
      refine e_go hP rfl ?_
      exact h
theorem r_X9_isItem_48 {S : Shp} {M : Mem} {Q : Res → Prop} (hM : KM S) {x1 : Int} (h : En 148 49 [some (.inr (.inr 173)), some (.inl x1), none] [.inl (0 : Int)] S M Q) : En 148 48 [some (.inr (.inr 173)), some (.inl x1), none] [] S M Q := by
  have hP : PR 148 = (bc_148, 3) := rfl
  refine e_c hP rfl ?_
  exact h
theorem r_X9_isItem_49 {S : Shp} {M : Mem} {Q : Res → Prop} (hM : KM S) {x1 s0 : Int} (h : En 148 77 [some (.inr (.inr 173)), some (.inl x1), some (.inl s0)] [] S M Q) : En 148 49 [some (.inr (.inr 173)), some (.inl x1), none] [.inl s0] S M Q := by
  have hP : PR 148 = (bc_148, 3) := rfl
  refine e_st (L' := [some (.inr (.inr 173)), some (.inl x1), some (.inl s0)]) hP rfl rfl ?_
  refine e_go hP rfl ?_
  exact h
theorem r_X9_isItem_63 {S : Shp} {M : Mem} {Q : Res → Prop} (hM : KM S) {x1 s0 : Int} (h : Ca 145 [.inr (.inr 173)] S M (fun r => ∃ (M1 : Mem) (v2 : Int), r = (S, M1, some (.inl v2)) ∧ En 148 67 [some (.inr (.inr 173)), some (.inl x1), none] [.inl v2, .inl s0, .inr (.inr 188)] S M1 Q)) : En 148 63 [some (.inr (.inr 173)), some (.inl x1), none] [.inl s0, .inr (.inr 188)] S M Q := by
  have hP : PR 148 = (bc_148, 3) := rfl
  refine e_ld hP rfl rfl ?_
  refine e_call hP rfl rfl rfl (Nat.le_of_ble_eq_true rfl) (Nat.le_of_ble_eq_true rfl) (rcv0 (sh_172 hM) (by decide)) ?_
  refine Ca.mono h (fun r hr => ?_)
  obtain ⟨M1, v2, rfl, h⟩ := hr
  show En 148 65 [some (.inr (.inr 173)), some (.inl x1), none] [.inl v2, .inl s0, .inr (.inr 188)] S M1 Q
  refine e_go hP rfl ?_
  exact h
theorem r_X9_isItem_67 {S : Shp} {M : Mem} {Q : Res → Prop} (hM : KM S) {x1 s0 s1 : Int} (h : (0 ≤ s1 ∧ s1 < 2) ∧ (0 ≤ (0 : Int) ∧ (0 : Int) < 2) ∧ ((((up2 M 187 s1.toNat s0) 187 (0 : Int).toNat) < 0 → En 148 76 [some (.inr (.inr 173)), some (.inl x1), none] [.inl (0 : Int)] S (up2 M 187 s1.toNat s0) Q) ∧ (0 ≤ ((up2 M 187 s1.toNat s0) 187 (0 : Int).toNat) → En 148 76 [some (.inr (.inr 173)), some (.inl x1), none] [.inl (1 : Int)] S (up2 M 187 s1.toNat s0) Q))) : En 148 67 [some (.inr (.inr 173)), some (.inl x1), none] [.inl s0, .inl s1, .inr (.inr 188)] S M Q := by
  have hP : PR 148 = (bc_148, 3) := rfl
  obtain ⟨hs1, h⟩ := h
  refine e_as 187 (sh_187 hM) (by decide) hP rfl hs1 ?_
  refine e_ld hP rfl rfl ?_
  refine e_gR (a := 9) (w := 188) 172 (sh_172 hM) hP rfl (by decide) rfl ?_
  refine e_c hP rfl ?_
  obtain ⟨hs2, h⟩ := h
  refine e_al 187 (sh_187 hM) hP rfl hs2 ?_
  refine e_zlt hP rfl (fun hc => ?_) (fun hc => ?_)
  · have h := h.1 hc
    refine e_c hP rfl ?_
    exact h
  · have h := h.2 hc
    refine e_c hP rfl ?_
    refine e_go hP rfl ?_
    exact h
theorem r_X9_isItem_76 {S : Shp} {M : Mem} {Q : Res → Prop} (hM : KM S) {x1 s0 : Int} (h : En 148 77 [some (.inr (.inr 173)), some (.inl x1), some (.inl s0)] [] S M Q) : En 148 76 [some (.inr (.inr 173)), some (.inl x1), none] [.inl s0] S M Q := by
  have hP : PR 148 = (bc_148, 3) := rfl
  refine e_st (L' := [some (.inr (.inr 173)), some (.inl x1), some (.inl s0)]) hP rfl rfl ?_
  exact h
theorem r_X9_isItem_77 {S : Shp} {M : Mem} {Q : Res → Prop} (hM : KM S) {x1 x2 : Int} (h : ((x2 = 0 → En 148 93 [some (.inr (.inr 173)), some (.inl x1), some (.inl x2)] [] S M Q) ∧ (x2 ≠ 0 → (((M 172 0) ≤ (M 172 2) → En 148 93 [some (.inr (.inr 173)), some (.inl x1), some (.inl x2)] [] S M Q) ∧ ((M 172 2) < (M 172 0) → (0 ≤ (M 172 2) ∧ (M 172 2) < 200) ∧ (((M 173 (M 172 2).toNat) ≠ (59 : Int) → En 148 93 [some (.inr (.inr 173)), some (.inl x1), some (.inl x2)] [] S M Q) ∧ ((M 173 (M 172 2).toNat) = (59 : Int) → En 148 94 [some (.inr (.inr 173)), some (.inl x1), some (.inl x2)] [.inl (1 : Int)] S M Q))))))) : En 148 77 [some (.inr (.inr 173)), some (.inl x1), some (.inl x2)] [] S M Q := by
  have hP : PR 148 = (bc_148, 3) := rfl
  refine e_ld hP rfl rfl ?_
  refine e_zeq hP rfl (fun hc => ?_) (fun hc => ?_)
  · have h := h.1 hc
    exact h
  · have h := h.2 hc
    refine e_ld hP rfl rfl ?_
    refine e_gI (a := 9) 172 (sh_172 hM) hP rfl (by decide) ?_
    refine e_ld hP rfl rfl ?_
    refine e_gI (a := 9) 172 (sh_172 hM) hP rfl (by decide) ?_
    refine e_cge hP rfl (fun hc => ?_) (fun hc => ?_)
    · have h := h.1 hc
      exact h
    · have h := h.2 hc
      refine e_ld hP rfl rfl ?_
      refine e_gR (a := 9) (w := 174) 172 (sh_172 hM) hP rfl (by decide) rfl ?_
      refine e_ld hP rfl rfl ?_
      refine e_gI (a := 9) 172 (sh_172 hM) hP rfl (by decide) ?_
      obtain ⟨hs1, h⟩ := h
      refine e_bl 173 (sh_173 hM) hP rfl hs1 ?_
      refine e_c hP rfl ?_
      refine e_cne hP rfl (fun hc => ?_) (fun hc => ?_)
      · have h := h.1 hc
        exact h
      · have h := h.2 hc
        refine e_c hP rfl ?_
        refine e_go hP rfl ?_
        exact h
theorem r_X9_isItem_93 {S : Shp} {M : Mem} {Q : Res → Prop} (hM : KM S) {x1 x2 : Int} (h : En 148 94 [some (.inr (.inr 173)), some (.inl x1), some (.inl x2)] [.inl (0 : Int)] S M Q) : En 148 93 [some (.inr (.inr 173)), some (.inl x1), some (.inl x2)] [] S M Q := by
  have hP : PR 148 = (bc_148, 3) := rfl
  refine e_c hP rfl ?_
  exact h
theorem r_X9_isItem_94 {S : Shp} {M : Mem} {Q : Res → Prop} (hM : KM S) {x1 x2 s0 : Int} (h : (inR ((M 172 2) + (1 : Int))) ∧ ((s0 = 0 → En 148 109 [some (.inr (.inr 173)), some (.inl x1), some (.inl s0)] [] S (up2 M 172 2 ((M 172 2) + (1 : Int))) Q) ∧ (s0 ≠ 0 → Ca 149 [.inr (.inr 173), .inl x1] S (up2 M 172 2 ((M 172 2) + (1 : Int))) (fun r => ∃ (M2 : Mem) (v3 : Int), r = (S, M2, some (.inl v3)) ∧ ((v3 = 0 → En 148 109 [some (.inr (.inr 173)), some (.inl x1), some (.inl s0)] [] S M2 Q) ∧ (v3 ≠ 0 → En 148 110 [some (.inr (.inr 173)), some (.inl x1), some (.inl s0)] [.inl (1 : Int)] S M2 Q)))))) : En 148 94 [some (.inr (.inr 173)), some (.inl x1), some (.inl x2)] [.inl s0] S M Q := by
  have hP : PR 148 = (bc_148, 3) := rfl
  refine e_st (L' := [some (.inr (.inr 173)), some (.inl x1), some (.inl s0)]) hP rfl rfl ?_
  refine e_ld hP rfl rfl ?_
  refine e_dupR hP rfl ?_
  refine e_gI (a := 9) 172 (sh_172 hM) hP rfl (by decide) ?_
  refine e_c hP rfl ?_
  obtain ⟨hs1, h⟩ := h
  refine e_add hP rfl hs1 ?_
  refine e_pI (a := 9) 172 (sh_172 hM) (by decide) hP rfl (by decide) ?_
  refine e_ld hP rfl rfl ?_
  refine e_zeq hP rfl (fun hc => ?_) (fun hc => ?_)
  · have h := h.1 hc
    exact h
  · have h := h.2 hc
    refine e_ld hP rfl rfl ?_
    refine e_ld hP rfl rfl ?_
    refine e_call hP rfl rfl rfl (Nat.le_of_ble_eq_true rfl) (Nat.le_of_ble_eq_true rfl) (rcv0 (sh_172 hM) (by decide)) ?_
    refine Ca.mono h (fun r hr => ?_)
    obtain ⟨M2, v3, rfl, h⟩ := hr
    show En 148 106 [some (.inr (.inr 173)), some (.inl x1), some (.inl s0)] [.inl v3] S M2 Q
    refine e_zeq hP rfl (fun hc => ?_) (fun hc => ?_)
    · have h := h.1 hc
      exact h
    · have h := h.2 hc
      refine e_c hP rfl ?_
      refine e_go hP rfl ?_
      exact h
theorem r_X9_isItem_109 {S : Shp} {M : Mem} {Q : Res → Prop} (hM : KM S) {x1 x2 : Int} (h : En 148 110 [some (.inr (.inr 173)), some (.inl x1), some (.inl x2)] [.inl (0 : Int)] S M Q) : En 148 109 [some (.inr (.inr 173)), some (.inl x1), some (.inl x2)] [] S M Q := by
  have hP : PR 148 = (bc_148, 3) := rfl
  refine e_c hP rfl ?_
  exact h
theorem r_X9_isItem_110 {S : Shp} {M : Mem} {Q : Res → Prop} (hM : KM S) {x1 x2 s0 : Int} (h : (s0 = 0 ∨ s0 = 1) ∧ Q (S, M, some (.inl s0))) : En 148 110 [some (.inr (.inr 173)), some (.inl x1), some (.inl x2)] [.inl s0] S M Q := by
  have hP : PR 148 = (bc_148, 3) := rfl
  exact e_ret hP rfl (decide_eq_true h.1) h.2
theorem r_X9_isGood_0 {S : Shp} {M : Mem} {Q : Res → Prop} (hM : KM S) {p1 : Int} (h : ((p1 = 99 → (0 ≤ (0 : Int) ∧ (0 : Int) < 2) ∧ (0 ≤ (9 : Int) ∧ (9 : Int) < 12) ∧ (0 ≤ (0 : Int) ∧ (0 : Int) < 2) ∧ (((10 : Int) ≤ ((up2 M 174 (9 : Int).toNat (M 187 (0 : Int).toNat)) 187 (0 : Int).toNat) → Q (S, up2 M 174 (9 : Int).toNat (M 187 (0 : Int).toNat), some (.inl (0 : Int)))) ∧ (((up2 M 174 (9 : Int).toNat (M 187 (0 : Int).toNat)) 187 (0 : Int).toNat) < (10 : Int) → Q (S, up2 M 174 (9 : Int).toNat (M 187 (0 : Int).toNat), some (.inl (1 : Int)))))) ∧ (p1 = 103 → (0 ≤ (0 : Int) ∧ (0 : Int) < 2) ∧ (0 ≤ (7 : Int) ∧ (7 : Int) < 12) ∧ Q (S, up2 M 174 (7 : Int).toNat (M 187 (0 : Int).toNat), some (.inl (1 : Int)))) ∧ (p1 = 110 → (0 ≤ (0 : Int) ∧ (0 : Int) < 2) ∧ (((10 : Int) ≤ (M 187 (0 : Int).toNat) → Q (S, M, some (.inl (0 : Int)))) ∧ ((M 187 (0 : Int).toNat) < (10 : Int) → (0 ≤ (6 : Int) ∧ (6 : Int) < 12) ∧ (((8 : Int) ≤ (M 174 (6 : Int).toNat) → Q (S, M, some (.inl (0 : Int)))) ∧ ((M 174 (6 : Int).toNat) < (8 : Int) → Ca 150 [.inr (.inr 173)] S M (fun r => ∃ (M8 : Mem) (v9 : Int), r = (S, M8, some (.inl v9)) ∧ ((v9 = 0 → Q (S, M8, some (.inl (0 : Int)))) ∧ (v9 ≠ 0 → Q (S, M8, some (.inl (1 : Int))))))))))) ∧ (p1 = 111 → Ca 151 [.inr (.inr 173)] S M (fun r => ∃ (M10 : Mem) (v11 : Int), r = (S, M10, some (.inl v11)) ∧ (v11 = 0 ∨ v11 = 1) ∧ Q (S, M10, some (.inl v11)))) ∧ (p1 = 118 → (0 ≤ (11 : Int) ∧ (11 : Int) < 12) ∧ En 149 74 [some (.inr (.inr 173)), some (.inl p1), some (.inl (0 : Int))] [] S (up2 M 174 (11 : Int).toNat (0 : Int)) Q) ∧ (p1 = 119 → (0 ≤ (0 : Int) ∧ (0 : Int) < 2) ∧ (0 ≤ (8 : Int) ∧ (8 : Int) < 12) ∧ (0 ≤ (0 : Int) ∧ (0 : Int) < 2) ∧ (((26 : Int) ≤ ((up2 M 174 (8 : Int).toNat (M 187 (0 : Int).toNat)) 187 (0 : Int).toNat) → Q (S, up2 M 174 (8 : Int).toNat (M 187 (0 : Int).toNat), some (.inl (0 : Int)))) ∧ (((up2 M 174 (8 : Int).toNat (M 187 (0 : Int).toNat)) 187 (0 : Int).toNat) < (26 : Int) → Q (S, up2 M 174 (8 : Int).toNat (M 187 (0 : Int).toNat), some (.inl (1 : Int)))))) ∧ (p1 ≠ 99 → p1 ≠ 103 → p1 ≠ 110 → p1 ≠ 111 → p1 ≠ 118 → p1 ≠ 119 → (((M 172 23) ≠ (2 : Int) → Q (S, M, some (.inl (0 : Int)))) ∧ ((M 172 23) = (2 : Int) → (0 ≤ (10 : Int) ∧ (10 : Int) < 12) ∧ (((M 174 (10 : Int).toNat) ≠ (6 : Int) → (0 ≤ (10 : Int) ∧ (10 : Int) < 12) ∧ (inR ((2 : Int) * (M 174 (10 : Int).toNat))) ∧ (inR ((12 : Int) + ((2 : Int) * (M 174 (10 : Int).toNat)))) ∧ (0 ≤ (0 : Int) ∧ (0 : Int) < 6) ∧ (0 ≤ ((12 : Int) + ((2 : Int) * (M 174 (10 : Int).toNat))) ∧ ((12 : Int) + ((2 : Int) * (M 174 (10 : Int).toNat))) < 24) ∧ (0 ≤ (10 : Int) ∧ (10 : Int) < 12) ∧ (inR ((2 : Int) * ((up2 M 179 ((12 : Int) + ((2 : Int) * (M 174 (10 : Int).toNat))).toNat (M 188 (0 : Int).toNat)) 174 (10 : Int).toNat))) ∧ (inR ((13 : Int) + ((2 : Int) * ((up2 M 179 ((12 : Int) + ((2 : Int) * (M 174 (10 : Int).toNat))).toNat (M 188 (0 : Int).toNat)) 174 (10 : Int).toNat)))) ∧ (0 ≤ (1 : Int) ∧ (1 : Int) < 6) ∧ (0 ≤ ((13 : Int) + ((2 : Int) * ((up2 M 179 ((12 : Int) + ((2 : Int) * (M 174 (10 : Int).toNat))).toNat (M 188 (0 : Int).toNat)) 174 (10 : Int).toNat))) ∧ ((13 : Int) + ((2 : Int) * ((up2 M 179 ((12 : Int) + ((2 : Int) * (M 174 (10 : Int).toNat))).toNat (M 188 (0 : Int).toNat)) 174 (10 : Int).toNat))) < 24) ∧ (0 ≤ (10 : Int) ∧ (10 : Int) < 12) ∧ (inR (((up2 (up2 M 179 ((12 : Int) + ((2 : Int) * (M 174 (10 : Int).toNat))).toNat (M 188 (0 : Int).toNat)) 179 ((13 : Int) + ((2 : Int) * ((up2 M 179 ((12 : Int) + ((2 : Int) * (M 174 (10 : Int).toNat))).toNat (M 188 (0 : Int).toNat)) 174 (10 : Int).toNat))).toNat ((up2 M 179 ((12 : Int) + ((2 : Int) * (M 174 (10 : Int).toNat))).toNat (M 188 (0 : Int).toNat)) 188 (1 : Int).toNat)) 174 (10 : Int).toNat) + (1 : Int))) ∧ (0 ≤ (10 : Int) ∧ (10 : Int) < 12) ∧ Q (S, up2 (up2 (up2 M 179 ((12 : Int) + ((2 : Int) * (M 174 (10 : Int).toNat))).toNat (M 188 (0 : Int).toNat)) 179 ((13 : Int) + ((2 : Int) * ((up2 M 179 ((12 : Int) + ((2 : Int) * (M 174 (10 : Int).toNat))).toNat (M 188 (0 : Int).toNat)) 174 (10 : Int).toNat))).toNat ((up2 M 179 ((12 : Int) + ((2 : Int) * (M 174 (10 : Int).toNat))).toNat (M 188 (0 : Int).toNat)) 188 (1 : Int).toNat)) 174 (10 : Int).toNat (((up2 (up2 M 179 ((12 : Int) + ((2 : Int) * (M 174 (10 : Int).toNat))).toNat (M 188 (0 : Int).toNat)) 179 ((13 : Int) + ((2 : Int) * ((up2 M 179 ((12 : Int) + ((2 : Int) * (M 174 (10 : Int).toNat))).toNat (M 188 (0 : Int).toNat)) 174 (10 : Int).toNat))).toNat ((up2 M 179 ((12 : Int) + ((2 : Int) * (M 174 (10 : Int).toNat))).toNat (M 188 (0 : Int).toNat)) 188 (1 : Int).toNat)) 174 (10 : Int).toNat) + (1 : Int)), some (.inl (1 : Int)))) ∧ ((M 174 (10 : Int).toNat) = (6 : Int) → Q (S, M, some (.inl (0 : Int)))))))))) : Ca 149 [.inr (.inr 173), .inl p1] S M Q := by
  have hP : PR 149 = (bc_149, 3) := rfl
  refine ⟨Nat.le_of_ble_eq_true rfl, ?_⟩
  show En 149 0 [some (.inr (.inr 173)), some (.inl p1), none] [] S M Q
  refine e_ld hP rfl rfl ?_
  by_cases hk99 : p1 = 99
  · have h := h.1 hk99
    refine e_look (t := 49) hP rfl (by rw [hk99]; rfl) ?_
    refine e_ld hP rfl rfl ?_
    refine e_gR (a := 9) (w := 175) 172 (sh_172 hM) hP rfl (by decide) rfl ?_
    refine e_c hP rfl ?_
    refine e_ld hP rfl rfl ?_
    refine e_gR (a := 9) (w := 188) 172 (sh_172 hM) hP rfl (by decide) rfl ?_
    refine e_c hP rfl ?_
    obtain ⟨hs1, h⟩ := h
    refine e_al 187 (sh_187 hM) hP rfl hs1 ?_
    obtain ⟨hs2, h⟩ := h
    refine e_as 174 (sh_174 hM) (by decide) hP rfl hs2 ?_
    refine e_ld hP rfl rfl ?_
    refine e_gR (a := 9) (w := 188) 172 (sh_172 hM) hP rfl (by decide) rfl ?_
    refine e_c hP rfl ?_
    obtain ⟨hs3, h⟩ := h
    refine e_al 187 (sh_187 hM) hP rfl hs3 ?_
    refine e_c hP rfl ?_
    refine e_cge hP rfl (fun hc => ?_) (fun hc => ?_)
    · have h := h.1 hc
      refine e_c hP rfl ?_
      exact e_ret hP rfl rfl h
    · have h := h.2 hc
      refine e_c hP rfl ?_
      refine e_go hP rfl ?_
      exact e_ret hP rfl rfl h
  by_cases hk103 : p1 = 103
  · have h := h.2.1 hk103
    refine e_look (t := 21) hP rfl (by rw [hk103]; rfl) ?_
    refine e_ld hP rfl rfl ?_
    refine e_gR (a := 9) (w := 175) 172 (sh_172 hM) hP rfl (by decide) rfl ?_
    refine e_c hP rfl ?_
    refine e_ld hP rfl rfl ?_
    refine e_gR (a := 9) (w := 188) 172 (sh_172 hM) hP rfl (by decide) rfl ?_
    refine e_c hP rfl ?_
    obtain ⟨hs4, h⟩ := h
    refine e_al 187 (sh_187 hM) hP rfl hs4 ?_
    obtain ⟨hs5, h⟩ := h
    refine e_as 174 (sh_174 hM) (by decide) hP rfl hs5 ?_
    refine e_c hP rfl ?_
    exact e_ret hP rfl rfl h
  by_cases hk110 : p1 = 110
  · have h := h.2.2.1 hk110
    refine e_look (t := 2) hP rfl (by rw [hk110]; rfl) ?_
    refine e_ld hP rfl rfl ?_
    refine e_gR (a := 9) (w := 188) 172 (sh_172 hM) hP rfl (by decide) rfl ?_
    refine e_c hP rfl ?_
    obtain ⟨hs6, h⟩ := h
    refine e_al 187 (sh_187 hM) hP rfl hs6 ?_
    refine e_c hP rfl ?_
    refine e_cge hP rfl (fun hc => ?_) (fun hc => ?_)
    · have h := h.1 hc
      refine e_c hP rfl ?_
      exact e_ret hP rfl rfl h
    · have h := h.2 hc
      refine e_ld hP rfl rfl ?_
      refine e_gR (a := 9) (w := 175) 172 (sh_172 hM) hP rfl (by decide) rfl ?_
      refine e_c hP rfl ?_
      obtain ⟨hs7, h⟩ := h
      refine e_al 174 (sh_174 hM) hP rfl hs7 ?_
      refine e_c hP rfl ?_
      refine e_cge hP rfl (fun hc => ?_) (fun hc => ?_)
      · have h := h.1 hc
        refine e_c hP rfl ?_
        exact e_ret hP rfl rfl h
      · have h := h.2 hc
        refine e_ld hP rfl rfl ?_
        refine e_call hP rfl rfl rfl (Nat.le_of_ble_eq_true rfl) (Nat.le_of_ble_eq_true rfl) (rcv0 (sh_172 hM) (by decide)) ?_
        refine Ca.mono h (fun r hr => ?_)
        obtain ⟨M8, v9, rfl, h⟩ := hr
        show En 149 16 [some (.inr (.inr 173)), some (.inl p1), none] [.inl v9] S M8 Q
        refine e_zeq hP rfl (fun hc => ?_) (fun hc => ?_)
        · have h := h.1 hc
          refine e_c hP rfl ?_
          exact e_ret hP rfl rfl h
        · have h := h.2 hc
          refine e_c hP rfl ?_
          refine e_go hP rfl ?_
          exact e_ret hP rfl rfl h
  by_cases hk111 : p1 = 111
  · have h := h.2.2.2.1 hk111
    refine e_look (t := 95) hP rfl (by rw [hk111]; rfl) ?_
    refine e_ld hP rfl rfl ?_
    refine e_call hP rfl rfl rfl (Nat.le_of_ble_eq_true rfl) (Nat.le_of_ble_eq_true rfl) (rcv0 (sh_172 hM) (by decide)) ?_
    refine Ca.mono h (fun r hr => ?_)
    obtain ⟨M10, v11, rfl, h⟩ := hr
    show En 149 97 [some (.inr (.inr 173)), some (.inl p1), none] [.inl v11] S M10 Q
    exact e_ret hP rfl (decide_eq_true h.1) h.2
  by_cases hk118 : p1 = 118
  · have h := h.2.2.2.2.1 hk118
    refine e_look (t := 67) hP rfl (by rw [hk118]; rfl) ?_
    refine e_ld hP rfl rfl ?_
    refine e_gR (a := 9) (w := 175) 172 (sh_172 hM) hP rfl (by decide) rfl ?_
    refine e_c hP rfl ?_
    refine e_c hP rfl ?_
    obtain ⟨hs12, h⟩ := h
    refine e_as 174 (sh_174 hM) (by decide) hP rfl hs12 ?_
    refine e_c hP rfl ?_
    refine e_st (L' := [some (.inr (.inr 173)), some (.inl p1), some (.inl (0 : Int))]) hP rfl rfl ?_
    exact h
  by_cases hk119 : p1 = 119
  · have h := h.2.2.2.2.2.1 hk119
    refine e_look (t := 31) hP rfl (by rw [hk119]; rfl) ?_
    refine e_ld hP rfl rfl ?_
    refine e_gR (a := 9) (w := 175) 172 (sh_172 hM) hP rfl (by decide) rfl ?_
    refine e_c hP rfl ?_
    refine e_ld hP rfl rfl ?_
    refine e_gR (a := 9) (w := 188) 172 (sh_172 hM) hP rfl (by decide) rfl ?_
    refine e_c hP rfl ?_
    obtain ⟨hs13, h⟩ := h
    refine e_al 187 (sh_187 hM) hP rfl hs13 ?_
    obtain ⟨hs14, h⟩ := h
    refine e_as 174 (sh_174 hM) (by decide) hP rfl hs14 ?_
    refine e_ld hP rfl rfl ?_
    refine e_gR (a := 9) (w := 188) 172 (sh_172 hM) hP rfl (by decide) rfl ?_
    refine e_c hP rfl ?_
    obtain ⟨hs15, h⟩ := h
    refine e_al 187 (sh_187 hM) hP rfl hs15 ?_
    refine e_c hP rfl ?_
    refine e_cge hP rfl (fun hc => ?_) (fun hc => ?_)
    · have h := h.1 hc
      refine e_c hP rfl ?_
      exact e_ret hP rfl rfl h
    · have h := h.2 hc
      refine e_c hP rfl ?_
      refine e_go hP rfl ?_
      exact e_ret hP rfl rfl h
  have h := h.2.2.2.2.2.2 hk99 hk103 hk110 hk111 hk118 hk119
  refine e_look (t := 98) hP rfl (by simp [bi_look, hk99, hk103, hk110, hk111, hk118, hk119]) ?_
  refine e_ld hP rfl rfl ?_
  refine e_gI (a := 9) 172 (sh_172 hM) hP rfl (by decide) ?_
  refine e_c hP rfl ?_
  refine e_cne hP rfl (fun hc => ?_) (fun hc => ?_)
  · have h := h.1 hc
    refine e_c hP rfl ?_
    exact e_ret hP rfl rfl h
  · have h := h.2 hc
    refine e_ld hP rfl rfl ?_
    refine e_gR (a := 9) (w := 175) 172 (sh_172 hM) hP rfl (by decide) rfl ?_
    refine e_c hP rfl ?_
    obtain ⟨hs16, h⟩ := h
    refine e_al 174 (sh_174 hM) hP rfl hs16 ?_
    refine e_c hP rfl ?_
    refine e_cne hP rfl (fun hc => ?_) (fun hc => ?_)
    · have h := h.1 hc
      refine e_ld hP rfl rfl ?_
      refine e_gR (a := 9) (w := 180) 172 (sh_172 hM) hP rfl (by decide) rfl ?_
      refine e_c hP rfl ?_
      refine e_c hP rfl ?_
      refine e_ld hP rfl rfl ?_
      refine e_gR (a := 9) (w := 175) 172 (sh_172 hM) hP rfl (by decide) rfl ?_
      refine e_c hP rfl ?_
      obtain ⟨hs17, h⟩ := h
      refine e_al 174 (sh_174 hM) hP rfl hs17 ?_
      obtain ⟨hs18, h⟩ := h
      refine e_mul hP rfl hs18 ?_
      obtain ⟨hs19, h⟩ := h
      refine e_add hP rfl hs19 ?_
      refine e_ld hP rfl rfl ?_
      refine e_gR (a := 9) (w := 189) 172 (sh_172 hM) hP rfl (by decide) rfl ?_
      refine e_c hP rfl ?_
      obtain ⟨hs20, h⟩ := h
      refine e_al 188 (sh_188 hM) hP rfl hs20 ?_
      obtain ⟨hs21, h⟩ := h
      refine e_as 179 (sh_179 hM) (by decide) hP rfl hs21 ?_
      refine e_ld hP rfl rfl ?_
      refine e_gR (a := 9) (w := 180) 172 (sh_172 hM) hP rfl (by decide) rfl ?_
      refine e_c hP rfl ?_
      refine e_c hP rfl ?_
      refine e_ld hP rfl rfl ?_
      refine e_gR (a := 9) (w := 175) 172 (sh_172 hM) hP rfl (by decide) rfl ?_
      refine e_c hP rfl ?_
      obtain ⟨hs22, h⟩ := h
      refine e_al 174 (sh_174 hM) hP rfl hs22 ?_
      obtain ⟨hs23, h⟩ := h
      refine e_mul hP rfl hs23 ?_
      obtain ⟨hs24, h⟩ := h
      refine e_add hP rfl hs24 ?_
      refine e_ld hP rfl rfl ?_
      refine e_gR (a := 9) (w := 189) 172 (sh_172 hM) hP rfl (by decide) rfl ?_
      refine e_c hP rfl ?_
      obtain ⟨hs25, h⟩ := h
      refine e_al 188 (sh_188 hM) hP rfl hs25 ?_
      obtain ⟨hs26, h⟩ := h
      refine e_as 179 (sh_179 hM) (by decide) hP rfl hs26 ?_
      refine e_ld hP rfl rfl ?_
      refine e_gR (a := 9) (w := 175) 172 (sh_172 hM) hP rfl (by decide) rfl ?_
      refine e_c hP rfl ?_
      refine e_dup2 hP rfl ?_
      obtain ⟨hs27, h⟩ := h
      refine e_al 174 (sh_174 hM) hP rfl hs27 ?_
      refine e_c hP rfl ?_
      obtain ⟨hs28, h⟩ := h
      refine e_add hP rfl hs28 ?_
      obtain ⟨hs29, h⟩ := h
      refine e_as 174 (sh_174 hM) (by decide) hP rfl hs29 ?_
      refine e_c hP rfl ?_
      exact e_ret hP rfl rfl h
    · have h := h.2 hc
      refine e_c hP rfl ?_
      exact e_ret hP rfl rfl h
theorem r_X9_isGood_74 {S : Shp} {M : Mem} {Q : Res → Prop} (hM : KM S) {x1 x2 : Int} (h : (((M 172 23) ≤ x2 → Q (S, M, some (.inl (1 : Int)))) ∧ (x2 < (M 172 23) → (0 ≤ (11 : Int) ∧ (11 : Int) < 12) ∧ (0 ≤ x2 ∧ x2 < 6) ∧ (0 ≤ (1 : Int) ∧ 0 ≤ (M 188 x2.toNat) ∧ (M 188 x2.toNat) < 32 ∧ inR ((1 : Int) * 2 ^ (M 188 x2.toNat).toNat)) ∧ (0 ≤ (M 174 (11 : Int).toNat) ∧ 0 ≤ ((1 : Int) * 2 ^ (M 188 x2.toNat).toNat)) ∧ (0 ≤ (11 : Int) ∧ (11 : Int) < 12) ∧ (inR (x2 + 1)) ∧ En 149 74 [some (.inr (.inr 173)), some (.inl x1), some (.inl (x2 + 1))] [] S (up2 M 174 (11 : Int).toNat ((((M 174 (11 : Int).toNat).toNat ||| ((1 : Int) * 2 ^ (M 188 x2.toNat).toNat).toNat : Nat) : Int))) Q))) : En 149 74 [some (.inr (.inr 173)), some (.inl x1), some (.inl x2)] [] S M Q := by
  have hP : PR 149 = (bc_149, 3) := rfl
  refine e_ld hP rfl rfl ?_
  refine e_ld hP rfl rfl ?_
  refine e_gI (a := 9) 172 (sh_172 hM) hP rfl (by decide) ?_
  refine e_cge hP rfl (fun hc => ?_) (fun hc => ?_)
  · have h := h.1 hc
    refine e_c hP rfl ?_
    exact e_ret hP rfl rfl h
  · have h := h.2 hc
    refine e_ld hP rfl rfl ?_
    refine e_gR (a := 9) (w := 175) 172 (sh_172 hM) hP rfl (by decide) rfl ?_
    refine e_c hP rfl ?_
    refine e_dup2 hP rfl ?_
    obtain ⟨hs1, h⟩ := h
    refine e_al 174 (sh_174 hM) hP rfl hs1 ?_
    refine e_c hP rfl ?_
    refine e_ld hP rfl rfl ?_
    refine e_gR (a := 9) (w := 189) 172 (sh_172 hM) hP rfl (by decide) rfl ?_
    refine e_ld hP rfl rfl ?_
    obtain ⟨hs2, h⟩ := h
    refine e_al 188 (sh_188 hM) hP rfl hs2 ?_
    obtain ⟨hs3, h⟩ := h
    refine e_shl hP rfl hs3 ?_
    obtain ⟨hs4, h⟩ := h
    refine e_or hP rfl hs4 ?_
    obtain ⟨hs5, h⟩ := h
    refine e_as 174 (sh_174 hM) (by decide) hP rfl hs5 ?_
    obtain ⟨hs6, h⟩ := h
    refine e_inc (L' := [some (.inr (.inr 173)), some (.inl x1), some (.inl (x2 + 1))]) hP rfl rfl hs6 rfl ?_
    refine e_go hP rfl ?_
    exact h
theorem r_X9_isPersonPut_0 {S : Shp} {M : Mem} {Q : Res → Prop} (hM : KM S) (h : (0 ≤ (6 : Int) ∧ (6 : Int) < 12) ∧ (inR ((8 : Int) + (M 174 (6 : Int).toNat))) ∧ (0 ≤ (0 : Int) ∧ (0 : Int) < 2) ∧ (0 ≤ ((8 : Int) + (M 174 (6 : Int).toNat)) ∧ ((8 : Int) + (M 174 (6 : Int).toNat)) < 16) ∧ (0 ≤ (1 : Int) ∧ (1 : Int) < 2) ∧ (0 ≤ (M 174 (6 : Int).toNat) ∧ (M 174 (6 : Int).toNat) < 8) ∧ (inR ((7 : Int) * (M 174 (6 : Int).toNat))) ∧ (0 ≤ ((7 : Int) * (M 174 (6 : Int).toNat)) ∧ ((7 : Int) * (M 174 (6 : Int).toNat)) < 56) ∧ En 150 33 [some (.inr (.inr 173)), some (.inl (M 174 (6 : Int).toNat)), some (.inl (0 : Int))] [] S (up2 (up2 (up2 M 175 ((8 : Int) + (M 174 (6 : Int).toNat)).toNat (M 187 (0 : Int).toNat)) 177 (M 174 (6 : Int).toNat).toNat ((up2 M 175 ((8 : Int) + (M 174 (6 : Int).toNat)).toNat (M 187 (0 : Int).toNat)) 187 (1 : Int).toNat)) 176 ((7 : Int) * (M 174 (6 : Int).toNat)).toNat ((up2 (up2 M 175 ((8 : Int) + (M 174 (6 : Int).toNat)).toNat (M 187 (0 : Int).toNat)) 177 (M 174 (6 : Int).toNat).toNat ((up2 M 175 ((8 : Int) + (M 174 (6 : Int).toNat)).toNat (M 187 (0 : Int).toNat)) 187 (1 : Int).toNat)) 172 23)) Q) : Ca 150 [.inr (.inr 173)] S M Q := by
  have hP : PR 150 = (bc_150, 3) := rfl
  refine ⟨Nat.le_of_ble_eq_true rfl, ?_⟩
  show En 150 0 [some (.inr (.inr 173)), none, none] [] S M Q
  refine e_ld hP rfl rfl ?_
  refine e_gR (a := 9) (w := 175) 172 (sh_172 hM) hP rfl (by decide) rfl ?_
  refine e_c hP rfl ?_
  obtain ⟨hs1, h⟩ := h
  refine e_al 174 (sh_174 hM) hP rfl hs1 ?_
  refine e_st (L' := [some (.inr (.inr 173)), some (.inl (M 174 (6 : Int).toNat)), none]) hP rfl rfl ?_
  refine e_ld hP rfl rfl ?_
  refine e_gR (a := 9) (w := 176) 172 (sh_172 hM) hP rfl (by decide) rfl ?_
  refine e_c hP rfl ?_
  refine e_ld hP rfl rfl ?_
  obtain ⟨hs2, h⟩ := h
  refine e_add hP rfl hs2 ?_
  refine e_ld hP rfl rfl ?_
  refine e_gR (a := 9) (w := 188) 172 (sh_172 hM) hP rfl (by decide) rfl ?_
  refine e_c hP rfl ?_
  obtain ⟨hs3, h⟩ := h
  refine e_al 187 (sh_187 hM) hP rfl hs3 ?_
  obtain ⟨hs4, h⟩ := h
  refine e_as 175 (sh_175 hM) (by decide) hP rfl hs4 ?_
  refine e_ld hP rfl rfl ?_
  refine e_gR (a := 9) (w := 178) 172 (sh_172 hM) hP rfl (by decide) rfl ?_
  refine e_ld hP rfl rfl ?_
  refine e_ld hP rfl rfl ?_
  refine e_gR (a := 9) (w := 188) 172 (sh_172 hM) hP rfl (by decide) rfl ?_
  refine e_c hP rfl ?_
  obtain ⟨hs5, h⟩ := h
  refine e_al 187 (sh_187 hM) hP rfl hs5 ?_
  obtain ⟨hs6, h⟩ := h
  refine e_as 177 (sh_177 hM) (by decide) hP rfl hs6 ?_
  refine e_ld hP rfl rfl ?_
  refine e_gR (a := 9) (w := 177) 172 (sh_172 hM) hP rfl (by decide) rfl ?_
  refine e_c hP rfl ?_
  refine e_ld hP rfl rfl ?_
  obtain ⟨hs7, h⟩ := h
  refine e_mul hP rfl hs7 ?_
  refine e_ld hP rfl rfl ?_
  refine e_gI (a := 9) 172 (sh_172 hM) hP rfl (by decide) ?_
  obtain ⟨hs8, h⟩ := h
  refine e_as 176 (sh_176 hM) (by decide) hP rfl hs8 ?_
  refine e_c hP rfl ?_
  refine e_st (L' := [some (.inr (.inr 173)), some (.inl (M 174 (6 : Int).toNat)), some (.inl (0 : Int))]) hP rfl rfl ?_
  exact h
theorem r_X9_isPersonPut_33 {S : Shp} {M : Mem} {Q : Res → Prop} (hM : KM S) {x1 x2 : Int} (h : (((M 172 23) ≤ x2 → (0 ≤ (6 : Int) ∧ (6 : Int) < 12) ∧ (inR ((M 174 (6 : Int).toNat) + (1 : Int))) ∧ (0 ≤ (6 : Int) ∧ (6 : Int) < 12) ∧ Q (S, up2 M 174 (6 : Int).toNat ((M 174 (6 : Int).toNat) + (1 : Int)), some (.inl (1 : Int)))) ∧ (x2 < (M 172 23) → (inR ((7 : Int) * x1)) ∧ (inR (((7 : Int) * x1) + (1 : Int))) ∧ (inR ((((7 : Int) * x1) + (1 : Int)) + x2)) ∧ (0 ≤ x2 ∧ x2 < 6) ∧ (0 ≤ ((((7 : Int) * x1) + (1 : Int)) + x2) ∧ ((((7 : Int) * x1) + (1 : Int)) + x2) < 56) ∧ (inR (x2 + 1)) ∧ En 150 33 [some (.inr (.inr 173)), some (.inl x1), some (.inl (x2 + 1))] [] S (up2 M 176 ((((7 : Int) * x1) + (1 : Int)) + x2).toNat (M 188 x2.toNat)) Q))) : En 150 33 [some (.inr (.inr 173)), some (.inl x1), some (.inl x2)] [] S M Q := by
  have hP : PR 150 = (bc_150, 3) := rfl
  refine e_ld hP rfl rfl ?_
  refine e_ld hP rfl rfl ?_
  refine e_gI (a := 9) 172 (sh_172 hM) hP rfl (by decide) ?_
  refine e_cge hP rfl (fun hc => ?_) (fun hc => ?_)
  · have h := h.1 hc
    refine e_ld hP rfl rfl ?_
    refine e_gR (a := 9) (w := 175) 172 (sh_172 hM) hP rfl (by decide) rfl ?_
    refine e_c hP rfl ?_
    refine e_dup2 hP rfl ?_
    obtain ⟨hs1, h⟩ := h
    refine e_al 174 (sh_174 hM) hP rfl hs1 ?_
    refine e_c hP rfl ?_
    obtain ⟨hs2, h⟩ := h
    refine e_add hP rfl hs2 ?_
    obtain ⟨hs3, h⟩ := h
    refine e_as 174 (sh_174 hM) (by decide) hP rfl hs3 ?_
    refine e_c hP rfl ?_
    exact e_ret hP rfl rfl h
  · have h := h.2 hc
    refine e_ld hP rfl rfl ?_
    refine e_gR (a := 9) (w := 177) 172 (sh_172 hM) hP rfl (by decide) rfl ?_
    refine e_c hP rfl ?_
    refine e_ld hP rfl rfl ?_
    obtain ⟨hs4, h⟩ := h
    refine e_mul hP rfl hs4 ?_
    refine e_c hP rfl ?_
    obtain ⟨hs5, h⟩ := h
    refine e_add hP rfl hs5 ?_
    refine e_ld hP rfl rfl ?_
    obtain ⟨hs6, h⟩ := h
    refine e_add hP rfl hs6 ?_
    refine e_ld hP rfl rfl ?_
    refine e_gR (a := 9) (w := 189) 172 (sh_172 hM) hP rfl (by decide) rfl ?_
    refine e_ld hP rfl rfl ?_
    obtain ⟨hs7, h⟩ := h
    refine e_al 188 (sh_188 hM) hP rfl hs7 ?_
    obtain ⟨hs8, h⟩ := h
    refine e_as 176 (sh_176 hM) (by decide) hP rfl hs8 ?_
    obtain ⟨hs9, h⟩ := h
    refine e_inc (L' := [some (.inr (.inr 173)), some (.inl x1), some (.inl (x2 + 1))]) hP rfl rfl hs9 rfl ?_
    refine e_go hP rfl ?_
    exact h
theorem r_X9_isOrderPut_0 {S : Shp} {M : Mem} {Q : Res → Prop} (hM : KM S) (h : En 151 4 [some (.inr (.inr 173)), some (.inl (0 : Int)), some (.inl (0 : Int)), none] [] S M Q) : Ca 151 [.inr (.inr 173)] S M Q := by
  have hP : PR 151 = (bc_151, 4) := rfl
  refine ⟨Nat.le_of_ble_eq_true rfl, ?_⟩
  show En 151 0 [some (.inr (.inr 173)), none, none, none] [] S M Q
  refine e_c hP rfl ?_
  refine e_st (L' := [some (.inr (.inr 173)), some (.inl (0 : Int)), none, none]) hP rfl rfl ?_
  refine e_c hP rfl ?_
  refine e_st (L' := [some (.inr (.inr 173)), some (.inl (0 : Int)), some (.inl (0 : Int)), none]) hP rfl rfl ?_
  exact h
theorem r_X9_isOrderPut_4 {S : Shp} {M : Mem} {Q : Res → Prop} (hM : KM S) {x1 x2 : Int} (h : (((M 172 23) ≤ x2 → En 151 44 [some (.inr (.inr 173)), some (.inl x1), some (.inl (M 172 23)), some (.inl (0 : Int))] [] S M Q) ∧ (x2 < (M 172 23) → (0 ≤ x2 ∧ x2 < 6) ∧ (0 ≤ x1 ∧ 0 ≤ (M 188 x2.toNat) ∧ (M 188 x2.toNat) < 32) ∧ (∃ z3 : Int, bi_and (x1 / 2 ^ (M 188 x2.toNat).toNat) (1 : Int) = some z3 ∧ ((z3 ≠ (1 : Int) → (0 ≤ x2 ∧ x2 < 6) ∧ (0 ≤ (1 : Int) ∧ 0 ≤ (M 188 x2.toNat) ∧ (M 188 x2.toNat) < 32 ∧ inR ((1 : Int) * 2 ^ (M 188 x2.toNat).toNat)) ∧ (0 ≤ x1 ∧ 0 ≤ ((1 : Int) * 2 ^ (M 188 x2.toNat).toNat)) ∧ (0 ≤ x2 ∧ x2 < 6) ∧ (0 ≤ (M 188 x2.toNat) ∧ (M 188 x2.toNat) < 26) ∧ (inR (x2 + 1)) ∧ En 151 4 [some (.inr (.inr 173)), some (.inl (((x1.toNat ||| ((1 : Int) * 2 ^ (M 188 x2.toNat).toNat).toNat : Nat) : Int))), some (.inl (x2 + 1)), none] [] S (up2 M 178 (M 188 x2.toNat).toNat x2) Q) ∧ (z3 = (1 : Int) → Q (S, M, some (.inl (0 : Int))))))))) : En 151 4 [some (.inr (.inr 173)), some (.inl x1), some (.inl x2), none] [] S M Q := by
  have hP : PR 151 = (bc_151, 4) := rfl
  refine e_ld hP rfl rfl ?_
  refine e_ld hP rfl rfl ?_
  refine e_gI (a := 9) 172 (sh_172 hM) hP rfl (by decide) ?_
  refine e_cge hP rfl (fun hc => ?_) (fun hc => ?_)
  · have h := h.1 hc
    refine e_ld hP rfl rfl ?_
    refine e_gI (a := 9) 172 (sh_172 hM) hP rfl (by decide) ?_
    refine e_st (L' := [some (.inr (.inr 173)), some (.inl x1), some (.inl (M 172 23)), none]) hP rfl rfl ?_
    refine e_c hP rfl ?_
    refine e_st (L' := [some (.inr (.inr 173)), some (.inl x1), some (.inl (M 172 23)), some (.inl (0 : Int))]) hP rfl rfl ?_
    exact h
  · have h := h.2 hc
    refine e_ld hP rfl rfl ?_
    refine e_ld hP rfl rfl ?_
    refine e_gR (a := 9) (w := 189) 172 (sh_172 hM) hP rfl (by decide) rfl ?_
    refine e_ld hP rfl rfl ?_
    obtain ⟨hs1, h⟩ := h
    refine e_al 188 (sh_188 hM) hP rfl hs1 ?_
    obtain ⟨hs2, h⟩ := h
    refine e_shr hP rfl hs2 ?_
    refine e_c hP rfl ?_
    obtain ⟨z3, hs4, h⟩ := h
    refine e_and hP rfl hs4 ?_
    refine e_c hP rfl ?_
    refine e_cne hP rfl (fun hc => ?_) (fun hc => ?_)
    · have h := h.1 hc
      refine e_ld hP rfl rfl ?_
      refine e_c hP rfl ?_
      refine e_ld hP rfl rfl ?_
      refine e_gR (a := 9) (w := 189) 172 (sh_172 hM) hP rfl (by decide) rfl ?_
      refine e_ld hP rfl rfl ?_
      obtain ⟨hs5, h⟩ := h
      refine e_al 188 (sh_188 hM) hP rfl hs5 ?_
      obtain ⟨hs6, h⟩ := h
      refine e_shl hP rfl hs6 ?_
      obtain ⟨hs7, h⟩ := h
      refine e_or hP rfl hs7 ?_
      refine e_st (L' := [some (.inr (.inr 173)), some (.inl (((x1.toNat ||| ((1 : Int) * 2 ^ (M 188 x2.toNat).toNat).toNat : Nat) : Int))), some (.inl x2), none]) hP rfl rfl ?_
      refine e_ld hP rfl rfl ?_
      refine e_gR (a := 9) (w := 179) 172 (sh_172 hM) hP rfl (by decide) rfl ?_
      refine e_ld hP rfl rfl ?_
      refine e_gR (a := 9) (w := 189) 172 (sh_172 hM) hP rfl (by decide) rfl ?_
      refine e_ld hP rfl rfl ?_
      obtain ⟨hs8, h⟩ := h
      refine e_al 188 (sh_188 hM) hP rfl hs8 ?_
      refine e_ld hP rfl rfl ?_
      obtain ⟨hs9, h⟩ := h
      refine e_as 178 (sh_178 hM) (by decide) hP rfl hs9 ?_
      obtain ⟨hs10, h⟩ := h
      refine e_inc (L' := [some (.inr (.inr 173)), some (.inl (((x1.toNat ||| ((1 : Int) * 2 ^ (M 188 x2.toNat).toNat).toNat : Nat) : Int))), some (.inl (x2 + 1)), none]) hP rfl rfl hs10 rfl ?_
      refine e_go hP rfl ?_
      exact h
    · have h := h.2 hc
      refine e_c hP rfl ?_
      exact e_ret hP rfl rfl h
theorem r_X9_isOrderPut_44 {S : Shp} {M : Mem} {Q : Res → Prop} (hM : KM S) {x1 x2 x3 : Int} (h : (((26 : Int) ≤ x3 → Q (S, M, some (.inl (1 : Int)))) ∧ (x3 < (26 : Int) → (0 ≤ x1 ∧ 0 ≤ x3 ∧ x3 < 32) ∧ (∃ z2 : Int, bi_and (x1 / 2 ^ x3.toNat) (1 : Int) = some z2 ∧ ((z2 ≠ 0 → (inR (x3 + 1)) ∧ En 151 44 [some (.inr (.inr 173)), some (.inl x1), some (.inl x2), some (.inl (x3 + 1))] [] S M Q) ∧ (z2 = 0 → (0 ≤ x3 ∧ x3 < 26) ∧ (inR (x2 + 1)) ∧ (inR (x3 + 1)) ∧ En 151 44 [some (.inr (.inr 173)), some (.inl x1), some (.inl (x2 + 1)), some (.inl (x3 + 1))] [] S (up2 M 178 x3.toNat x2) Q)))))) : En 151 44 [some (.inr (.inr 173)), some (.inl x1), some (.inl x2), some (.inl x3)] [] S M Q := by
  have hP : PR 151 = (bc_151, 4) := rfl
  refine e_ld hP rfl rfl ?_
  refine e_c hP rfl ?_
  refine e_cge hP rfl (fun hc => ?_) (fun hc => ?_)
  · have h := h.1 hc
    refine e_c hP rfl ?_
    exact e_ret hP rfl rfl h
  · have h := h.2 hc
    refine e_ld hP rfl rfl ?_
    refine e_ld hP rfl rfl ?_
    obtain ⟨hs1, h⟩ := h
    refine e_shr hP rfl hs1 ?_
    refine e_c hP rfl ?_
    obtain ⟨z2, hs3, h⟩ := h
    refine e_and hP rfl hs3 ?_
    refine e_zne hP rfl (fun hc => ?_) (fun hc => ?_)
    · have h := h.1 hc
      obtain ⟨hs4, h⟩ := h
      refine e_inc (L' := [some (.inr (.inr 173)), some (.inl x1), some (.inl x2), some (.inl (x3 + 1))]) hP rfl rfl hs4 rfl ?_
      refine e_go hP rfl ?_
      exact h
    · have h := h.2 hc
      refine e_ld hP rfl rfl ?_
      refine e_gR (a := 9) (w := 179) 172 (sh_172 hM) hP rfl (by decide) rfl ?_
      refine e_ld hP rfl rfl ?_
      refine e_ld hP rfl rfl ?_
      obtain ⟨hs5, h⟩ := h
      refine e_as 178 (sh_178 hM) (by decide) hP rfl hs5 ?_
      obtain ⟨hs6, h⟩ := h
      refine e_inc (L' := [some (.inr (.inr 173)), some (.inl x1), some (.inl (x2 + 1)), some (.inl x3)]) hP rfl rfl hs6 rfl ?_
      obtain ⟨hs7, h⟩ := h
      refine e_inc (L' := [some (.inr (.inr 173)), some (.inl x1), some (.inl (x2 + 1)), some (.inl (x3 + 1))]) hP rfl rfl hs7 rfl ?_
      refine e_go hP rfl ?_
      exact h
theorem r_X9_begins_0 {S : Shp} {M : Mem} {Q : Res → Prop} (hM : KM S) (h : (0 ≤ (6 : Int) ∧ (6 : Int) < 12) ∧ (0 ≤ (7 : Int) ∧ (7 : Int) < 12) ∧ (0 ≤ (8 : Int) ∧ (8 : Int) < 12) ∧ (0 ≤ (9 : Int) ∧ (9 : Int) < 12) ∧ (0 ≤ (10 : Int) ∧ (10 : Int) < 12) ∧ (0 ≤ (11 : Int) ∧ (11 : Int) < 12) ∧ En 152 32 [some (.inr (.inr 173)), some (.inl (0 : Int))] [] S (up2 (up2 (up2 (up2 (up2 (up2 M 174 (6 : Int).toNat (0 : Int)) 174 (7 : Int).toNat (20 : Int)) 174 (8 : Int).toNat (3 : Int)) 174 (9 : Int).toNat (1 : Int)) 174 (10 : Int).toNat (0 : Int)) 174 (11 : Int).toNat (1065233 : Int)) Q) : Ca 152 [.inr (.inr 173)] S M Q := by
  have hP : PR 152 = (bc_152, 2) := rfl
  refine ⟨Nat.le_of_ble_eq_true rfl, ?_⟩
  show En 152 0 [some (.inr (.inr 173)), none] [] S M Q
  refine e_ld hP rfl rfl ?_
  refine e_gR (a := 9) (w := 175) 172 (sh_172 hM) hP rfl (by decide) rfl ?_
  refine e_c hP rfl ?_
  refine e_c hP rfl ?_
  obtain ⟨hs1, h⟩ := h
  refine e_as 174 (sh_174 hM) (by decide) hP rfl hs1 ?_
  refine e_ld hP rfl rfl ?_
  refine e_gR (a := 9) (w := 175) 172 (sh_172 hM) hP rfl (by decide) rfl ?_
  refine e_c hP rfl ?_
  refine e_c hP rfl ?_
  obtain ⟨hs2, h⟩ := h
  refine e_as 174 (sh_174 hM) (by decide) hP rfl hs2 ?_
  refine e_ld hP rfl rfl ?_
  refine e_gR (a := 9) (w := 175) 172 (sh_172 hM) hP rfl (by decide) rfl ?_
  refine e_c hP rfl ?_
  refine e_c hP rfl ?_
  obtain ⟨hs3, h⟩ := h
  refine e_as 174 (sh_174 hM) (by decide) hP rfl hs3 ?_
  refine e_ld hP rfl rfl ?_
  refine e_gR (a := 9) (w := 175) 172 (sh_172 hM) hP rfl (by decide) rfl ?_
  refine e_c hP rfl ?_
  refine e_c hP rfl ?_
  obtain ⟨hs4, h⟩ := h
  refine e_as 174 (sh_174 hM) (by decide) hP rfl hs4 ?_
  refine e_ld hP rfl rfl ?_
  refine e_gR (a := 9) (w := 175) 172 (sh_172 hM) hP rfl (by decide) rfl ?_
  refine e_c hP rfl ?_
  refine e_c hP rfl ?_
  obtain ⟨hs5, h⟩ := h
  refine e_as 174 (sh_174 hM) (by decide) hP rfl hs5 ?_
  refine e_ld hP rfl rfl ?_
  refine e_gR (a := 9) (w := 175) 172 (sh_172 hM) hP rfl (by decide) rfl ?_
  refine e_c hP rfl ?_
  refine e_c hP rfl ?_
  obtain ⟨hs6, h⟩ := h
  refine e_as 174 (sh_174 hM) (by decide) hP rfl hs6 ?_
  refine e_c hP rfl ?_
  refine e_st (L' := [some (.inr (.inr 173)), some (.inl (0 : Int))]) hP rfl rfl ?_
  exact h
theorem r_X9_begins_32 {S : Shp} {M : Mem} {Q : Res → Prop} (hM : KM S) {x1 : Int} (h : (((26 : Int) ≤ x1 → Q (S, M, none)) ∧ (x1 < (26 : Int) → (0 ≤ x1 ∧ x1 < 26) ∧ (inR (x1 + 1)) ∧ En 152 32 [some (.inr (.inr 173)), some (.inl (x1 + 1))] [] S (up2 M 178 x1.toNat x1) Q))) : En 152 32 [some (.inr (.inr 173)), some (.inl x1)] [] S M Q := by
  have hP : PR 152 = (bc_152, 2) := rfl
  refine e_ld hP rfl rfl ?_
  refine e_c hP rfl ?_
  refine e_cge hP rfl (fun hc => ?_) (fun hc => ?_)
  · have h := h.1 hc
    exact e_retv hP rfl h
  · have h := h.2 hc
    refine e_ld hP rfl rfl ?_
    refine e_gR (a := 9) (w := 179) 172 (sh_172 hM) hP rfl (by decide) rfl ?_
    refine e_ld hP rfl rfl ?_
    refine e_ld hP rfl rfl ?_
    obtain ⟨hs1, h⟩ := h
    refine e_as 178 (sh_178 hM) (by decide) hP rfl hs1 ?_
    obtain ⟨hs2, h⟩ := h
    refine e_inc (L' := [some (.inr (.inr 173)), some (.inl (x1 + 1))]) hP rfl rfl hs2 rfl ?_
    refine e_go hP rfl ?_
    exact h
theorem r_X9_takes_0 {S : Shp} {M : Mem} {Q : Res → Prop} (hM : KM S) (h : En 153 2 [some (.inr (.inr 173)), some (.inl (0 : Int)), none] [] S M Q) : Ca 153 [.inr (.inr 173)] S M Q := by
  have hP : PR 153 = (bc_153, 3) := rfl
  refine ⟨Nat.le_of_ble_eq_true rfl, ?_⟩
  show En 153 0 [some (.inr (.inr 173)), none, none] [] S M Q
  refine e_c hP rfl ?_
  refine e_st (L' := [some (.inr (.inr 173)), some (.inl (0 : Int)), none]) hP rfl rfl ?_
  exact h
theorem r_X9_takes_2 {S : Shp} {M : Mem} {Q : Res → Prop} (hM : KM S) {x1 : Int} (h : (((6 : Int) ≤ x1 → En 153 19 [some (.inr (.inr 173)), some (.inl (0 : Int)), none] [] S M Q) ∧ (x1 < (6 : Int) → (inR ((6 : Int) + x1)) ∧ (0 ≤ ((6 : Int) + x1) ∧ ((6 : Int) + x1) < 12) ∧ (0 ≤ x1 ∧ x1 < 12) ∧ (inR (x1 + 1)) ∧ En 153 2 [some (.inr (.inr 173)), some (.inl (x1 + 1)), none] [] S (up2 M 174 x1.toNat (M 174 ((6 : Int) + x1).toNat)) Q))) : En 153 2 [some (.inr (.inr 173)), some (.inl x1), none] [] S M Q := by
  have hP : PR 153 = (bc_153, 3) := rfl
  refine e_ld hP rfl rfl ?_
  refine e_c hP rfl ?_
  refine e_cge hP rfl (fun hc => ?_) (fun hc => ?_)
  · have h := h.1 hc
    refine e_c hP rfl ?_
    refine e_st (L' := [some (.inr (.inr 173)), some (.inl (0 : Int)), none]) hP rfl rfl ?_
    exact h
  · have h := h.2 hc
    refine e_ld hP rfl rfl ?_
    refine e_gR (a := 9) (w := 175) 172 (sh_172 hM) hP rfl (by decide) rfl ?_
    refine e_ld hP rfl rfl ?_
    refine e_ld hP rfl rfl ?_
    refine e_gR (a := 9) (w := 175) 172 (sh_172 hM) hP rfl (by decide) rfl ?_
    refine e_c hP rfl ?_
    refine e_ld hP rfl rfl ?_
    obtain ⟨hs1, h⟩ := h
    refine e_add hP rfl hs1 ?_
    obtain ⟨hs2, h⟩ := h
    refine e_al 174 (sh_174 hM) hP rfl hs2 ?_
    obtain ⟨hs3, h⟩ := h
    refine e_as 174 (sh_174 hM) (by decide) hP rfl hs3 ?_
    obtain ⟨hs4, h⟩ := h
    refine e_inc (L' := [some (.inr (.inr 173)), some (.inl (x1 + 1)), none]) hP rfl rfl hs4 rfl ?_
    refine e_go hP rfl ?_
    exact h
theorem r_X9_takes_19 {S : Shp} {M : Mem} {Q : Res → Prop} (hM : KM S) {x1 : Int} (h : (((12 : Int) ≤ x1 → En 153 49 [some (.inr (.inr 173)), some (.inl (0 : Int)), none] [] S M Q) ∧ (x1 < (12 : Int) → (inR ((12 : Int) + x1)) ∧ (0 ≤ ((12 : Int) + x1) ∧ ((12 : Int) + x1) < 24) ∧ (0 ≤ x1 ∧ x1 < 24) ∧ (((8 : Int) ≤ x1 → (inR (x1 + 1)) ∧ En 153 19 [some (.inr (.inr 173)), some (.inl (x1 + 1)), none] [] S (up2 M 179 x1.toNat (M 179 ((12 : Int) + x1).toNat)) Q) ∧ (x1 < (8 : Int) → (inR ((8 : Int) + x1)) ∧ (0 ≤ ((8 : Int) + x1) ∧ ((8 : Int) + x1) < 16) ∧ (0 ≤ x1 ∧ x1 < 16) ∧ (inR (x1 + 1)) ∧ En 153 19 [some (.inr (.inr 173)), some (.inl (x1 + 1)), none] [] S (up2 (up2 M 179 x1.toNat (M 179 ((12 : Int) + x1).toNat)) 175 x1.toNat ((up2 M 179 x1.toNat (M 179 ((12 : Int) + x1).toNat)) 175 ((8 : Int) + x1).toNat)) Q))))) : En 153 19 [some (.inr (.inr 173)), some (.inl x1), none] [] S M Q := by
  have hP : PR 153 = (bc_153, 3) := rfl
  refine e_ld hP rfl rfl ?_
  refine e_c hP rfl ?_
  refine e_cge hP rfl (fun hc => ?_) (fun hc => ?_)
  · have h := h.1 hc
    refine e_c hP rfl ?_
    refine e_st (L' := [some (.inr (.inr 173)), some (.inl (0 : Int)), none]) hP rfl rfl ?_
    exact h
  · have h := h.2 hc
    refine e_ld hP rfl rfl ?_
    refine e_gR (a := 9) (w := 180) 172 (sh_172 hM) hP rfl (by decide) rfl ?_
    refine e_ld hP rfl rfl ?_
    refine e_ld hP rfl rfl ?_
    refine e_gR (a := 9) (w := 180) 172 (sh_172 hM) hP rfl (by decide) rfl ?_
    refine e_c hP rfl ?_
    refine e_ld hP rfl rfl ?_
    obtain ⟨hs1, h⟩ := h
    refine e_add hP rfl hs1 ?_
    obtain ⟨hs2, h⟩ := h
    refine e_al 179 (sh_179 hM) hP rfl hs2 ?_
    obtain ⟨hs3, h⟩ := h
    refine e_as 179 (sh_179 hM) (by decide) hP rfl hs3 ?_
    refine e_ld hP rfl rfl ?_
    refine e_c hP rfl ?_
    refine e_cge hP rfl (fun hc => ?_) (fun hc => ?_)
    · have h := h.1 hc
      obtain ⟨hs4, h⟩ := h
      refine e_inc (L' := [some (.inr (.inr 173)), some (.inl (x1 + 1)), none]) hP rfl rfl hs4 rfl ?_
      refine e_go hP rfl ?_
      exact h
    · have h := h.2 hc
      refine e_ld hP rfl rfl ?_
      refine e_gR (a := 9) (w := 176) 172 (sh_172 hM) hP rfl (by decide) rfl ?_
      refine e_ld hP rfl rfl ?_
      refine e_ld hP rfl rfl ?_
      refine e_gR (a := 9) (w := 176) 172 (sh_172 hM) hP rfl (by decide) rfl ?_
      refine e_c hP rfl ?_
      refine e_ld hP rfl rfl ?_
      obtain ⟨hs5, h⟩ := h
      refine e_add hP rfl hs5 ?_
      obtain ⟨hs6, h⟩ := h
      refine e_al 175 (sh_175 hM) hP rfl hs6 ?_
      obtain ⟨hs7, h⟩ := h
      refine e_as 175 (sh_175 hM) (by decide) hP rfl hs7 ?_
      obtain ⟨hs8, h⟩ := h
      refine e_inc (L' := [some (.inr (.inr 173)), some (.inl (x1 + 1)), none]) hP rfl rfl hs8 rfl ?_
      refine e_go hP rfl ?_
      exact h
theorem r_X9_takes_49 {S : Shp} {M : Mem} {Q : Res → Prop} (hM : KM S) {x1 : Int} (h : (((170 : Int) ≤ x1 → En 153 61 [some (.inr (.inr 173)), some (.inl (0 : Int)), none] [] S M Q) ∧ (x1 < (170 : Int) → (0 ≤ x1 ∧ x1 < 2040) ∧ (inR (x1 + 1)) ∧ En 153 49 [some (.inr (.inr 173)), some (.inl (x1 + 1)), none] [] S (up2 M 180 x1.toNat (0 : Int)) Q))) : En 153 49 [some (.inr (.inr 173)), some (.inl x1), none] [] S M Q := by
  have hP : PR 153 = (bc_153, 3) := rfl
  refine e_ld hP rfl rfl ?_
  refine e_c hP rfl ?_
  refine e_cge hP rfl (fun hc => ?_) (fun hc => ?_)
  · have h := h.1 hc
    refine e_c hP rfl ?_
    refine e_st (L' := [some (.inr (.inr 173)), some (.inl (0 : Int)), none]) hP rfl rfl ?_
    exact h
  · have h := h.2 hc
    refine e_ld hP rfl rfl ?_
    refine e_gR (a := 9) (w := 181) 172 (sh_172 hM) hP rfl (by decide) rfl ?_
    refine e_ld hP rfl rfl ?_
    refine e_c hP rfl ?_
    obtain ⟨hs1, h⟩ := h
    refine e_as 180 (sh_180 hM) (by decide) hP rfl hs1 ?_
    obtain ⟨hs2, h⟩ := h
    refine e_inc (L' := [some (.inr (.inr 173)), some (.inl (x1 + 1)), none]) hP rfl rfl hs2 rfl ?_
    refine e_go hP rfl ?_
    exact h
theorem r_X9_takes_61 {S : Shp} {M : Mem} {Q : Res → Prop} (hM : KM S) {x1 : Int} (h : (0 ≤ (0 : Int) ∧ (0 : Int) < 12) ∧ (((M 174 (0 : Int).toNat) ≤ x1 → En 153 121 [some (.inr (.inr 173)), some (.inl (0 : Int)), none] [] S M Q) ∧ (x1 < (M 174 (0 : Int).toNat) → (inR ((7 : Int) * x1)) ∧ (0 ≤ ((7 : Int) * x1) ∧ ((7 : Int) * x1) < 56) ∧ (0 ≤ x1 ∧ x1 < 2040) ∧ (inR ((56 : Int) + x1)) ∧ (0 ≤ x1 ∧ x1 < 8) ∧ (0 ≤ ((56 : Int) + x1) ∧ ((56 : Int) + x1) < 2040) ∧ En 153 89 [some (.inr (.inr 173)), some (.inl x1), some (.inl (0 : Int))] [] S (up2 (up2 M 180 x1.toNat (M 176 ((7 : Int) * x1).toNat)) 180 ((56 : Int) + x1).toNat ((up2 M 180 x1.toNat (M 176 ((7 : Int) * x1).toNat)) 177 x1.toNat)) Q))) : En 153 61 [some (.inr (.inr 173)), some (.inl x1), none] [] S M Q := by
  have hP : PR 153 = (bc_153, 3) := rfl
  refine e_ld hP rfl rfl ?_
  refine e_ld hP rfl rfl ?_
  refine e_gR (a := 9) (w := 175) 172 (sh_172 hM) hP rfl (by decide) rfl ?_
  refine e_c hP rfl ?_
  obtain ⟨hs1, h⟩ := h
  refine e_al 174 (sh_174 hM) hP rfl hs1 ?_
  refine e_cge hP rfl (fun hc => ?_) (fun hc => ?_)
  · have h := h.1 hc
    refine e_c hP rfl ?_
    refine e_st (L' := [some (.inr (.inr 173)), some (.inl (0 : Int)), none]) hP rfl rfl ?_
    exact h
  · have h := h.2 hc
    refine e_ld hP rfl rfl ?_
    refine e_gR (a := 9) (w := 181) 172 (sh_172 hM) hP rfl (by decide) rfl ?_
    refine e_ld hP rfl rfl ?_
    refine e_ld hP rfl rfl ?_
    refine e_gR (a := 9) (w := 177) 172 (sh_172 hM) hP rfl (by decide) rfl ?_
    refine e_c hP rfl ?_
    refine e_ld hP rfl rfl ?_
    obtain ⟨hs2, h⟩ := h
    refine e_mul hP rfl hs2 ?_
    obtain ⟨hs3, h⟩ := h
    refine e_al 176 (sh_176 hM) hP rfl hs3 ?_
    obtain ⟨hs4, h⟩ := h
    refine e_as 180 (sh_180 hM) (by decide) hP rfl hs4 ?_
    refine e_ld hP rfl rfl ?_
    refine e_gR (a := 9) (w := 181) 172 (sh_172 hM) hP rfl (by decide) rfl ?_
    refine e_c hP rfl ?_
    refine e_ld hP rfl rfl ?_
    obtain ⟨hs5, h⟩ := h
    refine e_add hP rfl hs5 ?_
    refine e_ld hP rfl rfl ?_
    refine e_gR (a := 9) (w := 178) 172 (sh_172 hM) hP rfl (by decide) rfl ?_
    refine e_ld hP rfl rfl ?_
    obtain ⟨hs6, h⟩ := h
    refine e_al 177 (sh_177 hM) hP rfl hs6 ?_
    obtain ⟨hs7, h⟩ := h
    refine e_as 180 (sh_180 hM) (by decide) hP rfl hs7 ?_
    refine e_c hP rfl ?_
    refine e_st (L' := [some (.inr (.inr 173)), some (.inl x1), some (.inl (0 : Int))]) hP rfl rfl ?_
    exact h
theorem r_X9_takes_89 {S : Shp} {M : Mem} {Q : Res → Prop} (hM : KM S) {x1 x2 : Int} (h : (0 ≤ x1 ∧ x1 < 2040) ∧ (((M 180 x1.toNat) ≤ x2 → (inR (x1 + 1)) ∧ En 153 61 [some (.inr (.inr 173)), some (.inl (x1 + 1)), none] [] S M Q) ∧ (x2 < (M 180 x1.toNat) → (inR ((6 : Int) * x1)) ∧ (inR ((8 : Int) + ((6 : Int) * x1))) ∧ (inR (((8 : Int) + ((6 : Int) * x1)) + x2)) ∧ (inR ((7 : Int) * x1)) ∧ (inR (((7 : Int) * x1) + (1 : Int))) ∧ (inR ((((7 : Int) * x1) + (1 : Int)) + x2)) ∧ (0 ≤ ((((7 : Int) * x1) + (1 : Int)) + x2) ∧ ((((7 : Int) * x1) + (1 : Int)) + x2) < 56) ∧ (0 ≤ (((8 : Int) + ((6 : Int) * x1)) + x2) ∧ (((8 : Int) + ((6 : Int) * x1)) + x2) < 2040) ∧ (inR (x2 + 1)) ∧ En 153 89 [some (.inr (.inr 173)), some (.inl x1), some (.inl (x2 + 1))] [] S (up2 M 180 (((8 : Int) + ((6 : Int) * x1)) + x2).toNat (M 176 ((((7 : Int) * x1) + (1 : Int)) + x2).toNat)) Q))) : En 153 89 [some (.inr (.inr 173)), some (.inl x1), some (.inl x2)] [] S M Q := by
  have hP : PR 153 = (bc_153, 3) := rfl
  refine e_ld hP rfl rfl ?_
  refine e_ld hP rfl rfl ?_
  refine e_gR (a := 9) (w := 181) 172 (sh_172 hM) hP rfl (by decide) rfl ?_
  refine e_ld hP rfl rfl ?_
  obtain ⟨hs1, h⟩ := h
  refine e_al 180 (sh_180 hM) hP rfl hs1 ?_
  refine e_cge hP rfl (fun hc => ?_) (fun hc => ?_)
  · have h := h.1 hc
    obtain ⟨hs2, h⟩ := h
    refine e_inc (L' := [some (.inr (.inr 173)), some (.inl (x1 + 1)), some (.inl x2)]) hP rfl rfl hs2 rfl ?_
    refine e_go hP rfl ?_
    exact en_fg h ⟨Or.inr rfl, Or.inr rfl, Or.inl rfl, trivial⟩
  · have h := h.2 hc
    refine e_ld hP rfl rfl ?_
    refine e_gR (a := 9) (w := 181) 172 (sh_172 hM) hP rfl (by decide) rfl ?_
    refine e_c hP rfl ?_
    refine e_c hP rfl ?_
    refine e_ld hP rfl rfl ?_
    obtain ⟨hs3, h⟩ := h
    refine e_mul hP rfl hs3 ?_
    obtain ⟨hs4, h⟩ := h
    refine e_add hP rfl hs4 ?_
    refine e_ld hP rfl rfl ?_
    obtain ⟨hs5, h⟩ := h
    refine e_add hP rfl hs5 ?_
    refine e_ld hP rfl rfl ?_
    refine e_gR (a := 9) (w := 177) 172 (sh_172 hM) hP rfl (by decide) rfl ?_
    refine e_c hP rfl ?_
    refine e_ld hP rfl rfl ?_
    obtain ⟨hs6, h⟩ := h
    refine e_mul hP rfl hs6 ?_
    refine e_c hP rfl ?_
    obtain ⟨hs7, h⟩ := h
    refine e_add hP rfl hs7 ?_
    refine e_ld hP rfl rfl ?_
    obtain ⟨hs8, h⟩ := h
    refine e_add hP rfl hs8 ?_
    obtain ⟨hs9, h⟩ := h
    refine e_al 176 (sh_176 hM) hP rfl hs9 ?_
    obtain ⟨hs10, h⟩ := h
    refine e_as 180 (sh_180 hM) (by decide) hP rfl hs10 ?_
    obtain ⟨hs11, h⟩ := h
    refine e_inc (L' := [some (.inr (.inr 173)), some (.inl x1), some (.inl (x2 + 1))]) hP rfl rfl hs11 rfl ?_
    refine e_go hP rfl ?_
    exact h
theorem r_X9_takes_121 {S : Shp} {M : Mem} {Q : Res → Prop} (hM : KM S) {x1 : Int} (h : (((26 : Int) ≤ x1 → Q (S, up2 (up2 (up2 (up2 M 172 12 (0 : Int)) 172 14 (0 : Int)) 172 11 (0 : Int)) 172 10 (0 : Int), none)) ∧ (x1 < (26 : Int) → (inR ((144 : Int) + x1)) ∧ (0 ≤ x1 ∧ x1 < 26) ∧ (0 ≤ ((144 : Int) + x1) ∧ ((144 : Int) + x1) < 2040) ∧ (inR (x1 + 1)) ∧ En 153 121 [some (.inr (.inr 173)), some (.inl (x1 + 1)), none] [] S (up2 M 180 ((144 : Int) + x1).toNat (M 178 x1.toNat)) Q))) : En 153 121 [some (.inr (.inr 173)), some (.inl x1), none] [] S M Q := by
  have hP : PR 153 = (bc_153, 3) := rfl
  refine e_ld hP rfl rfl ?_
  refine e_c hP rfl ?_
  refine e_cge hP rfl (fun hc => ?_) (fun hc => ?_)
  · have h := h.1 hc
    refine e_ld hP rfl rfl ?_
    refine e_c hP rfl ?_
    refine e_pI (a := 9) 172 (sh_172 hM) (by decide) hP rfl (by decide) ?_
    refine e_ld hP rfl rfl ?_
    refine e_c hP rfl ?_
    refine e_pI (a := 9) 172 (sh_172 hM) (by decide) hP rfl (by decide) ?_
    refine e_ld hP rfl rfl ?_
    refine e_c hP rfl ?_
    refine e_pI (a := 9) 172 (sh_172 hM) (by decide) hP rfl (by decide) ?_
    refine e_ld hP rfl rfl ?_
    refine e_c hP rfl ?_
    refine e_pI (a := 9) 172 (sh_172 hM) (by decide) hP rfl (by decide) ?_
    exact e_retv hP rfl h
  · have h := h.2 hc
    refine e_ld hP rfl rfl ?_
    refine e_gR (a := 9) (w := 181) 172 (sh_172 hM) hP rfl (by decide) rfl ?_
    refine e_c hP rfl ?_
    refine e_ld hP rfl rfl ?_
    obtain ⟨hs1, h⟩ := h
    refine e_add hP rfl hs1 ?_
    refine e_ld hP rfl rfl ?_
    refine e_gR (a := 9) (w := 179) 172 (sh_172 hM) hP rfl (by decide) rfl ?_
    refine e_ld hP rfl rfl ?_
    obtain ⟨hs2, h⟩ := h
    refine e_al 178 (sh_178 hM) hP rfl hs2 ?_
    obtain ⟨hs3, h⟩ := h
    refine e_as 180 (sh_180 hM) (by decide) hP rfl hs3 ?_
    obtain ⟨hs4, h⟩ := h
    refine e_inc (L' := [some (.inr (.inr 173)), some (.inl (x1 + 1)), none]) hP rfl rfl hs4 rfl ?_
    refine e_go hP rfl ?_
    exact h
theorem r_X9_fault_0 {S : Shp} {M : Mem} {Q : Res → Prop} (hM : KM S) (h : Ca 152 [.inr (.inr 173)] S (up2 M 172 2 (0 : Int)) (fun r => ∃ M1 : Mem, r = (S, M1, none) ∧ En 154 5 [some (.inr (.inr 173)), none] [] S M1 Q)) : Ca 154 [.inr (.inr 173)] S M Q := by
  have hP : PR 154 = (bc_154, 2) := rfl
  refine ⟨Nat.le_of_ble_eq_true rfl, ?_⟩
  show En 154 0 [some (.inr (.inr 173)), none] [] S M Q
  refine e_ld hP rfl rfl ?_
  refine e_c hP rfl ?_
  refine e_pI (a := 9) 172 (sh_172 hM) (by decide) hP rfl (by decide) ?_
  refine e_ld hP rfl rfl ?_
  refine e_call hP rfl rfl rfl (Nat.le_of_ble_eq_true rfl) (Nat.le_of_ble_eq_true rfl) (rcv0 (sh_172 hM) (by decide)) ?_
  refine Ca.mono h (fun r hr => ?_)
  obtain ⟨M1, rfl, h⟩ := hr
  show En 154 5 [some (.inr (.inr 173)), none] [] S M1 Q
  exact h
theorem r_X9_fault_5 {S : Shp} {M : Mem} {Q : Res → Prop} (hM : KM S) (h : (((M 172 0) ≤ (M 172 2) → Q (S, M, some (.inl (-4 : Int)))) ∧ ((M 172 2) < (M 172 0) → Ca 148 [.inr (.inr 173)] S M (fun r => ∃ (M1 : Mem) (v2 : Int), r = (S, M1, some (.inl v2)) ∧ ((v2 ≠ 0 → En 154 5 [some (.inr (.inr 173)), none] [] S M1 Q) ∧ (v2 = 0 → Q (S, M1, some (.inl (M 172 2))))))))) : En 154 5 [some (.inr (.inr 173)), none] [] S M Q := by
  have hP : PR 154 = (bc_154, 2) := rfl
  refine e_ld hP rfl rfl ?_
  refine e_gI (a := 9) 172 (sh_172 hM) hP rfl (by decide) ?_
  refine e_ld hP rfl rfl ?_
  refine e_gI (a := 9) 172 (sh_172 hM) hP rfl (by decide) ?_
  refine e_cge hP rfl (fun hc => ?_) (fun hc => ?_)
  · have h := h.1 hc
    refine e_c hP rfl ?_
    exact e_ret hP rfl rfl h
  · have h := h.2 hc
    refine e_ld hP rfl rfl ?_
    refine e_gI (a := 9) 172 (sh_172 hM) hP rfl (by decide) ?_
    refine e_st (L' := [some (.inr (.inr 173)), some (.inl (M 172 2))]) hP rfl rfl ?_
    refine e_ld hP rfl rfl ?_
    refine e_call hP rfl rfl rfl (Nat.le_of_ble_eq_true rfl) (Nat.le_of_ble_eq_true rfl) (rcv0 (sh_172 hM) (by decide)) ?_
    refine Ca.mono h (fun r hr => ?_)
    obtain ⟨M1, v2, rfl, h⟩ := hr
    show En 154 15 [some (.inr (.inr 173)), some (.inl (M 172 2))] [.inl v2] S M1 Q
    refine e_zne hP rfl (fun hc => ?_) (fun hc => ?_)
    · have h := h.1 hc
      refine e_go hP rfl ?_
      exact en_fg h ⟨Or.inr rfl, Or.inl rfl, trivial⟩
    · have h := h.2 hc
      refine e_ld hP rfl rfl ?_
      exact e_ret hP rfl rfl h
theorem r_X9_lay_0 {S : Shp} {M : Mem} {Q : Res → Prop} (hM : KM S) (h : Ca 154 [.inr (.inr 173)] S M (fun r => ∃ (M1 : Mem) (v2 : Int), r = (S, M1, some (.inl v2)) ∧ ((v2 ≠ (-4 : Int) → Q (S, M1, some (.inl (-2 : Int)))) ∧ (v2 = (-4 : Int) → (0 ≤ (6 : Int) ∧ (6 : Int) < 12) ∧ (((M1 174 (6 : Int).toNat) ≠ 0 → Ca 153 [.inr (.inr 173)] S M1 (fun r => ∃ M4 : Mem, r = (S, M4, none) ∧ (0 ≤ (0 : Int) ∧ (0 : Int) < 12) ∧ Q (S, M4, some (.inl (M4 174 (0 : Int).toNat))))) ∧ ((M1 174 (6 : Int).toNat) = 0 → Q (S, M1, some (.inl (-2 : Int))))))))) : Ca 155 [.inr (.inr 173)] S M Q := by
  have hP : PR 155 = (bc_155, 1) := rfl
  refine ⟨Nat.le_of_ble_eq_true rfl, ?_⟩
  show En 155 0 [some (.inr (.inr 173))] [] S M Q
  refine e_ld hP rfl rfl ?_
  refine e_call hP rfl rfl rfl (Nat.le_of_ble_eq_true rfl) (Nat.le_of_ble_eq_true rfl) (rcv0 (sh_172 hM) (by decide)) ?_
  refine Ca.mono h (fun r hr => ?_)
  obtain ⟨M1, v2, rfl, h⟩ := hr
  show En 155 2 [some (.inr (.inr 173))] [.inl v2] S M1 Q
  refine e_c hP rfl ?_
  refine e_cne hP rfl (fun hc => ?_) (fun hc => ?_)
  · have h := h.1 hc
    refine e_c hP rfl ?_
    exact e_ret hP rfl rfl h
  · have h := h.2 hc
    refine e_ld hP rfl rfl ?_
    refine e_gR (a := 9) (w := 175) 172 (sh_172 hM) hP rfl (by decide) rfl ?_
    refine e_c hP rfl ?_
    obtain ⟨hs3, h⟩ := h
    refine e_al 174 (sh_174 hM) hP rfl hs3 ?_
    refine e_zne hP rfl (fun hc => ?_) (fun hc => ?_)
    · have h := h.1 hc
      refine e_ld hP rfl rfl ?_
      refine e_call hP rfl rfl rfl (Nat.le_of_ble_eq_true rfl) (Nat.le_of_ble_eq_true rfl) (rcv0 (sh_172 hM) (by decide)) ?_
      refine Ca.mono h (fun r hr => ?_)
      obtain ⟨M4, rfl, h⟩ := hr
      show En 155 13 [some (.inr (.inr 173))] [] S M4 Q
      refine e_ld hP rfl rfl ?_
      refine e_gR (a := 9) (w := 175) 172 (sh_172 hM) hP rfl (by decide) rfl ?_
      refine e_c hP rfl ?_
      obtain ⟨hs5, h⟩ := h
      refine e_al 174 (sh_174 hM) hP rfl hs5 ?_
      exact e_ret hP rfl rfl h
    · have h := h.2 hc
      refine e_c hP rfl ?_
      exact e_ret hP rfl rfl h
theorem r_X9_isPerson_0 {S : Shp} {M : Mem} {Q : Res → Prop} (hM : KM S) {p1 : Int} (h : (0 ≤ (0 : Int) ∧ (0 : Int) < 12) ∧ (inR ((M 174 (0 : Int).toNat) - (1 : Int))) ∧ Ca 140 [.inr (.inl p1), .inr (.inl (0 : Int)), .inr (.inl ((M 174 (0 : Int).toNat) - (1 : Int)))] S M (fun r => ∃ (M3 : Mem) (v4 : Int), r = (S, M3, some (.inl v4)) ∧ (v4 = 0 ∨ v4 = 1) ∧ Q (S, M3, some (.inl v4)))) : Ca 156 [.inr (.inr 173), .inl p1] S M Q := by
  have hP : PR 156 = (bc_156, 2) := rfl
  refine ⟨Nat.le_of_ble_eq_true rfl, ?_⟩
  show En 156 0 [some (.inr (.inr 173)), some (.inl p1)] [] S M Q
  refine e_ld hP rfl rfl ?_
  refine e_i2l hP rfl ?_
  refine e_lc hP rfl ?_
  refine e_ld hP rfl rfl ?_
  refine e_gR (a := 9) (w := 175) 172 (sh_172 hM) hP rfl (by decide) rfl ?_
  refine e_c hP rfl ?_
  obtain ⟨hs1, h⟩ := h
  refine e_al 174 (sh_174 hM) hP rfl hs1 ?_
  refine e_c hP rfl ?_
  obtain ⟨hs2, h⟩ := h
  refine e_sub hP rfl hs2 ?_
  refine e_i2l hP rfl ?_
  refine e_call hP rfl rfl rfl (Nat.le_of_ble_eq_true rfl) (Nat.le_of_ble_eq_true rfl) rcv1 ?_
  refine Ca.mono h (fun r hr => ?_)
  obtain ⟨M3, v4, rfl, h⟩ := hr
  show En 156 11 [some (.inr (.inr 173)), some (.inl p1)] [.inl v4] S M3 Q
  exact e_ret hP rfl (decide_eq_true h.1) h.2
theorem r_X9_isLetter_0 {S : Shp} {M : Mem} {Q : Res → Prop} (hM : KM S) {p1 : Int} (h : Ca 140 [.inr (.inl p1), .inr (.inl (0 : Int)), .inr (.inl (25 : Int))] S M (fun r => ∃ (M1 : Mem) (v2 : Int), r = (S, M1, some (.inl v2)) ∧ (v2 = 0 ∨ v2 = 1) ∧ Q (S, M1, some (.inl v2)))) : Ca 157 [.inl p1] S M Q := by
  have hP : PR 157 = (bc_157, 1) := rfl
  refine ⟨Nat.le_of_ble_eq_true rfl, ?_⟩
  show En 157 0 [some (.inl p1)] [] S M Q
  refine e_ld hP rfl rfl ?_
  refine e_i2l hP rfl ?_
  refine e_lc hP rfl ?_
  refine e_lc hP rfl ?_
  refine e_call hP rfl rfl rfl (Nat.le_of_ble_eq_true rfl) (Nat.le_of_ble_eq_true rfl) rcv1 ?_
  refine Ca.mono h (fun r hr => ?_)
  obtain ⟨M1, v2, rfl, h⟩ := hr
  show En 157 5 [some (.inl p1)] [.inl v2] S M1 Q
  exact e_ret hP rfl (decide_eq_true h.1) h.2
theorem r_X9_first_0 {S : Shp} {M : Mem} {Q : Res → Prop} (hM : KM S) {p1 p2 : Int} (h : (inR ((170 : Int) * p1)) ∧ (inR (((170 : Int) * p1) + p2)) ∧ (0 ≤ (((170 : Int) * p1) + p2) ∧ (((170 : Int) * p1) + p2) < 2040) ∧ (((M 180 (((170 : Int) * p1) + p2).toNat) ≠ 0 → (inR ((170 : Int) * p1)) ∧ (inR (((170 : Int) * p1) + (8 : Int))) ∧ (inR ((6 : Int) * p2)) ∧ (inR ((((170 : Int) * p1) + (8 : Int)) + ((6 : Int) * p2))) ∧ (0 ≤ ((((170 : Int) * p1) + (8 : Int)) + ((6 : Int) * p2)) ∧ ((((170 : Int) * p1) + (8 : Int)) + ((6 : Int) * p2)) < 2040) ∧ Q (S, M, some (.inl (M 180 ((((170 : Int) * p1) + (8 : Int)) + ((6 : Int) * p2)).toNat)))) ∧ ((M 180 (((170 : Int) * p1) + p2).toNat) = 0 → Q (S, M, some (.inl (-4 : Int)))))) : Ca 158 [.inr (.inr 173), .inl p1, .inl p2] S M Q := by
  have hP : PR 158 = (bc_158, 3) := rfl
  refine ⟨Nat.le_of_ble_eq_true rfl, ?_⟩
  show En 158 0 [some (.inr (.inr 173)), some (.inl p1), some (.inl p2)] [] S M Q
  refine e_ld hP rfl rfl ?_
  refine e_gR (a := 9) (w := 181) 172 (sh_172 hM) hP rfl (by decide) rfl ?_
  refine e_c hP rfl ?_
  refine e_ld hP rfl rfl ?_
  obtain ⟨hs1, h⟩ := h
  refine e_mul hP rfl hs1 ?_
  refine e_ld hP rfl rfl ?_
  obtain ⟨hs2, h⟩ := h
  refine e_add hP rfl hs2 ?_
  obtain ⟨hs3, h⟩ := h
  refine e_al 180 (sh_180 hM) hP rfl hs3 ?_
  refine e_zne hP rfl (fun hc => ?_) (fun hc => ?_)
  · have h := h.1 hc
    refine e_ld hP rfl rfl ?_
    refine e_gR (a := 9) (w := 181) 172 (sh_172 hM) hP rfl (by decide) rfl ?_
    refine e_c hP rfl ?_
    refine e_ld hP rfl rfl ?_
    obtain ⟨hs4, h⟩ := h
    refine e_mul hP rfl hs4 ?_
    refine e_c hP rfl ?_
    obtain ⟨hs5, h⟩ := h
    refine e_add hP rfl hs5 ?_
    refine e_c hP rfl ?_
    refine e_ld hP rfl rfl ?_
    obtain ⟨hs6, h⟩ := h
    refine e_mul hP rfl hs6 ?_
    obtain ⟨hs7, h⟩ := h
    refine e_add hP rfl hs7 ?_
    obtain ⟨hs8, h⟩ := h
    refine e_al 180 (sh_180 hM) hP rfl hs8 ?_
    exact e_ret hP rfl rfl h
  · have h := h.2 hc
    refine e_c hP rfl ?_
    refine e_go hP rfl ?_
    exact e_ret hP rfl rfl h
theorem r_X9_isQuarrel_0 {S : Shp} {M : Mem} {Q : Res → Prop} (hM : KM S) {p1 p2 : Int} (h : En 159 4 [some (.inr (.inr 173)), some (.inl p1), some (.inl p2), some (.inl (0 : Int)), some (.inl (0 : Int)), none, none] [] S M Q) : Ca 159 [.inr (.inr 173), .inl p1, .inl p2] S M Q := by
  have hP : PR 159 = (bc_159, 7) := rfl
  refine ⟨Nat.le_of_ble_eq_true rfl, ?_⟩
  show En 159 0 [some (.inr (.inr 173)), some (.inl p1), some (.inl p2), none, none, none, none] [] S M Q
  refine e_c hP rfl ?_
  refine e_st (L' := [some (.inr (.inr 173)), some (.inl p1), some (.inl p2), some (.inl (0 : Int)), none, none, none]) hP rfl rfl ?_
  refine e_c hP rfl ?_
  refine e_st (L' := [some (.inr (.inr 173)), some (.inl p1), some (.inl p2), some (.inl (0 : Int)), some (.inl (0 : Int)), none, none]) hP rfl rfl ?_
  exact h
theorem r_X9_isQuarrel_4 {S : Shp} {M : Mem} {Q : Res → Prop} (hM : KM S) {x1 x2 x3 x4 : Int} (h : (0 ≤ (4 : Int) ∧ (4 : Int) < 12) ∧ (((M 174 (4 : Int).toNat) ≤ x4 → (x3 = 0 ∨ x3 = 1) ∧ Q (S, M, some (.inl x3))) ∧ (x4 < (M 174 (4 : Int).toNat) → (inR ((2 : Int) * x4)) ∧ (0 ≤ ((2 : Int) * x4) ∧ ((2 : Int) * x4) < 24) ∧ (inR ((2 : Int) * x4)) ∧ (inR (((2 : Int) * x4) + (1 : Int))) ∧ (0 ≤ (((2 : Int) * x4) + (1 : Int)) ∧ (((2 : Int) * x4) + (1 : Int)) < 24) ∧ ((x3 ≠ 0 → En 159 40 [some (.inr (.inr 173)), some (.inl x1), some (.inl x2), some (.inl x3), some (.inl x4), some (.inl (M 179 ((2 : Int) * x4).toNat)), some (.inl (M 179 (((2 : Int) * x4) + (1 : Int)).toNat))] [] S M Q) ∧ (x3 = 0 → (((M 179 ((2 : Int) * x4).toNat) ≠ x1 → En 159 34 [some (.inr (.inr 173)), some (.inl x1), some (.inl x2), some (.inl x3), some (.inl x4), some (.inl (M 179 ((2 : Int) * x4).toNat)), some (.inl (M 179 (((2 : Int) * x4) + (1 : Int)).toNat))] [] S M Q) ∧ ((M 179 ((2 : Int) * x4).toNat) = x1 → (((M 179 (((2 : Int) * x4) + (1 : Int)).toNat) = x2 → En 159 40 [some (.inr (.inr 173)), some (.inl x1), some (.inl x2), some (.inl x3), some (.inl x4), some (.inl (M 179 ((2 : Int) * x4).toNat)), some (.inl (M 179 (((2 : Int) * x4) + (1 : Int)).toNat))] [] S M Q) ∧ ((M 179 (((2 : Int) * x4) + (1 : Int)).toNat) ≠ x2 → En 159 34 [some (.inr (.inr 173)), some (.inl x1), some (.inl x2), some (.inl x3), some (.inl x4), some (.inl (M 179 ((2 : Int) * x4).toNat)), some (.inl (M 179 (((2 : Int) * x4) + (1 : Int)).toNat))] [] S M Q))))))))) : En 159 4 [some (.inr (.inr 173)), some (.inl x1), some (.inl x2), some (.inl x3), some (.inl x4), none, none] [] S M Q := by
  have hP : PR 159 = (bc_159, 7) := rfl
  refine e_ld hP rfl rfl ?_
  refine e_ld hP rfl rfl ?_
  refine e_gR (a := 9) (w := 175) 172 (sh_172 hM) hP rfl (by decide) rfl ?_
  refine e_c hP rfl ?_
  obtain ⟨hs1, h⟩ := h
  refine e_al 174 (sh_174 hM) hP rfl hs1 ?_
  refine e_cge hP rfl (fun hc => ?_) (fun hc => ?_)
  · have h := h.1 hc
    refine e_ld hP rfl rfl ?_
    exact e_ret hP rfl (decide_eq_true h.1) h.2
  · have h := h.2 hc
    refine e_ld hP rfl rfl ?_
    refine e_gR (a := 9) (w := 180) 172 (sh_172 hM) hP rfl (by decide) rfl ?_
    refine e_c hP rfl ?_
    refine e_ld hP rfl rfl ?_
    obtain ⟨hs2, h⟩ := h
    refine e_mul hP rfl hs2 ?_
    obtain ⟨hs3, h⟩ := h
    refine e_al 179 (sh_179 hM) hP rfl hs3 ?_
    refine e_st (L' := [some (.inr (.inr 173)), some (.inl x1), some (.inl x2), some (.inl x3), some (.inl x4), some (.inl (M 179 ((2 : Int) * x4).toNat)), none]) hP rfl rfl ?_
    refine e_ld hP rfl rfl ?_
    refine e_gR (a := 9) (w := 180) 172 (sh_172 hM) hP rfl (by decide) rfl ?_
    refine e_c hP rfl ?_
    refine e_ld hP rfl rfl ?_
    obtain ⟨hs4, h⟩ := h
    refine e_mul hP rfl hs4 ?_
    refine e_c hP rfl ?_
    obtain ⟨hs5, h⟩ := h
    refine e_add hP rfl hs5 ?_
    obtain ⟨hs6, h⟩ := h
    refine e_al 179 (sh_179 hM) hP rfl hs6 ?_
    refine e_st (L' := [some (.inr (.inr 173)), some (.inl x1), some (.inl x2), some (.inl x3), some (.inl x4), some (.inl (M 179 ((2 : Int) * x4).toNat)), some (.inl (M 179 (((2 : Int) * x4) + (1 : Int)).toNat))]) hP rfl rfl ?_
    refine e_ld hP rfl rfl ?_
    refine e_zne hP rfl (fun hc => ?_) (fun hc => ?_)
    · have h := h.1 hc
      exact h
    · have h := h.2 hc
      refine e_ld hP rfl rfl ?_
      refine e_ld hP rfl rfl ?_
      refine e_cne hP rfl (fun hc => ?_) (fun hc => ?_)
      · have h := h.1 hc
        exact h
      · have h := h.2 hc
        refine e_ld hP rfl rfl ?_
        refine e_ld hP rfl rfl ?_
        refine e_ceq hP rfl (fun hc => ?_) (fun hc => ?_)
        · have h := h.1 hc
          exact h
        · have h := h.2 hc
          exact h
theorem r_X9_isQuarrel_34 {S : Shp} {M : Mem} {Q : Res → Prop} (hM : KM S) {x1 x2 x3 x4 x5 x6 : Int} (h : ((x5 ≠ x2 → En 159 42 [some (.inr (.inr 173)), some (.inl x1), some (.inl x2), some (.inl x3), some (.inl x4), some (.inl x5), some (.inl x6)] [] S M Q) ∧ (x5 = x2 → ((x6 ≠ x1 → En 159 42 [some (.inr (.inr 173)), some (.inl x1), some (.inl x2), some (.inl x3), some (.inl x4), some (.inl x5), some (.inl x6)] [] S M Q) ∧ (x6 = x1 → En 159 40 [some (.inr (.inr 173)), some (.inl x1), some (.inl x2), some (.inl x3), some (.inl x4), some (.inl x5), some (.inl x6)] [] S M Q))))) : En 159 34 [some (.inr (.inr 173)), some (.inl x1), some (.inl x2), some (.inl x3), some (.inl x4), some (.inl x5), some (.inl x6)] [] S M Q := by
  have hP : PR 159 = (bc_159, 7) := rfl
  refine e_ld hP rfl rfl ?_
  refine e_ld hP rfl rfl ?_
  refine e_cne hP rfl (fun hc => ?_) (fun hc => ?_)
  · have h := h.1 hc
    exact h
  · have h := h.2 hc
    refine e_ld hP rfl rfl ?_
    refine e_ld hP rfl rfl ?_
    refine e_cne hP rfl (fun hc => ?_) (fun hc => ?_)
    · have h := h.1 hc
      exact h
    · have h := h.2 hc
      exact h
theorem r_X9_isQuarrel_40 {S : Shp} {M : Mem} {Q : Res → Prop} (hM : KM S) {x1 x2 x3 x4 x5 x6 : Int} (h : En 159 43 [some (.inr (.inr 173)), some (.inl x1), some (.inl x2), some (.inl x3), some (.inl x4), some (.inl x5), some (.inl x6)] [.inl (1 : Int)] S M Q) : En 159 40 [some (.inr (.inr 173)), some (.inl x1), some (.inl x2), some (.inl x3), some (.inl x4), some (.inl x5), some (.inl x6)] [] S M Q := by
  have hP : PR 159 = (bc_159, 7) := rfl
  refine e_c hP rfl ?_
  refine e_go hP rfl ?_
  exact h
theorem r_X9_isQuarrel_42 {S : Shp} {M : Mem} {Q : Res → Prop} (hM : KM S) {x1 x2 x3 x4 x5 x6 : Int} (h : En 159 43 [some (.inr (.inr 173)), some (.inl x1), some (.inl x2), some (.inl x3), some (.inl x4), some (.inl x5), some (.inl x6)] [.inl (0 : Int)] S M Q) : En 159 42 [some (.inr (.inr 173)), some (.inl x1), some (.inl x2), some (.inl x3), some (.inl x4), some (.inl x5), some (.inl x6)] [] S M Q := by
  have hP : PR 159 = (bc_159, 7) := rfl
  refine e_c hP rfl ?_
  exact h
theorem r_X9_isQuarrel_43 {S : Shp} {M : Mem} {Q : Res → Prop} (hM : KM S) {x1 x2 x3 x4 x5 x6 s0 : Int} (h : (inR (x4 + 1)) ∧ En 159 4 [some (.inr (.inr 173)), some (.inl x1), some (.inl x2), some (.inl s0), some (.inl (x4 + 1)), none, none] [] S M Q) : En 159 43 [some (.inr (.inr 173)), some (.inl x1), some (.inl x2), some (.inl x3), some (.inl x4), some (.inl x5), some (.inl x6)] [.inl s0] S M Q := by
  have hP : PR 159 = (bc_159, 7) := rfl
  refine e_st (L' := [some (.inr (.inr 173)), some (.inl x1), some (.inl x2), some (.inl s0), some (.inl x4), some (.inl x5), some (.inl x6)]) hP rfl rfl ?_
  obtain ⟨hs1, h⟩ := h
  refine e_inc (L' := [some (.inr (.inr 173)), some (.inl x1), some (.inl x2), some (.inl s0), some (.inl (x4 + 1)), some (.inl x5), some (.inl x6)]) hP rfl rfl hs1 rfl ?_
  refine e_go hP rfl ?_
  exact en_fg h ⟨Or.inr rfl, Or.inr rfl, Or.inr rfl, Or.inr rfl, Or.inr rfl, Or.inl rfl, Or.inl rfl, trivial⟩
theorem r_X9_isVowel_0 {S : Shp} {M : Mem} {Q : Res → Prop} (hM : KM S) {p1 : Int} (h : (0 ≤ (5 : Int) ∧ (5 : Int) < 12) ∧ (0 ≤ (M 174 (5 : Int).toNat) ∧ 0 ≤ p1 ∧ p1 < 32) ∧ (∃ z3 : Int, bi_and ((M 174 (5 : Int).toNat) / 2 ^ p1.toNat) (1 : Int) = some z3 ∧ ((z3 ≠ (1 : Int) → Q (S, M, some (.inl (0 : Int)))) ∧ (z3 = (1 : Int) → Q (S, M, some (.inl (1 : Int))))))) : Ca 160 [.inr (.inr 173), .inl p1] S M Q := by
  have hP : PR 160 = (bc_160, 2) := rfl
  refine ⟨Nat.le_of_ble_eq_true rfl, ?_⟩
  show En 160 0 [some (.inr (.inr 173)), some (.inl p1)] [] S M Q
  refine e_ld hP rfl rfl ?_
  refine e_gR (a := 9) (w := 175) 172 (sh_172 hM) hP rfl (by decide) rfl ?_
  refine e_c hP rfl ?_
  obtain ⟨hs1, h⟩ := h
  refine e_al 174 (sh_174 hM) hP rfl hs1 ?_
  refine e_ld hP rfl rfl ?_
  obtain ⟨hs2, h⟩ := h
  refine e_shr hP rfl hs2 ?_
  refine e_c hP rfl ?_
  obtain ⟨z3, hs4, h⟩ := h
  refine e_and hP rfl hs4 ?_
  refine e_c hP rfl ?_
  refine e_cne hP rfl (fun hc => ?_) (fun hc => ?_)
  · have h := h.1 hc
    refine e_c hP rfl ?_
    exact e_ret hP rfl rfl h
  · have h := h.2 hc
    refine e_c hP rfl ?_
    refine e_go hP rfl ?_
    exact e_ret hP rfl rfl h
theorem r_X9_isOffice_0 {S : Shp} {M : Mem} {Q : Res → Prop} (hM : KM S) {p1 p2 : Int} (h : Ca 158 [.inr (.inr 173), .inl p1, .inl p2] S M (fun r => ∃ (M1 : Mem) (v2 : Int), r = (S, M1, some (.inl v2)) ∧ ((v2 < 0 → Q (S, M1, some (.inl (1 : Int)))) ∧ (0 ≤ v2 → Ca 158 [.inr (.inr 173), .inl p1, .inl p2] S M1 (fun r => ∃ (M3 : Mem) (v4 : Int), r = (S, M3, some (.inl v4)) ∧ Ca 160 [.inr (.inr 173), .inl v4] S M3 (fun r => ∃ (M5 : Mem) (v6 : Int), r = (S, M5, some (.inl v6)) ∧ ((v6 = 0 → Q (S, M5, some (.inl (0 : Int)))) ∧ (v6 ≠ 0 → Q (S, M5, some (.inl (1 : Int))))))))))) : Ca 161 [.inr (.inr 173), .inl p1, .inl p2] S M Q := by
  have hP : PR 161 = (bc_161, 3) := rfl
  refine ⟨Nat.le_of_ble_eq_true rfl, ?_⟩
  show En 161 0 [some (.inr (.inr 173)), some (.inl p1), some (.inl p2)] [] S M Q
  refine e_ld hP rfl rfl ?_
  refine e_ld hP rfl rfl ?_
  refine e_ld hP rfl rfl ?_
  refine e_call hP rfl rfl rfl (Nat.le_of_ble_eq_true rfl) (Nat.le_of_ble_eq_true rfl) (rcv0 (sh_172 hM) (by decide)) ?_
  refine Ca.mono h (fun r hr => ?_)
  obtain ⟨M1, v2, rfl, h⟩ := hr
  show En 161 4 [some (.inr (.inr 173)), some (.inl p1), some (.inl p2)] [.inl v2] S M1 Q
  refine e_zlt hP rfl (fun hc => ?_) (fun hc => ?_)
  · have h := h.1 hc
    refine e_c hP rfl ?_
    refine e_go hP rfl ?_
    exact e_ret hP rfl rfl h
  · have h := h.2 hc
    refine e_ld hP rfl rfl ?_
    refine e_ld hP rfl rfl ?_
    refine e_ld hP rfl rfl ?_
    refine e_ld hP rfl rfl ?_
    refine e_call hP rfl rfl rfl (Nat.le_of_ble_eq_true rfl) (Nat.le_of_ble_eq_true rfl) (rcv0 (sh_172 hM) (by decide)) ?_
    refine Ca.mono h (fun r hr => ?_)
    obtain ⟨M3, v4, rfl, h⟩ := hr
    show En 161 10 [some (.inr (.inr 173)), some (.inl p1), some (.inl p2)] [.inl v4, .inr (.inr 173)] S M3 Q
    refine e_call hP rfl rfl rfl (Nat.le_of_ble_eq_true rfl) (Nat.le_of_ble_eq_true rfl) (rcv0 (sh_172 hM) (by decide)) ?_
    refine Ca.mono h (fun r hr => ?_)
    obtain ⟨M5, v6, rfl, h⟩ := hr
    show En 161 11 [some (.inr (.inr 173)), some (.inl p1), some (.inl p2)] [.inl v6] S M5 Q
    refine e_zeq hP rfl (fun hc => ?_) (fun hc => ?_)
    · have h := h.1 hc
      refine e_c hP rfl ?_
      exact e_ret hP rfl rfl h
    · have h := h.2 hc
      refine e_c hP rfl ?_
      refine e_go hP rfl ?_
      exact e_ret hP rfl rfl h
theorem r_X9_isAhead_0 {S : Shp} {M : Mem} {Q : Res → Prop} (hM : KM S) {p1 p2 p3 : Int} (h : (inR ((170 : Int) * p1)) ∧ (inR (((170 : Int) * p1) + p2)) ∧ (0 ≤ (((170 : Int) * p1) + p2) ∧ (((170 : Int) * p1) + p2) < 2040) ∧ (inR ((170 : Int) * p1)) ∧ (inR (((170 : Int) * p1) + p3)) ∧ (0 ≤ (((170 : Int) * p1) + p3) ∧ (((170 : Int) * p1) + p3) < 2040) ∧ (((M 180 (((170 : Int) * p1) + p2).toNat) = 0 → ((0 < (M 180 (((170 : Int) * p1) + p2).toNat) → Q (S, M, some (.inl (1 : Int)))) ∧ ((M 180 (((170 : Int) * p1) + p2).toNat) ≤ 0 → (((M 180 (((170 : Int) * p1) + p3).toNat) ≠ 0 → Q (S, M, some (.inl (0 : Int)))) ∧ ((M 180 (((170 : Int) * p1) + p3).toNat) = 0 → ((p3 ≤ p2 → Q (S, M, some (.inl (0 : Int)))) ∧ (p2 < p3 → Q (S, M, some (.inl (1 : Int)))))))))) ∧ ((M 180 (((170 : Int) * p1) + p2).toNat) ≠ 0 → (((M 180 (((170 : Int) * p1) + p3).toNat) ≠ 0 → En 162 35 [some (.inr (.inr 173)), some (.inl p1), some (.inl p2), some (.inl p3), some (.inl (M 180 (((170 : Int) * p1) + p2).toNat)), some (.inl (M 180 (((170 : Int) * p1) + p3).toNat)), some (.inl (0 : Int)), none, none] [] S M Q) ∧ ((M 180 (((170 : Int) * p1) + p3).toNat) = 0 → ((0 < (M 180 (((170 : Int) * p1) + p2).toNat) → Q (S, M, some (.inl (1 : Int)))) ∧ ((M 180 (((170 : Int) * p1) + p2).toNat) ≤ 0 → (((M 180 (((170 : Int) * p1) + p3).toNat) ≠ 0 → Q (S, M, some (.inl (0 : Int)))) ∧ ((M 180 (((170 : Int) * p1) + p3).toNat) = 0 → ((p3 ≤ p2 → Q (S, M, some (.inl (0 : Int)))) ∧ (p2 < p3 → Q (S, M, some (.inl (1 : Int)))))))))))))) : Ca 162 [.inr (.inr 173), .inl p1, .inl p2, .inl p3] S M Q := by
  have hP : PR 162 = (bc_162, 9) := rfl
  refine ⟨Nat.le_of_ble_eq_true rfl, ?_⟩
  show En 162 0 [some (.inr (.inr 173)), some (.inl p1), some (.inl p2), some (.inl p3), none, none, none, none, none] [] S M Q
  refine e_ld hP rfl rfl ?_
  refine e_gR (a := 9) (w := 181) 172 (sh_172 hM) hP rfl (by decide) rfl ?_
  refine e_c hP rfl ?_
  refine e_ld hP rfl rfl ?_
  obtain ⟨hs1, h⟩ := h
  refine e_mul hP rfl hs1 ?_
  refine e_ld hP rfl rfl ?_
  obtain ⟨hs2, h⟩ := h
  refine e_add hP rfl hs2 ?_
  obtain ⟨hs3, h⟩ := h
  refine e_al 180 (sh_180 hM) hP rfl hs3 ?_
  refine e_st (L' := [some (.inr (.inr 173)), some (.inl p1), some (.inl p2), some (.inl p3), some (.inl (M 180 (((170 : Int) * p1) + p2).toNat)), none, none, none, none]) hP rfl rfl ?_
  refine e_ld hP rfl rfl ?_
  refine e_gR (a := 9) (w := 181) 172 (sh_172 hM) hP rfl (by decide) rfl ?_
  refine e_c hP rfl ?_
  refine e_ld hP rfl rfl ?_
  obtain ⟨hs4, h⟩ := h
  refine e_mul hP rfl hs4 ?_
  refine e_ld hP rfl rfl ?_
  obtain ⟨hs5, h⟩ := h
  refine e_add hP rfl hs5 ?_
  obtain ⟨hs6, h⟩ := h
  refine e_al 180 (sh_180 hM) hP rfl hs6 ?_
  refine e_st (L' := [some (.inr (.inr 173)), some (.inl p1), some (.inl p2), some (.inl p3), some (.inl (M 180 (((170 : Int) * p1) + p2).toNat)), some (.inl (M 180 (((170 : Int) * p1) + p3).toNat)), none, none, none]) hP rfl rfl ?_
  refine e_ld hP rfl rfl ?_
  refine e_zeq hP rfl (fun hc => ?_) (fun hc => ?_)
  · have h := h.1 hc
    refine e_ld hP rfl rfl ?_
    refine e_zgt hP rfl (fun hc => ?_) (fun hc => ?_)
    · have h := h.1 hc
      refine e_c hP rfl ?_
      refine e_go hP rfl ?_
      exact e_ret hP rfl rfl h
    · have h := h.2 hc
      refine e_ld hP rfl rfl ?_
      refine e_zne hP rfl (fun hc => ?_) (fun hc => ?_)
      · have h := h.1 hc
        refine e_c hP rfl ?_
        exact e_ret hP rfl rfl h
      · have h := h.2 hc
        refine e_ld hP rfl rfl ?_
        refine e_ld hP rfl rfl ?_
        refine e_cge hP rfl (fun hc => ?_) (fun hc => ?_)
        · have h := h.1 hc
          refine e_c hP rfl ?_
          exact e_ret hP rfl rfl h
        · have h := h.2 hc
          refine e_c hP rfl ?_
          refine e_go hP rfl ?_
          exact e_ret hP rfl rfl h
  · have h := h.2 hc
    refine e_ld hP rfl rfl ?_
    refine e_zne hP rfl (fun hc => ?_) (fun hc => ?_)
    · have h := h.1 hc
      refine e_c hP rfl ?_
      refine e_st (L' := [some (.inr (.inr 173)), some (.inl p1), some (.inl p2), some (.inl p3), some (.inl (M 180 (((170 : Int) * p1) + p2).toNat)), some (.inl (M 180 (((170 : Int) * p1) + p3).toNat)), some (.inl (0 : Int)), none, none]) hP rfl rfl ?_
      exact h
    · have h := h.2 hc
      refine e_ld hP rfl rfl ?_
      refine e_zgt hP rfl (fun hc => ?_) (fun hc => ?_)
      · have h := h.1 hc
        refine e_c hP rfl ?_
        refine e_go hP rfl ?_
        exact e_ret hP rfl rfl h
      · have h := h.2 hc
        refine e_ld hP rfl rfl ?_
        refine e_zne hP rfl (fun hc => ?_) (fun hc => ?_)
        · have h := h.1 hc
          refine e_c hP rfl ?_
          exact e_ret hP rfl rfl h
        · have h := h.2 hc
          refine e_ld hP rfl rfl ?_
          refine e_ld hP rfl rfl ?_
          refine e_cge hP rfl (fun hc => ?_) (fun hc => ?_)
          · have h := h.1 hc
            refine e_c hP rfl ?_
            exact e_ret hP rfl rfl h
          · have h := h.2 hc
            refine e_c hP rfl ?_
            refine e_go hP rfl ?_
            exact e_ret hP rfl rfl h
theorem r_X9_isAhead_35 {S : Shp} {M : Mem} {Q : Res → Prop} (hM : KM S) {x1 x2 x3 x4 x5 x6 : Int} (h : ((x4 ≤ x6 → ((x4 ≠ x5 → ((x5 ≤ x4 → Q (S, M, some (.inl (0 : Int)))) ∧ (x4 < x5 → Q (S, M, some (.inl (1 : Int)))))) ∧ (x4 = x5 → ((x3 ≤ x2 → Q (S, M, some (.inl (0 : Int)))) ∧ (x2 < x3 → Q (S, M, some (.inl (1 : Int)))))))) ∧ (x6 < x4 → ((x5 ≤ x6 → ((x4 ≠ x5 → ((x5 ≤ x4 → Q (S, M, some (.inl (0 : Int)))) ∧ (x4 < x5 → Q (S, M, some (.inl (1 : Int)))))) ∧ (x4 = x5 → ((x3 ≤ x2 → Q (S, M, some (.inl (0 : Int)))) ∧ (x2 < x3 → Q (S, M, some (.inl (1 : Int)))))))) ∧ (x6 < x5 → (inR ((170 : Int) * x1)) ∧ (inR (((170 : Int) * x1) + (8 : Int))) ∧ (inR ((6 : Int) * x2)) ∧ (inR ((((170 : Int) * x1) + (8 : Int)) + ((6 : Int) * x2))) ∧ (inR (((((170 : Int) * x1) + (8 : Int)) + ((6 : Int) * x2)) + x6)) ∧ (0 ≤ (((((170 : Int) * x1) + (8 : Int)) + ((6 : Int) * x2)) + x6) ∧ (((((170 : Int) * x1) + (8 : Int)) + ((6 : Int) * x2)) + x6) < 2040) ∧ (inR ((170 : Int) * x1)) ∧ (inR (((170 : Int) * x1) + (8 : Int))) ∧ (inR ((6 : Int) * x3)) ∧ (inR ((((170 : Int) * x1) + (8 : Int)) + ((6 : Int) * x3))) ∧ (inR (((((170 : Int) * x1) + (8 : Int)) + ((6 : Int) * x3)) + x6)) ∧ (0 ≤ (((((170 : Int) * x1) + (8 : Int)) + ((6 : Int) * x3)) + x6) ∧ (((((170 : Int) * x1) + (8 : Int)) + ((6 : Int) * x3)) + x6) < 2040) ∧ (((M 180 (((((170 : Int) * x1) + (8 : Int)) + ((6 : Int) * x2)) + x6).toNat) = (M 180 (((((170 : Int) * x1) + (8 : Int)) + ((6 : Int) * x3)) + x6).toNat) → (inR (x6 + 1)) ∧ En 162 35 [some (.inr (.inr 173)), some (.inl x1), some (.inl x2), some (.inl x3), some (.inl x4), some (.inl x5), some (.inl (x6 + 1)), none, none] [] S M Q) ∧ ((M 180 (((((170 : Int) * x1) + (8 : Int)) + ((6 : Int) * x2)) + x6).toNat) ≠ (M 180 (((((170 : Int) * x1) + (8 : Int)) + ((6 : Int) * x3)) + x6).toNat) → (inR ((170 : Int) * x1)) ∧ (inR (((170 : Int) * x1) + (144 : Int))) ∧ (inR ((((170 : Int) * x1) + (144 : Int)) + (M 180 (((((170 : Int) * x1) + (8 : Int)) + ((6 : Int) * x2)) + x6).toNat))) ∧ (0 ≤ ((((170 : Int) * x1) + (144 : Int)) + (M 180 (((((170 : Int) * x1) + (8 : Int)) + ((6 : Int) * x2)) + x6).toNat)) ∧ ((((170 : Int) * x1) + (144 : Int)) + (M 180 (((((170 : Int) * x1) + (8 : Int)) + ((6 : Int) * x2)) + x6).toNat)) < 2040) ∧ (inR ((170 : Int) * x1)) ∧ (inR (((170 : Int) * x1) + (144 : Int))) ∧ (inR ((((170 : Int) * x1) + (144 : Int)) + (M 180 (((((170 : Int) * x1) + (8 : Int)) + ((6 : Int) * x3)) + x6).toNat))) ∧ (0 ≤ ((((170 : Int) * x1) + (144 : Int)) + (M 180 (((((170 : Int) * x1) + (8 : Int)) + ((6 : Int) * x3)) + x6).toNat)) ∧ ((((170 : Int) * x1) + (144 : Int)) + (M 180 (((((170 : Int) * x1) + (8 : Int)) + ((6 : Int) * x3)) + x6).toNat)) < 2040) ∧ (((M 180 ((((170 : Int) * x1) + (144 : Int)) + (M 180 (((((170 : Int) * x1) + (8 : Int)) + ((6 : Int) * x3)) + x6).toNat)).toNat) ≤ (M 180 ((((170 : Int) * x1) + (144 : Int)) + (M 180 (((((170 : Int) * x1) + (8 : Int)) + ((6 : Int) * x2)) + x6).toNat)).toNat) → Q (S, M, some (.inl (0 : Int)))) ∧ ((M 180 ((((170 : Int) * x1) + (144 : Int)) + (M 180 (((((170 : Int) * x1) + (8 : Int)) + ((6 : Int) * x2)) + x6).toNat)).toNat) < (M 180 ((((170 : Int) * x1) + (144 : Int)) + (M 180 (((((170 : Int) * x1) + (8 : Int)) + ((6 : Int) * x3)) + x6).toNat)).toNat) → Q (S, M, some (.inl (1 : Int)))))))))))) : En 162 35 [some (.inr (.inr 173)), some (.inl x1), some (.inl x2), some (.inl x3), some (.inl x4), some (.inl x5), some (.inl x6), none, none] [] S M Q := by
  have hP : PR 162 = (bc_162, 9) := rfl
  refine e_ld hP rfl rfl ?_
  refine e_ld hP rfl rfl ?_
  refine e_cge hP rfl (fun hc => ?_) (fun hc => ?_)
  · have h := h.1 hc
    refine e_ld hP rfl rfl ?_
    refine e_ld hP rfl rfl ?_
    refine e_cne hP rfl (fun hc => ?_) (fun hc => ?_)
    · have h := h.1 hc
      refine e_ld hP rfl rfl ?_
      refine e_ld hP rfl rfl ?_
      refine e_cge hP rfl (fun hc => ?_) (fun hc => ?_)
      · have h := h.1 hc
        refine e_c hP rfl ?_
        exact e_ret hP rfl rfl h
      · have h := h.2 hc
        refine e_c hP rfl ?_
        refine e_go hP rfl ?_
        exact e_ret hP rfl rfl h
    · have h := h.2 hc
      refine e_ld hP rfl rfl ?_
      refine e_ld hP rfl rfl ?_
      refine e_cge hP rfl (fun hc => ?_) (fun hc => ?_)
      · have h := h.1 hc
        refine e_c hP rfl ?_
        refine e_go hP rfl ?_
        exact e_ret hP rfl rfl h
      · have h := h.2 hc
        refine e_c hP rfl ?_
        refine e_go hP rfl ?_
        exact e_ret hP rfl rfl h
  · have h := h.2 hc
    refine e_ld hP rfl rfl ?_
    refine e_ld hP rfl rfl ?_
    refine e_cge hP rfl (fun hc => ?_) (fun hc => ?_)
    · have h := h.1 hc
      refine e_ld hP rfl rfl ?_
      refine e_ld hP rfl rfl ?_
      refine e_cne hP rfl (fun hc => ?_) (fun hc => ?_)
      · have h := h.1 hc
        refine e_ld hP rfl rfl ?_
        refine e_ld hP rfl rfl ?_
        refine e_cge hP rfl (fun hc => ?_) (fun hc => ?_)
        · have h := h.1 hc
          refine e_c hP rfl ?_
          exact e_ret hP rfl rfl h
        · have h := h.2 hc
          refine e_c hP rfl ?_
          refine e_go hP rfl ?_
          exact e_ret hP rfl rfl h
      · have h := h.2 hc
        refine e_ld hP rfl rfl ?_
        refine e_ld hP rfl rfl ?_
        refine e_cge hP rfl (fun hc => ?_) (fun hc => ?_)
        · have h := h.1 hc
          refine e_c hP rfl ?_
          refine e_go hP rfl ?_
          exact e_ret hP rfl rfl h
        · have h := h.2 hc
          refine e_c hP rfl ?_
          refine e_go hP rfl ?_
          exact e_ret hP rfl rfl h
    · have h := h.2 hc
      refine e_ld hP rfl rfl ?_
      refine e_gR (a := 9) (w := 181) 172 (sh_172 hM) hP rfl (by decide) rfl ?_
      refine e_c hP rfl ?_
      refine e_ld hP rfl rfl ?_
      obtain ⟨hs1, h⟩ := h
      refine e_mul hP rfl hs1 ?_
      refine e_c hP rfl ?_
      obtain ⟨hs2, h⟩ := h
      refine e_add hP rfl hs2 ?_
      refine e_c hP rfl ?_
      refine e_ld hP rfl rfl ?_
      obtain ⟨hs3, h⟩ := h
      refine e_mul hP rfl hs3 ?_
      obtain ⟨hs4, h⟩ := h
      refine e_add hP rfl hs4 ?_
      refine e_ld hP rfl rfl ?_
      obtain ⟨hs5, h⟩ := h
      refine e_add hP rfl hs5 ?_
      obtain ⟨hs6, h⟩ := h
      refine e_al 180 (sh_180 hM) hP rfl hs6 ?_
      refine e_st (L' := [some (.inr (.inr 173)), some (.inl x1), some (.inl x2), some (.inl x3), some (.inl x4), some (.inl x5), some (.inl x6), some (.inl (M 180 (((((170 : Int) * x1) + (8 : Int)) + ((6 : Int) * x2)) + x6).toNat)), none]) hP rfl rfl ?_
      refine e_ld hP rfl rfl ?_
      refine e_gR (a := 9) (w := 181) 172 (sh_172 hM) hP rfl (by decide) rfl ?_
      refine e_c hP rfl ?_
      refine e_ld hP rfl rfl ?_
      obtain ⟨hs7, h⟩ := h
      refine e_mul hP rfl hs7 ?_
      refine e_c hP rfl ?_
      obtain ⟨hs8, h⟩ := h
      refine e_add hP rfl hs8 ?_
      refine e_c hP rfl ?_
      refine e_ld hP rfl rfl ?_
      obtain ⟨hs9, h⟩ := h
      refine e_mul hP rfl hs9 ?_
      obtain ⟨hs10, h⟩ := h
      refine e_add hP rfl hs10 ?_
      refine e_ld hP rfl rfl ?_
      obtain ⟨hs11, h⟩ := h
      refine e_add hP rfl hs11 ?_
      obtain ⟨hs12, h⟩ := h
      refine e_al 180 (sh_180 hM) hP rfl hs12 ?_
      refine e_st (L' := [some (.inr (.inr 173)), some (.inl x1), some (.inl x2), some (.inl x3), some (.inl x4), some (.inl x5), some (.inl x6), some (.inl (M 180 (((((170 : Int) * x1) + (8 : Int)) + ((6 : Int) * x2)) + x6).toNat)), some (.inl (M 180 (((((170 : Int) * x1) + (8 : Int)) + ((6 : Int) * x3)) + x6).toNat))]) hP rfl rfl ?_
      refine e_ld hP rfl rfl ?_
      refine e_ld hP rfl rfl ?_
      refine e_ceq hP rfl (fun hc => ?_) (fun hc => ?_)
      · have h := h.1 hc
        obtain ⟨hs13, h⟩ := h
        refine e_inc (L' := [some (.inr (.inr 173)), some (.inl x1), some (.inl x2), some (.inl x3), some (.inl x4), some (.inl x5), some (.inl (x6 + 1)), some (.inl (M 180 (((((170 : Int) * x1) + (8 : Int)) + ((6 : Int) * x2)) + x6).toNat)), some (.inl (M 180 (((((170 : Int) * x1) + (8 : Int)) + ((6 : Int) * x3)) + x6).toNat))]) hP rfl rfl hs13 rfl ?_
        refine e_go hP rfl ?_
        exact en_fg h ⟨Or.inr rfl, Or.inr rfl, Or.inr rfl, Or.inr rfl, Or.inr rfl, Or.inr rfl, Or.inr rfl, Or.inl rfl, Or.inl rfl, trivial⟩
      · have h := h.2 hc
        refine e_ld hP rfl rfl ?_
        refine e_gR (a := 9) (w := 181) 172 (sh_172 hM) hP rfl (by decide) rfl ?_
        refine e_c hP rfl ?_
        refine e_ld hP rfl rfl ?_
        obtain ⟨hs14, h⟩ := h
        refine e_mul hP rfl hs14 ?_
        refine e_c hP rfl ?_
        obtain ⟨hs15, h⟩ := h
        refine e_add hP rfl hs15 ?_
        refine e_ld hP rfl rfl ?_
        obtain ⟨hs16, h⟩ := h
        refine e_add hP rfl hs16 ?_
        obtain ⟨hs17, h⟩ := h
        refine e_al 180 (sh_180 hM) hP rfl hs17 ?_
        refine e_ld hP rfl rfl ?_
        refine e_gR (a := 9) (w := 181) 172 (sh_172 hM) hP rfl (by decide) rfl ?_
        refine e_c hP rfl ?_
        refine e_ld hP rfl rfl ?_
        obtain ⟨hs18, h⟩ := h
        refine e_mul hP rfl hs18 ?_
        refine e_c hP rfl ?_
        obtain ⟨hs19, h⟩ := h
        refine e_add hP rfl hs19 ?_
        refine e_ld hP rfl rfl ?_
        obtain ⟨hs20, h⟩ := h
        refine e_add hP rfl hs20 ?_
        obtain ⟨hs21, h⟩ := h
        refine e_al 180 (sh_180 hM) hP rfl hs21 ?_
        refine e_cge hP rfl (fun hc => ?_) (fun hc => ?_)
        · have h := h.1 hc
          refine e_c hP rfl ?_
          exact e_ret hP rfl rfl h
        · have h := h.2 hc
          refine e_c hP rfl ?_
          refine e_go hP rfl ?_
          exact e_ret hP rfl rfl h
theorem r_X9_aheadOf_0 {S : Shp} {M : Mem} {Q : Res → Prop} (hM : KM S) {p1 p2 : Int} (h : En 163 4 [some (.inr (.inr 173)), some (.inl p1), some (.inl p2), some (.inl (0 : Int)), some (.inl (0 : Int))] [] S M Q) : Ca 163 [.inr (.inr 173), .inl p1, .inl p2] S M Q := by
  have hP : PR 163 = (bc_163, 5) := rfl
  refine ⟨Nat.le_of_ble_eq_true rfl, ?_⟩
  show En 163 0 [some (.inr (.inr 173)), some (.inl p1), some (.inl p2), none, none] [] S M Q
  refine e_c hP rfl ?_
  refine e_st (L' := [some (.inr (.inr 173)), some (.inl p1), some (.inl p2), some (.inl (0 : Int)), none]) hP rfl rfl ?_
  refine e_c hP rfl ?_
  refine e_st (L' := [some (.inr (.inr 173)), some (.inl p1), some (.inl p2), some (.inl (0 : Int)), some (.inl (0 : Int))]) hP rfl rfl ?_
  exact h
theorem r_X9_aheadOf_4 {S : Shp} {M : Mem} {Q : Res → Prop} (hM : KM S) {x1 x2 x3 x4 : Int} (h : (0 ≤ (0 : Int) ∧ (0 : Int) < 12) ∧ (((M 174 (0 : Int).toNat) ≤ x4 → Q (S, M, some (.inl x3))) ∧ (x4 < (M 174 (0 : Int).toNat) → ((x4 = x2 → (inR (x3 + (0 : Int))) ∧ (inR (x4 + 1)) ∧ En 163 4 [some (.inr (.inr 173)), some (.inl x1), some (.inl x2), some (.inl (x3 + (0 : Int))), some (.inl (x4 + 1))] [] S M Q) ∧ (x4 ≠ x2 → Ca 162 [.inr (.inr 173), .inl x1, .inl x4, .inl x2] S M (fun r => ∃ (M4 : Mem) (v5 : Int), r = (S, M4, some (.inl v5)) ∧ ((v5 = 0 → (inR (x3 + (0 : Int))) ∧ (inR (x4 + 1)) ∧ En 163 4 [some (.inr (.inr 173)), some (.inl x1), some (.inl x2), some (.inl (x3 + (0 : Int))), some (.inl (x4 + 1))] [] S M4 Q) ∧ (v5 ≠ 0 → (inR (x3 + (1 : Int))) ∧ (inR (x4 + 1)) ∧ En 163 4 [some (.inr (.inr 173)), some (.inl x1), some (.inl x2), some (.inl (x3 + (1 : Int))), some (.inl (x4 + 1))] [] S M4 Q)))))))) : En 163 4 [some (.inr (.inr 173)), some (.inl x1), some (.inl x2), some (.inl x3), some (.inl x4)] [] S M Q := by
  have hP : PR 163 = (bc_163, 5) := rfl
  refine e_ld hP rfl rfl ?_
  refine e_ld hP rfl rfl ?_
  refine e_gR (a := 9) (w := 175) 172 (sh_172 hM) hP rfl (by decide) rfl ?_
  refine e_c hP rfl ?_
  obtain ⟨hs1, h⟩ := h
  refine e_al 174 (sh_174 hM) hP rfl hs1 ?_
  refine e_cge hP rfl (fun hc => ?_) (fun hc => ?_)
  · have h := h.1 hc
    refine e_ld hP rfl rfl ?_
    exact e_ret hP rfl rfl h
  · have h := h.2 hc
    refine e_ld hP rfl rfl ?_
    refine e_ld hP rfl rfl ?_
    refine e_ld hP rfl rfl ?_
    refine e_ceq hP rfl (fun hc => ?_) (fun hc => ?_)
    · have h := h.1 hc
      refine e_c hP rfl ?_
      obtain ⟨hs2, h⟩ := h
      refine e_add hP rfl hs2 ?_
      refine e_st (L' := [some (.inr (.inr 173)), some (.inl x1), some (.inl x2), some (.inl (x3 + (0 : Int))), some (.inl x4)]) hP rfl rfl ?_
      obtain ⟨hs3, h⟩ := h
      refine e_inc (L' := [some (.inr (.inr 173)), some (.inl x1), some (.inl x2), some (.inl (x3 + (0 : Int))), some (.inl (x4 + 1))]) hP rfl rfl hs3 rfl ?_
      refine e_go hP rfl ?_
      exact h
    · have h := h.2 hc
      refine e_ld hP rfl rfl ?_
      refine e_ld hP rfl rfl ?_
      refine e_ld hP rfl rfl ?_
      refine e_ld hP rfl rfl ?_
      refine e_call hP rfl rfl rfl (Nat.le_of_ble_eq_true rfl) (Nat.le_of_ble_eq_true rfl) (rcv0 (sh_172 hM) (by decide)) ?_
      refine Ca.mono h (fun r hr => ?_)
      obtain ⟨M4, v5, rfl, h⟩ := hr
      show En 163 19 [some (.inr (.inr 173)), some (.inl x1), some (.inl x2), some (.inl x3), some (.inl x4)] [.inl v5, .inl x3] S M4 Q
      refine e_zeq hP rfl (fun hc => ?_) (fun hc => ?_)
      · have h := h.1 hc
        refine e_c hP rfl ?_
        obtain ⟨hs6, h⟩ := h
        refine e_add hP rfl hs6 ?_
        refine e_st (L' := [some (.inr (.inr 173)), some (.inl x1), some (.inl x2), some (.inl (x3 + (0 : Int))), some (.inl x4)]) hP rfl rfl ?_
        obtain ⟨hs7, h⟩ := h
        refine e_inc (L' := [some (.inr (.inr 173)), some (.inl x1), some (.inl x2), some (.inl (x3 + (0 : Int))), some (.inl (x4 + 1))]) hP rfl rfl hs7 rfl ?_
        refine e_go hP rfl ?_
        exact h
      · have h := h.2 hc
        refine e_c hP rfl ?_
        refine e_go hP rfl ?_
        obtain ⟨hs8, h⟩ := h
        refine e_add hP rfl hs8 ?_
        refine e_st (L' := [some (.inr (.inr 173)), some (.inl x1), some (.inl x2), some (.inl (x3 + (1 : Int))), some (.inl x4)]) hP rfl rfl ?_
        obtain ⟨hs9, h⟩ := h
        refine e_inc (L' := [some (.inr (.inr 173)), some (.inl x1), some (.inl x2), some (.inl (x3 + (1 : Int))), some (.inl (x4 + 1))]) hP rfl rfl hs9 rfl ?_
        refine e_go hP rfl ?_
        exact h
theorem r_X9_morning_0 {S : Shp} {M : Mem} {Q : Res → Prop} (hM : KM S) {p1 : Int} (h : (0 ≤ (1 : Int) ∧ (1 : Int) < 12) ∧ En 164 9 [some (.inr (.inr 173)), some (.inl p1), some (.inl (M 174 (1 : Int).toNat)), some (.inl (0 : Int)), some (.inl (0 : Int)), none] [] S M Q) : Ca 164 [.inr (.inr 173), .inl p1] S M Q := by
  have hP : PR 164 = (bc_164, 6) := rfl
  refine ⟨Nat.le_of_ble_eq_true rfl, ?_⟩
  show En 164 0 [some (.inr (.inr 173)), some (.inl p1), none, none, none, none] [] S M Q
  refine e_ld hP rfl rfl ?_
  refine e_gR (a := 9) (w := 175) 172 (sh_172 hM) hP rfl (by decide) rfl ?_
  refine e_c hP rfl ?_
  obtain ⟨hs1, h⟩ := h
  refine e_al 174 (sh_174 hM) hP rfl hs1 ?_
  refine e_st (L' := [some (.inr (.inr 173)), some (.inl p1), some (.inl (M 174 (1 : Int).toNat)), none, none, none]) hP rfl rfl ?_
  refine e_c hP rfl ?_
  refine e_st (L' := [some (.inr (.inr 173)), some (.inl p1), some (.inl (M 174 (1 : Int).toNat)), some (.inl (0 : Int)), none, none]) hP rfl rfl ?_
  refine e_c hP rfl ?_
  refine e_st (L' := [some (.inr (.inr 173)), some (.inl p1), some (.inl (M 174 (1 : Int).toNat)), some (.inl (0 : Int)), some (.inl (0 : Int)), none]) hP rfl rfl ?_
  exact h
theorem r_X9_morning_9 {S : Shp} {M : Mem} {Q : Res → Prop} (hM : KM S) {x1 x2 x3 x4 : Int} (h : (0 ≤ (0 : Int) ∧ (0 : Int) < 12) ∧ (((M 174 (0 : Int).toNat) ≤ x4 → Q (S, M, some (.inl x3))) ∧ (x4 < (M 174 (0 : Int).toNat) → En 164 17 [some (.inr (.inr 173)), some (.inl x1), some (.inl x2), some (.inl x3), some (.inl x4), some (.inl (0 : Int))] [] S M Q))) : En 164 9 [some (.inr (.inr 173)), some (.inl x1), some (.inl x2), some (.inl x3), some (.inl x4), none] [] S M Q := by
  have hP : PR 164 = (bc_164, 6) := rfl
  refine e_ld hP rfl rfl ?_
  refine e_ld hP rfl rfl ?_
  refine e_gR (a := 9) (w := 175) 172 (sh_172 hM) hP rfl (by decide) rfl ?_
  refine e_c hP rfl ?_
  obtain ⟨hs1, h⟩ := h
  refine e_al 174 (sh_174 hM) hP rfl hs1 ?_
  refine e_cge hP rfl (fun hc => ?_) (fun hc => ?_)
  · have h := h.1 hc
    refine e_ld hP rfl rfl ?_
    exact e_ret hP rfl rfl h
  · have h := h.2 hc
    refine e_c hP rfl ?_
    refine e_st (L' := [some (.inr (.inr 173)), some (.inl x1), some (.inl x2), some (.inl x3), some (.inl x4), some (.inl (0 : Int))]) hP rfl rfl ?_
    exact h
theorem r_X9_morning_17 {S : Shp} {M : Mem} {Q : Res → Prop} (hM : KM S) {x1 x2 x3 x4 x5 : Int} (h : (0 ≤ (0 : Int) ∧ (0 : Int) < 12) ∧ (((M 174 (0 : Int).toNat) ≤ x5 → (inR (x4 + 1)) ∧ En 164 9 [some (.inr (.inr 173)), some (.inl x1), some (.inl x2), some (.inl x3), some (.inl (x4 + 1)), none] [] S M Q) ∧ (x5 < (M 174 (0 : Int).toNat) → Ca 163 [.inr (.inr 173), .inl x1, .inl x5] S M (fun r => ∃ (M3 : Mem) (v4 : Int), r = (S, M3, some (.inl v4)) ∧ ((v4 ≠ x4 → (inR (x5 + 1)) ∧ En 164 17 [some (.inr (.inr 173)), some (.inl x1), some (.inl x2), some (.inl x3), some (.inl x4), some (.inl (x5 + 1))] [] S M3 Q) ∧ (v4 = x4 → (0 ≤ x5 ∧ x5 < 16) ∧ ((x2 ≤ (M3 175 x5.toNat) → (0 ≤ x5 ∧ x5 < 8) ∧ (0 ≤ x5 ∧ x5 < 8) ∧ (inR (x2 - ((up2 M3 183 x5.toNat x2) 183 x5.toNat))) ∧ (0 ≤ x5 ∧ x5 < 8) ∧ (0 ≤ x5 ∧ x5 < 16) ∧ ((((up2 M3 183 x5.toNat x2) 183 x5.toNat) ≠ ((up2 M3 183 x5.toNat x2) 175 x5.toNat) → (inR (x3 + (0 : Int))) ∧ (inR (x5 + 1)) ∧ En 164 17 [some (.inr (.inr 173)), some (.inl x1), some (.inl (x2 - ((up2 M3 183 x5.toNat x2) 183 x5.toNat))), some (.inl (x3 + (0 : Int))), some (.inl x4), some (.inl (x5 + 1))] [] S (up2 M3 183 x5.toNat x2) Q) ∧ (((up2 M3 183 x5.toNat x2) 183 x5.toNat) = ((up2 M3 183 x5.toNat x2) 175 x5.toNat) → (inR (x3 + (1 : Int))) ∧ (inR (x5 + 1)) ∧ En 164 17 [some (.inr (.inr 173)), some (.inl x1), some (.inl (x2 - ((up2 M3 183 x5.toNat x2) 183 x5.toNat))), some (.inl (x3 + (1 : Int))), some (.inl x4), some (.inl (x5 + 1))] [] S (up2 M3 183 x5.toNat x2) Q))) ∧ ((M3 175 x5.toNat) < x2 → (0 ≤ x5 ∧ x5 < 16) ∧ (0 ≤ x5 ∧ x5 < 8) ∧ (0 ≤ x5 ∧ x5 < 8) ∧ (inR (x2 - ((up2 M3 183 x5.toNat (M3 175 x5.toNat)) 183 x5.toNat))) ∧ (0 ≤ x5 ∧ x5 < 8) ∧ (0 ≤ x5 ∧ x5 < 16) ∧ ((((up2 M3 183 x5.toNat (M3 175 x5.toNat)) 183 x5.toNat) ≠ ((up2 M3 183 x5.toNat (M3 175 x5.toNat)) 175 x5.toNat) → (inR (x3 + (0 : Int))) ∧ (inR (x5 + 1)) ∧ En 164 17 [some (.inr (.inr 173)), some (.inl x1), some (.inl (x2 - ((up2 M3 183 x5.toNat (M3 175 x5.toNat)) 183 x5.toNat))), some (.inl (x3 + (0 : Int))), some (.inl x4), some (.inl (x5 + 1))] [] S (up2 M3 183 x5.toNat (M3 175 x5.toNat)) Q) ∧ (((up2 M3 183 x5.toNat (M3 175 x5.toNat)) 183 x5.toNat) = ((up2 M3 183 x5.toNat (M3 175 x5.toNat)) 175 x5.toNat) → (inR (x3 + (1 : Int))) ∧ (inR (x5 + 1)) ∧ En 164 17 [some (.inr (.inr 173)), some (.inl x1), some (.inl (x2 - ((up2 M3 183 x5.toNat (M3 175 x5.toNat)) 183 x5.toNat))), some (.inl (x3 + (1 : Int))), some (.inl x4), some (.inl (x5 + 1))] [] S (up2 M3 183 x5.toNat (M3 175 x5.toNat)) Q)))))))))) : En 164 17 [some (.inr (.inr 173)), some (.inl x1), some (.inl x2), some (.inl x3), some (.inl x4), some (.inl x5)] [] S M Q := by
  have hP : PR 164 = (bc_164, 6) := rfl
  refine e_ld hP rfl rfl ?_
  refine e_ld hP rfl rfl ?_
  refine e_gR (a := 9) (w := 175) 172 (sh_172 hM) hP rfl (by decide) rfl ?_
  refine e_c hP rfl ?_
  obtain ⟨hs1, h⟩ := h
  refine e_al 174 (sh_174 hM) hP rfl hs1 ?_
  refine e_cge hP rfl (fun hc => ?_) (fun hc => ?_)
  · have h := h.1 hc
    obtain ⟨hs2, h⟩ := h
    refine e_inc (L' := [some (.inr (.inr 173)), some (.inl x1), some (.inl x2), some (.inl x3), some (.inl (x4 + 1)), some (.inl x5)]) hP rfl rfl hs2 rfl ?_
    refine e_go hP rfl ?_
    exact en_fg h ⟨Or.inr rfl, Or.inr rfl, Or.inr rfl, Or.inr rfl, Or.inr rfl, Or.inl rfl, trivial⟩
  · have h := h.2 hc
    refine e_ld hP rfl rfl ?_
    refine e_ld hP rfl rfl ?_
    refine e_ld hP rfl rfl ?_
    refine e_call hP rfl rfl rfl (Nat.le_of_ble_eq_true rfl) (Nat.le_of_ble_eq_true rfl) (rcv0 (sh_172 hM) (by decide)) ?_
    refine Ca.mono h (fun r hr => ?_)
    obtain ⟨M3, v4, rfl, h⟩ := hr
    show En 164 27 [some (.inr (.inr 173)), some (.inl x1), some (.inl x2), some (.inl x3), some (.inl x4), some (.inl x5)] [.inl v4] S M3 Q
    refine e_ld hP rfl rfl ?_
    refine e_cne hP rfl (fun hc => ?_) (fun hc => ?_)
    · have h := h.1 hc
      obtain ⟨hs5, h⟩ := h
      refine e_inc (L' := [some (.inr (.inr 173)), some (.inl x1), some (.inl x2), some (.inl x3), some (.inl x4), some (.inl (x5 + 1))]) hP rfl rfl hs5 rfl ?_
      refine e_go hP rfl ?_
      exact h
    · have h := h.2 hc
      refine e_ld hP rfl rfl ?_
      refine e_gR (a := 9) (w := 184) 172 (sh_172 hM) hP rfl (by decide) rfl ?_
      refine e_ld hP rfl rfl ?_
      refine e_ld hP rfl rfl ?_
      refine e_gR (a := 9) (w := 176) 172 (sh_172 hM) hP rfl (by decide) rfl ?_
      refine e_ld hP rfl rfl ?_
      obtain ⟨hs6, h⟩ := h
      refine e_al 175 (sh_175 hM) hP rfl hs6 ?_
      refine e_ld hP rfl rfl ?_
      refine e_cge hP rfl (fun hc => ?_) (fun hc => ?_)
      · have h := h.1 hc
        refine e_ld hP rfl rfl ?_
        obtain ⟨hs7, h⟩ := h
        refine e_as 183 (sh_183 hM) (by decide) hP rfl hs7 ?_
        refine e_ld hP rfl rfl ?_
        refine e_ld hP rfl rfl ?_
        refine e_gR (a := 9) (w := 184) 172 (sh_172 hM) hP rfl (by decide) rfl ?_
        refine e_ld hP rfl rfl ?_
        obtain ⟨hs8, h⟩ := h
        refine e_al 183 (sh_183 hM) hP rfl hs8 ?_
        obtain ⟨hs9, h⟩ := h
        refine e_sub hP rfl hs9 ?_
        refine e_st (L' := [some (.inr (.inr 173)), some (.inl x1), some (.inl (x2 - ((up2 M3 183 x5.toNat x2) 183 x5.toNat))), some (.inl x3), some (.inl x4), some (.inl x5)]) hP rfl rfl ?_
        refine e_ld hP rfl rfl ?_
        refine e_ld hP rfl rfl ?_
        refine e_gR (a := 9) (w := 184) 172 (sh_172 hM) hP rfl (by decide) rfl ?_
        refine e_ld hP rfl rfl ?_
        obtain ⟨hs10, h⟩ := h
        refine e_al 183 (sh_183 hM) hP rfl hs10 ?_
        refine e_ld hP rfl rfl ?_
        refine e_gR (a := 9) (w := 176) 172 (sh_172 hM) hP rfl (by decide) rfl ?_
        refine e_ld hP rfl rfl ?_
        obtain ⟨hs11, h⟩ := h
        refine e_al 175 (sh_175 hM) hP rfl hs11 ?_
        refine e_cne hP rfl (fun hc => ?_) (fun hc => ?_)
        · have h := h.1 hc
          refine e_c hP rfl ?_
          obtain ⟨hs12, h⟩ := h
          refine e_add hP rfl hs12 ?_
          refine e_st (L' := [some (.inr (.inr 173)), some (.inl x1), some (.inl (x2 - ((up2 M3 183 x5.toNat x2) 183 x5.toNat))), some (.inl (x3 + (0 : Int))), some (.inl x4), some (.inl x5)]) hP rfl rfl ?_
          obtain ⟨hs13, h⟩ := h
          refine e_inc (L' := [some (.inr (.inr 173)), some (.inl x1), some (.inl (x2 - ((up2 M3 183 x5.toNat x2) 183 x5.toNat))), some (.inl (x3 + (0 : Int))), some (.inl x4), some (.inl (x5 + 1))]) hP rfl rfl hs13 rfl ?_
          refine e_go hP rfl ?_
          exact h
        · have h := h.2 hc
          refine e_c hP rfl ?_
          refine e_go hP rfl ?_
          obtain ⟨hs14, h⟩ := h
          refine e_add hP rfl hs14 ?_
          refine e_st (L' := [some (.inr (.inr 173)), some (.inl x1), some (.inl (x2 - ((up2 M3 183 x5.toNat x2) 183 x5.toNat))), some (.inl (x3 + (1 : Int))), some (.inl x4), some (.inl x5)]) hP rfl rfl ?_
          obtain ⟨hs15, h⟩ := h
          refine e_inc (L' := [some (.inr (.inr 173)), some (.inl x1), some (.inl (x2 - ((up2 M3 183 x5.toNat x2) 183 x5.toNat))), some (.inl (x3 + (1 : Int))), some (.inl x4), some (.inl (x5 + 1))]) hP rfl rfl hs15 rfl ?_
          refine e_go hP rfl ?_
          exact h
      · have h := h.2 hc
        refine e_ld hP rfl rfl ?_
        refine e_gR (a := 9) (w := 176) 172 (sh_172 hM) hP rfl (by decide) rfl ?_
        refine e_ld hP rfl rfl ?_
        obtain ⟨hs16, h⟩ := h
        refine e_al 175 (sh_175 hM) hP rfl hs16 ?_
        refine e_go hP rfl ?_
        obtain ⟨hs17, h⟩ := h
        refine e_as 183 (sh_183 hM) (by decide) hP rfl hs17 ?_
        refine e_ld hP rfl rfl ?_
        refine e_ld hP rfl rfl ?_
        refine e_gR (a := 9) (w := 184) 172 (sh_172 hM) hP rfl (by decide) rfl ?_
        refine e_ld hP rfl rfl ?_
        obtain ⟨hs18, h⟩ := h
        refine e_al 183 (sh_183 hM) hP rfl hs18 ?_
        obtain ⟨hs19, h⟩ := h
        refine e_sub hP rfl hs19 ?_
        refine e_st (L' := [some (.inr (.inr 173)), some (.inl x1), some (.inl (x2 - ((up2 M3 183 x5.toNat (M3 175 x5.toNat)) 183 x5.toNat))), some (.inl x3), some (.inl x4), some (.inl x5)]) hP rfl rfl ?_
        refine e_ld hP rfl rfl ?_
        refine e_ld hP rfl rfl ?_
        refine e_gR (a := 9) (w := 184) 172 (sh_172 hM) hP rfl (by decide) rfl ?_
        refine e_ld hP rfl rfl ?_
        obtain ⟨hs20, h⟩ := h
        refine e_al 183 (sh_183 hM) hP rfl hs20 ?_
        refine e_ld hP rfl rfl ?_
        refine e_gR (a := 9) (w := 176) 172 (sh_172 hM) hP rfl (by decide) rfl ?_
        refine e_ld hP rfl rfl ?_
        obtain ⟨hs21, h⟩ := h
        refine e_al 175 (sh_175 hM) hP rfl hs21 ?_
        refine e_cne hP rfl (fun hc => ?_) (fun hc => ?_)
        · have h := h.1 hc
          refine e_c hP rfl ?_
          obtain ⟨hs22, h⟩ := h
          refine e_add hP rfl hs22 ?_
          refine e_st (L' := [some (.inr (.inr 173)), some (.inl x1), some (.inl (x2 - ((up2 M3 183 x5.toNat (M3 175 x5.toNat)) 183 x5.toNat))), some (.inl (x3 + (0 : Int))), some (.inl x4), some (.inl x5)]) hP rfl rfl ?_
          obtain ⟨hs23, h⟩ := h
          refine e_inc (L' := [some (.inr (.inr 173)), some (.inl x1), some (.inl (x2 - ((up2 M3 183 x5.toNat (M3 175 x5.toNat)) 183 x5.toNat))), some (.inl (x3 + (0 : Int))), some (.inl x4), some (.inl (x5 + 1))]) hP rfl rfl hs23 rfl ?_
          refine e_go hP rfl ?_
          exact h
        · have h := h.2 hc
          refine e_c hP rfl ?_
          refine e_go hP rfl ?_
          obtain ⟨hs24, h⟩ := h
          refine e_add hP rfl hs24 ?_
          refine e_st (L' := [some (.inr (.inr 173)), some (.inl x1), some (.inl (x2 - ((up2 M3 183 x5.toNat (M3 175 x5.toNat)) 183 x5.toNat))), some (.inl (x3 + (1 : Int))), some (.inl x4), some (.inl x5)]) hP rfl rfl ?_
          obtain ⟨hs25, h⟩ := h
          refine e_inc (L' := [some (.inr (.inr 173)), some (.inl x1), some (.inl (x2 - ((up2 M3 183 x5.toNat (M3 175 x5.toNat)) 183 x5.toNat))), some (.inl (x3 + (1 : Int))), some (.inl x4), some (.inl (x5 + 1))]) hP rfl rfl hs25 rfl ?_
          refine e_go hP rfl ?_
          exact h
theorem r_X9_person_0 {S : Shp} {M : Mem} {Q : Res → Prop} (hM : KM S) {p1 p2 : Int} (h : Ca 156 [.inr (.inr 173), .inl p1] S M (fun r => ∃ (M1 : Mem) (v2 : Int), r = (S, M1, some (.inl v2)) ∧ ((v2 = 0 → Q (S, M1, some (.inl (-1 : Int)))) ∧ (v2 ≠ 0 → Ca 140 [.inr (.inl p2), .inr (.inl (0 : Int)), .inr (.inl (7 : Int))] S M1 (fun r => ∃ (M3 : Mem) (v4 : Int), r = (S, M3, some (.inl v4)) ∧ ((v4 ≠ 0 → (((p2 < 0 ∨ 0 + 7 ≤ p2) → Ca 161 [.inr (.inr 173), .inl (0 : Int), .inl p1] S M3 (fun r => ∃ (M5 : Mem) (v6 : Int), r = (S, M5, some (.inl v6)) ∧ ((v6 = 0 → Q (S, M5, some (.inl (0 : Int)))) ∧ (v6 ≠ 0 → Q (S, M5, some (.inl (1 : Int))))))) ∧ (p2 = 0 → (0 ≤ p1 ∧ p1 < 2040) ∧ Q (S, M3, some (.inl (M3 180 p1.toNat)))) ∧ (p2 = 1 → (0 ≤ p1 ∧ p1 < 16) ∧ Q (S, M3, some (.inl (M3 175 p1.toNat)))) ∧ (p2 = 2 → (inR ((56 : Int) + p1)) ∧ (0 ≤ ((56 : Int) + p1) ∧ ((56 : Int) + p1) < 2040) ∧ Q (S, M3, some (.inl (M3 180 ((56 : Int) + p1).toNat)))) ∧ (p2 = 3 → (inR ((64 : Int) + p1)) ∧ (0 ≤ ((64 : Int) + p1) ∧ ((64 : Int) + p1) < 2040) ∧ (((M3 180 ((64 : Int) + p1).toNat) ≠ 0 → (inR ((64 : Int) + p1)) ∧ (0 ≤ ((64 : Int) + p1) ∧ ((64 : Int) + p1) < 2040) ∧ (inR ((M3 180 ((64 : Int) + p1).toNat) - (1 : Int))) ∧ Q (S, M3, some (.inl ((M3 180 ((64 : Int) + p1).toNat) - (1 : Int))))) ∧ ((M3 180 ((64 : Int) + p1).toNat) = 0 → Q (S, M3, some (.inl (-4 : Int)))))) ∧ (p2 = 4 → (inR ((72 : Int) + p1)) ∧ (0 ≤ ((72 : Int) + p1) ∧ ((72 : Int) + p1) < 2040) ∧ Q (S, M3, some (.inl (M3 180 ((72 : Int) + p1).toNat)))) ∧ (p2 = 5 → Ca 163 [.inr (.inr 173), .inl (0 : Int), .inl p1] S M3 (fun r => ∃ (M18 : Mem) (v19 : Int), r = (S, M18, some (.inl v19)) ∧ Q (S, M18, some (.inl v19)))) ∧ (p2 = 6 → Ca 164 [.inr (.inr 173), .inl (0 : Int)] S M3 (fun r => ∃ (M20 : Mem) (v21 : Int), r = (S, M20, some (.inl v21)) ∧ ((0 ≤ v21 → (0 ≤ p1 ∧ p1 < 8) ∧ Q (S, M20, some (.inl (M20 183 p1.toNat)))) ∧ (v21 < 0 → Q (S, M20, some (.inl (-1 : Int))))))))) ∧ (v4 = 0 → Q (S, M3, some (.inl (-1 : Int)))))))))) : Ca 165 [.inr (.inr 173), .inl p1, .inl p2] S M Q := by
  have hP : PR 165 = (bc_165, 3) := rfl
  refine ⟨Nat.le_of_ble_eq_true rfl, ?_⟩
  show En 165 0 [some (.inr (.inr 173)), some (.inl p1), some (.inl p2)] [] S M Q
  refine e_ld hP rfl rfl ?_
  refine e_ld hP rfl rfl ?_
  refine e_call hP rfl rfl rfl (Nat.le_of_ble_eq_true rfl) (Nat.le_of_ble_eq_true rfl) (rcv0 (sh_172 hM) (by decide)) ?_
  refine Ca.mono h (fun r hr => ?_)
  obtain ⟨M1, v2, rfl, h⟩ := hr
  show En 165 3 [some (.inr (.inr 173)), some (.inl p1), some (.inl p2)] [.inl v2] S M1 Q
  refine e_zeq hP rfl (fun hc => ?_) (fun hc => ?_)
  · have h := h.1 hc
    refine e_c hP rfl ?_
    exact e_ret hP rfl rfl h
  · have h := h.2 hc
    refine e_ld hP rfl rfl ?_
    refine e_i2l hP rfl ?_
    refine e_lc hP rfl ?_
    refine e_lc hP rfl ?_
    refine e_call hP rfl rfl rfl (Nat.le_of_ble_eq_true rfl) (Nat.le_of_ble_eq_true rfl) rcv1 ?_
    refine Ca.mono h (fun r hr => ?_)
    obtain ⟨M3, v4, rfl, h⟩ := hr
    show En 165 9 [some (.inr (.inr 173)), some (.inl p1), some (.inl p2)] [.inl v4] S M3 Q
    refine e_zne hP rfl (fun hc => ?_) (fun hc => ?_)
    · have h := h.1 hc
      refine e_ld hP rfl rfl ?_
      refine e_tab hP rfl (fun hc => ?_) (fun k t hk hx => ?_)
      · have h := h.1 hc
        refine e_ld hP rfl rfl ?_
        refine e_c hP rfl ?_
        refine e_ld hP rfl rfl ?_
        refine e_call hP rfl rfl rfl (Nat.le_of_ble_eq_true rfl) (Nat.le_of_ble_eq_true rfl) (rcv0 (sh_172 hM) (by decide)) ?_
        refine Ca.mono h (fun r hr => ?_)
        obtain ⟨M5, v6, rfl, h⟩ := hr
        show En 165 76 [some (.inr (.inr 173)), some (.inl p1), some (.inl p2)] [.inl v6] S M5 Q
        refine e_zeq hP rfl (fun hc => ?_) (fun hc => ?_)
        · have h := h.1 hc
          refine e_c hP rfl ?_
          exact e_ret hP rfl rfl h
        · have h := h.2 hc
          refine e_c hP rfl ?_
          refine e_go hP rfl ?_
          exact e_ret hP rfl rfl h
      · match k, hk, hx with
        | 0, hk, hx =>
          cases hk
          have h := h.2.1 (by simpa using hx)
          refine e_ld hP rfl rfl ?_
          refine e_gR (a := 9) (w := 181) 172 (sh_172 hM) hP rfl (by decide) rfl ?_
          refine e_ld hP rfl rfl ?_
          obtain ⟨hs7, h⟩ := h
          refine e_al 180 (sh_180 hM) hP rfl hs7 ?_
          exact e_ret hP rfl rfl h
        | 1, hk, hx =>
          cases hk
          have h := h.2.2.1 (by simpa using hx)
          refine e_ld hP rfl rfl ?_
          refine e_gR (a := 9) (w := 176) 172 (sh_172 hM) hP rfl (by decide) rfl ?_
          refine e_ld hP rfl rfl ?_
          obtain ⟨hs8, h⟩ := h
          refine e_al 175 (sh_175 hM) hP rfl hs8 ?_
          exact e_ret hP rfl rfl h
        | 2, hk, hx =>
          cases hk
          have h := h.2.2.2.1 (by simpa using hx)
          refine e_ld hP rfl rfl ?_
          refine e_gR (a := 9) (w := 181) 172 (sh_172 hM) hP rfl (by decide) rfl ?_
          refine e_c hP rfl ?_
          refine e_ld hP rfl rfl ?_
          obtain ⟨hs9, h⟩ := h
          refine e_add hP rfl hs9 ?_
          obtain ⟨hs10, h⟩ := h
          refine e_al 180 (sh_180 hM) hP rfl hs10 ?_
          exact e_ret hP rfl rfl h
        | 3, hk, hx =>
          cases hk
          have h := h.2.2.2.2.1 (by simpa using hx)
          refine e_ld hP rfl rfl ?_
          refine e_gR (a := 9) (w := 181) 172 (sh_172 hM) hP rfl (by decide) rfl ?_
          refine e_c hP rfl ?_
          refine e_ld hP rfl rfl ?_
          obtain ⟨hs11, h⟩ := h
          refine e_add hP rfl hs11 ?_
          obtain ⟨hs12, h⟩ := h
          refine e_al 180 (sh_180 hM) hP rfl hs12 ?_
          refine e_zne hP rfl (fun hc => ?_) (fun hc => ?_)
          · have h := h.1 hc
            refine e_ld hP rfl rfl ?_
            refine e_gR (a := 9) (w := 181) 172 (sh_172 hM) hP rfl (by decide) rfl ?_
            refine e_c hP rfl ?_
            refine e_ld hP rfl rfl ?_
            obtain ⟨hs13, h⟩ := h
            refine e_add hP rfl hs13 ?_
            obtain ⟨hs14, h⟩ := h
            refine e_al 180 (sh_180 hM) hP rfl hs14 ?_
            refine e_c hP rfl ?_
            obtain ⟨hs15, h⟩ := h
            refine e_sub hP rfl hs15 ?_
            exact e_ret hP rfl rfl h
          · have h := h.2 hc
            refine e_c hP rfl ?_
            refine e_go hP rfl ?_
            exact e_ret hP rfl rfl h
        | 4, hk, hx =>
          cases hk
          have h := h.2.2.2.2.2.1 (by simpa using hx)
          refine e_ld hP rfl rfl ?_
          refine e_gR (a := 9) (w := 181) 172 (sh_172 hM) hP rfl (by decide) rfl ?_
          refine e_c hP rfl ?_
          refine e_ld hP rfl rfl ?_
          obtain ⟨hs16, h⟩ := h
          refine e_add hP rfl hs16 ?_
          obtain ⟨hs17, h⟩ := h
          refine e_al 180 (sh_180 hM) hP rfl hs17 ?_
          exact e_ret hP rfl rfl h
        | 5, hk, hx =>
          cases hk
          have h := h.2.2.2.2.2.2.1 (by simpa using hx)
          refine e_ld hP rfl rfl ?_
          refine e_c hP rfl ?_
          refine e_ld hP rfl rfl ?_
          refine e_call hP rfl rfl rfl (Nat.le_of_ble_eq_true rfl) (Nat.le_of_ble_eq_true rfl) (rcv0 (sh_172 hM) (by decide)) ?_
          refine Ca.mono h (fun r hr => ?_)
          obtain ⟨M18, v19, rfl, h⟩ := hr
          show En 165 60 [some (.inr (.inr 173)), some (.inl p1), some (.inl p2)] [.inl v19] S M18 Q
          exact e_ret hP rfl rfl h
        | 6, hk, hx =>
          cases hk
          have h := h.2.2.2.2.2.2.2 (by simpa using hx)
          refine e_ld hP rfl rfl ?_
          refine e_c hP rfl ?_
          refine e_call hP rfl rfl rfl (Nat.le_of_ble_eq_true rfl) (Nat.le_of_ble_eq_true rfl) (rcv0 (sh_172 hM) (by decide)) ?_
          refine Ca.mono h (fun r hr => ?_)
          obtain ⟨M20, v21, rfl, h⟩ := hr
          show En 165 64 [some (.inr (.inr 173)), some (.inl p1), some (.inl p2)] [.inl v21] S M20 Q
          refine e_zge hP rfl (fun hc => ?_) (fun hc => ?_)
          · have h := h.1 hc
            refine e_ld hP rfl rfl ?_
            refine e_gR (a := 9) (w := 184) 172 (sh_172 hM) hP rfl (by decide) rfl ?_
            refine e_ld hP rfl rfl ?_
            obtain ⟨hs22, h⟩ := h
            refine e_al 183 (sh_183 hM) hP rfl hs22 ?_
            exact e_ret hP rfl rfl h
          · have h := h.2 hc
            refine e_c hP rfl ?_
            refine e_go hP rfl ?_
            exact e_ret hP rfl rfl h
        | k + 7, hk, hx => simp at hk
    · have h := h.2 hc
      refine e_c hP rfl ?_
      exact e_ret hP rfl rfl h
theorem r_X9_letter_0 {S : Shp} {M : Mem} {Q : Res → Prop} (hM : KM S) {p1 p2 : Int} (h : Ca 156 [.inr (.inr 173), .inl p1] S M (fun r => ∃ (M1 : Mem) (v2 : Int), r = (S, M1, some (.inl v2)) ∧ ((v2 = 0 → Q (S, M1, some (.inl (-1 : Int)))) ∧ (v2 ≠ 0 → ((0 ≤ p2 → (0 ≤ p1 ∧ p1 < 2040) ∧ (((M1 180 p1.toNat) ≤ p2 → Q (S, M1, some (.inl (-4 : Int)))) ∧ (p2 < (M1 180 p1.toNat) → (inR ((6 : Int) * p1)) ∧ (inR ((8 : Int) + ((6 : Int) * p1))) ∧ (inR (((8 : Int) + ((6 : Int) * p1)) + p2)) ∧ (0 ≤ (((8 : Int) + ((6 : Int) * p1)) + p2) ∧ (((8 : Int) + ((6 : Int) * p1)) + p2) < 2040) ∧ Q (S, M1, some (.inl (M1 180 (((8 : Int) + ((6 : Int) * p1)) + p2).toNat)))))) ∧ (p2 < 0 → Q (S, M1, some (.inl (-1 : Int))))))))) : Ca 166 [.inr (.inr 173), .inl p1, .inl p2] S M Q := by
  have hP : PR 166 = (bc_166, 3) := rfl
  refine ⟨Nat.le_of_ble_eq_true rfl, ?_⟩
  show En 166 0 [some (.inr (.inr 173)), some (.inl p1), some (.inl p2)] [] S M Q
  refine e_ld hP rfl rfl ?_
  refine e_ld hP rfl rfl ?_
  refine e_call hP rfl rfl rfl (Nat.le_of_ble_eq_true rfl) (Nat.le_of_ble_eq_true rfl) (rcv0 (sh_172 hM) (by decide)) ?_
  refine Ca.mono h (fun r hr => ?_)
  obtain ⟨M1, v2, rfl, h⟩ := hr
  show En 166 3 [some (.inr (.inr 173)), some (.inl p1), some (.inl p2)] [.inl v2] S M1 Q
  refine e_zeq hP rfl (fun hc => ?_) (fun hc => ?_)
  · have h := h.1 hc
    refine e_c hP rfl ?_
    exact e_ret hP rfl rfl h
  · have h := h.2 hc
    refine e_ld hP rfl rfl ?_
    refine e_zge hP rfl (fun hc => ?_) (fun hc => ?_)
    · have h := h.1 hc
      refine e_ld hP rfl rfl ?_
      refine e_ld hP rfl rfl ?_
      refine e_gR (a := 9) (w := 181) 172 (sh_172 hM) hP rfl (by decide) rfl ?_
      refine e_ld hP rfl rfl ?_
      obtain ⟨hs3, h⟩ := h
      refine e_al 180 (sh_180 hM) hP rfl hs3 ?_
      refine e_cge hP rfl (fun hc => ?_) (fun hc => ?_)
      · have h := h.1 hc
        refine e_c hP rfl ?_
        exact e_ret hP rfl rfl h
      · have h := h.2 hc
        refine e_ld hP rfl rfl ?_
        refine e_gR (a := 9) (w := 181) 172 (sh_172 hM) hP rfl (by decide) rfl ?_
        refine e_c hP rfl ?_
        refine e_c hP rfl ?_
        refine e_ld hP rfl rfl ?_
        obtain ⟨hs4, h⟩ := h
        refine e_mul hP rfl hs4 ?_
        obtain ⟨hs5, h⟩ := h
        refine e_add hP rfl hs5 ?_
        refine e_ld hP rfl rfl ?_
        obtain ⟨hs6, h⟩ := h
        refine e_add hP rfl hs6 ?_
        obtain ⟨hs7, h⟩ := h
        refine e_al 180 (sh_180 hM) hP rfl hs7 ?_
        refine e_go hP rfl ?_
        exact e_ret hP rfl rfl h
    · have h := h.2 hc
      refine e_c hP rfl ?_
      exact e_ret hP rfl rfl h
theorem r_X9_letterOf_0 {S : Shp} {M : Mem} {Q : Res → Prop} (hM : KM S) {p1 p2 : Int} (h : En 167 2 [some (.inr (.inr 173)), some (.inl p1), some (.inl p2), some (.inl (0 : Int))] [] S M Q) : Ca 167 [.inr (.inr 173), .inl p1, .inl p2] S M Q := by
  have hP : PR 167 = (bc_167, 4) := rfl
  refine ⟨Nat.le_of_ble_eq_true rfl, ?_⟩
  show En 167 0 [some (.inr (.inr 173)), some (.inl p1), some (.inl p2), none] [] S M Q
  refine e_c hP rfl ?_
  refine e_st (L' := [some (.inr (.inr 173)), some (.inl p1), some (.inl p2), some (.inl (0 : Int))]) hP rfl rfl ?_
  exact h
theorem r_X9_letterOf_2 {S : Shp} {M : Mem} {Q : Res → Prop} (hM : KM S) {x1 x2 x3 : Int} (h : (inR ((170 : Int) * x1)) ∧ (inR (((170 : Int) * x1) + (144 : Int))) ∧ (inR ((((170 : Int) * x1) + (144 : Int)) + x3)) ∧ (0 ≤ ((((170 : Int) * x1) + (144 : Int)) + x3) ∧ ((((170 : Int) * x1) + (144 : Int)) + x3) < 2040) ∧ (((M 180 ((((170 : Int) * x1) + (144 : Int)) + x3).toNat) = x2 → Q (S, M, some (.inl x3))) ∧ ((M 180 ((((170 : Int) * x1) + (144 : Int)) + x3).toNat) ≠ x2 → (inR (x3 + 1)) ∧ En 167 2 [some (.inr (.inr 173)), some (.inl x1), some (.inl x2), some (.inl (x3 + 1))] [] S M Q))) : En 167 2 [some (.inr (.inr 173)), some (.inl x1), some (.inl x2), some (.inl x3)] [] S M Q := by
  have hP : PR 167 = (bc_167, 4) := rfl
  refine e_ld hP rfl rfl ?_
  refine e_gR (a := 9) (w := 181) 172 (sh_172 hM) hP rfl (by decide) rfl ?_
  refine e_c hP rfl ?_
  refine e_ld hP rfl rfl ?_
  obtain ⟨hs1, h⟩ := h
  refine e_mul hP rfl hs1 ?_
  refine e_c hP rfl ?_
  obtain ⟨hs2, h⟩ := h
  refine e_add hP rfl hs2 ?_
  refine e_ld hP rfl rfl ?_
  obtain ⟨hs3, h⟩ := h
  refine e_add hP rfl hs3 ?_
  obtain ⟨hs4, h⟩ := h
  refine e_al 180 (sh_180 hM) hP rfl hs4 ?_
  refine e_ld hP rfl rfl ?_
  refine e_ceq hP rfl (fun hc => ?_) (fun hc => ?_)
  · have h := h.1 hc
    refine e_ld hP rfl rfl ?_
    exact e_ret hP rfl rfl h
  · have h := h.2 hc
    obtain ⟨hs5, h⟩ := h
    refine e_inc (L' := [some (.inr (.inr 173)), some (.inl x1), some (.inl x2), some (.inl (x3 + 1))]) hP rfl rfl hs5 rfl ?_
    refine e_go hP rfl ?_
    exact h
theorem r_X9_alphabet_0 {S : Shp} {M : Mem} {Q : Res → Prop} (hM : KM S) {p1 p2 : Int} (h : Ca 157 [.inl p1] S M (fun r => ∃ (M1 : Mem) (v2 : Int), r = (S, M1, some (.inl v2)) ∧ ((v2 = 0 → Q (S, M1, some (.inl (-1 : Int)))) ∧ (v2 ≠ 0 → Ca 140 [.inr (.inl p2), .inr (.inl (0 : Int)), .inr (.inl (2 : Int))] S M1 (fun r => ∃ (M3 : Mem) (v4 : Int), r = (S, M3, some (.inl v4)) ∧ ((v4 ≠ 0 → ((p2 ≠ 0 → ((p2 ≠ (1 : Int) → Ca 160 [.inr (.inr 173), .inl p1] S M3 (fun r => ∃ (M5 : Mem) (v6 : Int), r = (S, M5, some (.inl v6)) ∧ ((v6 = 0 → Q (S, M5, some (.inl (0 : Int)))) ∧ (v6 ≠ 0 → Q (S, M5, some (.inl (1 : Int))))))) ∧ (p2 = (1 : Int) → Ca 167 [.inr (.inr 173), .inl (0 : Int), .inl p1] S M3 (fun r => ∃ (M7 : Mem) (v8 : Int), r = (S, M7, some (.inl v8)) ∧ Q (S, M7, some (.inl v8)))))) ∧ (p2 = 0 → (inR ((144 : Int) + p1)) ∧ (0 ≤ ((144 : Int) + p1) ∧ ((144 : Int) + p1) < 2040) ∧ Q (S, M3, some (.inl (M3 180 ((144 : Int) + p1).toNat)))))) ∧ (v4 = 0 → Q (S, M3, some (.inl (-1 : Int)))))))))) : Ca 168 [.inr (.inr 173), .inl p1, .inl p2] S M Q := by
  have hP : PR 168 = (bc_168, 3) := rfl
  refine ⟨Nat.le_of_ble_eq_true rfl, ?_⟩
  show En 168 0 [some (.inr (.inr 173)), some (.inl p1), some (.inl p2)] [] S M Q
  refine e_ld hP rfl rfl ?_
  refine e_call hP rfl rfl rfl (Nat.le_of_ble_eq_true rfl) (Nat.le_of_ble_eq_true rfl) rcv1 ?_
  refine Ca.mono h (fun r hr => ?_)
  obtain ⟨M1, v2, rfl, h⟩ := hr
  show En 168 2 [some (.inr (.inr 173)), some (.inl p1), some (.inl p2)] [.inl v2] S M1 Q
  refine e_zeq hP rfl (fun hc => ?_) (fun hc => ?_)
  · have h := h.1 hc
    refine e_c hP rfl ?_
    exact e_ret hP rfl rfl h
  · have h := h.2 hc
    refine e_ld hP rfl rfl ?_
    refine e_i2l hP rfl ?_
    refine e_lc hP rfl ?_
    refine e_lc hP rfl ?_
    refine e_call hP rfl rfl rfl (Nat.le_of_ble_eq_true rfl) (Nat.le_of_ble_eq_true rfl) rcv1 ?_
    refine Ca.mono h (fun r hr => ?_)
    obtain ⟨M3, v4, rfl, h⟩ := hr
    show En 168 8 [some (.inr (.inr 173)), some (.inl p1), some (.inl p2)] [.inl v4] S M3 Q
    refine e_zne hP rfl (fun hc => ?_) (fun hc => ?_)
    · have h := h.1 hc
      refine e_ld hP rfl rfl ?_
      refine e_zne hP rfl (fun hc => ?_) (fun hc => ?_)
      · have h := h.1 hc
        refine e_ld hP rfl rfl ?_
        refine e_c hP rfl ?_
        refine e_cne hP rfl (fun hc => ?_) (fun hc => ?_)
        · have h := h.1 hc
          refine e_ld hP rfl rfl ?_
          refine e_ld hP rfl rfl ?_
          refine e_call hP rfl rfl rfl (Nat.le_of_ble_eq_true rfl) (Nat.le_of_ble_eq_true rfl) (rcv0 (sh_172 hM) (by decide)) ?_
          refine Ca.mono h (fun r hr => ?_)
          obtain ⟨M5, v6, rfl, h⟩ := hr
          show En 168 31 [some (.inr (.inr 173)), some (.inl p1), some (.inl p2)] [.inl v6] S M5 Q
          refine e_zeq hP rfl (fun hc => ?_) (fun hc => ?_)
          · have h := h.1 hc
            refine e_c hP rfl ?_
            exact e_ret hP rfl rfl h
          · have h := h.2 hc
            refine e_c hP rfl ?_
            refine e_go hP rfl ?_
            exact e_ret hP rfl rfl h
        · have h := h.2 hc
          refine e_ld hP rfl rfl ?_
          refine e_c hP rfl ?_
          refine e_ld hP rfl rfl ?_
          refine e_call hP rfl rfl rfl (Nat.le_of_ble_eq_true rfl) (Nat.le_of_ble_eq_true rfl) (rcv0 (sh_172 hM) (by decide)) ?_
          refine Ca.mono h (fun r hr => ?_)
          obtain ⟨M7, v8, rfl, h⟩ := hr
          show En 168 27 [some (.inr (.inr 173)), some (.inl p1), some (.inl p2)] [.inl v8] S M7 Q
          refine e_go hP rfl ?_
          exact e_ret hP rfl rfl h
      · have h := h.2 hc
        refine e_ld hP rfl rfl ?_
        refine e_gR (a := 9) (w := 181) 172 (sh_172 hM) hP rfl (by decide) rfl ?_
        refine e_c hP rfl ?_
        refine e_ld hP rfl rfl ?_
        obtain ⟨hs9, h⟩ := h
        refine e_add hP rfl hs9 ?_
        obtain ⟨hs10, h⟩ := h
        refine e_al 180 (sh_180 hM) hP rfl hs10 ?_
        refine e_go hP rfl ?_
        exact e_ret hP rfl rfl h
    · have h := h.2 hc
      refine e_c hP rfl ?_
      exact e_ret hP rfl rfl h
theorem r_X9_quarrel_0 {S : Shp} {M : Mem} {Q : Res → Prop} (hM : KM S) {p1 p2 : Int} (h : Ca 157 [.inl p1] S M (fun r => ∃ (M1 : Mem) (v2 : Int), r = (S, M1, some (.inl v2)) ∧ ((v2 = 0 → Q (S, M1, some (.inl (-1 : Int)))) ∧ (v2 ≠ 0 → Ca 157 [.inl p2] S M1 (fun r => ∃ (M3 : Mem) (v4 : Int), r = (S, M3, some (.inl v4)) ∧ ((v4 ≠ 0 → Ca 159 [.inr (.inr 173), .inl p1, .inl p2] S M3 (fun r => ∃ (M5 : Mem) (v6 : Int), r = (S, M5, some (.inl v6)) ∧ ((v6 = 0 → Q (S, M5, some (.inl (0 : Int)))) ∧ (v6 ≠ 0 → Q (S, M5, some (.inl (1 : Int))))))) ∧ (v4 = 0 → Q (S, M3, some (.inl (-1 : Int)))))))))) : Ca 169 [.inr (.inr 173), .inl p1, .inl p2] S M Q := by
  have hP : PR 169 = (bc_169, 3) := rfl
  refine ⟨Nat.le_of_ble_eq_true rfl, ?_⟩
  show En 169 0 [some (.inr (.inr 173)), some (.inl p1), some (.inl p2)] [] S M Q
  refine e_ld hP rfl rfl ?_
  refine e_call hP rfl rfl rfl (Nat.le_of_ble_eq_true rfl) (Nat.le_of_ble_eq_true rfl) rcv1 ?_
  refine Ca.mono h (fun r hr => ?_)
  obtain ⟨M1, v2, rfl, h⟩ := hr
  show En 169 2 [some (.inr (.inr 173)), some (.inl p1), some (.inl p2)] [.inl v2] S M1 Q
  refine e_zeq hP rfl (fun hc => ?_) (fun hc => ?_)
  · have h := h.1 hc
    refine e_c hP rfl ?_
    refine e_go hP rfl ?_
    exact e_ret hP rfl rfl h
  · have h := h.2 hc
    refine e_ld hP rfl rfl ?_
    refine e_call hP rfl rfl rfl (Nat.le_of_ble_eq_true rfl) (Nat.le_of_ble_eq_true rfl) rcv1 ?_
    refine Ca.mono h (fun r hr => ?_)
    obtain ⟨M3, v4, rfl, h⟩ := hr
    show En 169 5 [some (.inr (.inr 173)), some (.inl p1), some (.inl p2)] [.inl v4] S M3 Q
    refine e_zne hP rfl (fun hc => ?_) (fun hc => ?_)
    · have h := h.1 hc
      refine e_ld hP rfl rfl ?_
      refine e_ld hP rfl rfl ?_
      refine e_ld hP rfl rfl ?_
      refine e_call hP rfl rfl rfl (Nat.le_of_ble_eq_true rfl) (Nat.le_of_ble_eq_true rfl) (rcv0 (sh_172 hM) (by decide)) ?_
      refine Ca.mono h (fun r hr => ?_)
      obtain ⟨M5, v6, rfl, h⟩ := hr
      show En 169 12 [some (.inr (.inr 173)), some (.inl p1), some (.inl p2)] [.inl v6] S M5 Q
      refine e_zeq hP rfl (fun hc => ?_) (fun hc => ?_)
      · have h := h.1 hc
        refine e_c hP rfl ?_
        exact e_ret hP rfl rfl h
      · have h := h.2 hc
        refine e_c hP rfl ?_
        refine e_go hP rfl ?_
        exact e_ret hP rfl rfl h
    · have h := h.2 hc
      refine e_c hP rfl ?_
      refine e_go hP rfl ?_
      exact e_ret hP rfl rfl h
theorem r_X9_copies_0 {S : Shp} {M : Mem} {Q : Res → Prop} (hM : KM S) {p1 p2 : Int} (h : En 170 2 [some (.inr (.inr 173)), some (.inl p1), some (.inl p2), some (.inl (0 : Int))] [] S M Q) : Ca 170 [.inr (.inr 173), .inl p1, .inl p2] S M Q := by
  have hP : PR 170 = (bc_170, 4) := rfl
  refine ⟨Nat.le_of_ble_eq_true rfl, ?_⟩
  show En 170 0 [some (.inr (.inr 173)), some (.inl p1), some (.inl p2), none] [] S M Q
  refine e_c hP rfl ?_
  refine e_st (L' := [some (.inr (.inr 173)), some (.inl p1), some (.inl p2), some (.inl (0 : Int))]) hP rfl rfl ?_
  exact h
theorem r_X9_copies_2 {S : Shp} {M : Mem} {Q : Res → Prop} (hM : KM S) {x1 x2 x3 : Int} (h : (((170 : Int) ≤ x3 → Q (S, M, none)) ∧ (x3 < (170 : Int) → (inR ((170 : Int) * x2)) ∧ (inR (((170 : Int) * x2) + x3)) ∧ (inR ((170 : Int) * x1)) ∧ (inR (((170 : Int) * x1) + x3)) ∧ (0 ≤ (((170 : Int) * x1) + x3) ∧ (((170 : Int) * x1) + x3) < 2040) ∧ (0 ≤ (((170 : Int) * x2) + x3) ∧ (((170 : Int) * x2) + x3) < 2040) ∧ (inR (x3 + 1)) ∧ En 170 2 [some (.inr (.inr 173)), some (.inl x1), some (.inl x2), some (.inl (x3 + 1))] [] S (up2 M 180 (((170 : Int) * x2) + x3).toNat (M 180 (((170 : Int) * x1) + x3).toNat)) Q))) : En 170 2 [some (.inr (.inr 173)), some (.inl x1), some (.inl x2), some (.inl x3)] [] S M Q := by
  have hP : PR 170 = (bc_170, 4) := rfl
  refine e_ld hP rfl rfl ?_
  refine e_c hP rfl ?_
  refine e_cge hP rfl (fun hc => ?_) (fun hc => ?_)
  · have h := h.1 hc
    exact e_retv hP rfl h
  · have h := h.2 hc
    refine e_ld hP rfl rfl ?_
    refine e_gR (a := 9) (w := 181) 172 (sh_172 hM) hP rfl (by decide) rfl ?_
    refine e_c hP rfl ?_
    refine e_ld hP rfl rfl ?_
    obtain ⟨hs1, h⟩ := h
    refine e_mul hP rfl hs1 ?_
    refine e_ld hP rfl rfl ?_
    obtain ⟨hs2, h⟩ := h
    refine e_add hP rfl hs2 ?_
    refine e_ld hP rfl rfl ?_
    refine e_gR (a := 9) (w := 181) 172 (sh_172 hM) hP rfl (by decide) rfl ?_
    refine e_c hP rfl ?_
    refine e_ld hP rfl rfl ?_
    obtain ⟨hs3, h⟩ := h
    refine e_mul hP rfl hs3 ?_
    refine e_ld hP rfl rfl ?_
    obtain ⟨hs4, h⟩ := h
    refine e_add hP rfl hs4 ?_
    obtain ⟨hs5, h⟩ := h
    refine e_al 180 (sh_180 hM) hP rfl hs5 ?_
    obtain ⟨hs6, h⟩ := h
    refine e_as 180 (sh_180 hM) (by decide) hP rfl hs6 ?_
    obtain ⟨hs7, h⟩ := h
    refine e_inc (L' := [some (.inr (.inr 173)), some (.inl x1), some (.inl x2), some (.inl (x3 + 1))]) hP rfl rfl hs7 rfl ?_
    refine e_go hP rfl ?_
    exact h
theorem r_X9_known_0 {S : Shp} {M : Mem} {Q : Res → Prop} (hM : KM S) (h : (((M 172 11) ≠ (8 : Int) → (inR ((3 : Int) + (M 172 11))) ∧ Ca 170 [.inr (.inr 173), .inl (0 : Int), .inl ((3 : Int) + (M 172 11))] S M (fun r => ∃ M2 : Mem, r = (S, M2, none) ∧ (inR ((M2 172 11) + (1 : Int))) ∧ Q (S, up2 M2 172 11 ((M2 172 11) + (1 : Int)), none))) ∧ ((M 172 11) = (8 : Int) → En 171 6 [some (.inr (.inr 173)), some (.inl (3 : Int))] [] S M Q))) : Ca 171 [.inr (.inr 173)] S M Q := by
  have hP : PR 171 = (bc_171, 2) := rfl
  refine ⟨Nat.le_of_ble_eq_true rfl, ?_⟩
  show En 171 0 [some (.inr (.inr 173)), none] [] S M Q
  refine e_ld hP rfl rfl ?_
  refine e_gI (a := 9) 172 (sh_172 hM) hP rfl (by decide) ?_
  refine e_c hP rfl ?_
  refine e_cne hP rfl (fun hc => ?_) (fun hc => ?_)
  · have h := h.1 hc
    refine e_ld hP rfl rfl ?_
    refine e_c hP rfl ?_
    refine e_c hP rfl ?_
    refine e_ld hP rfl rfl ?_
    refine e_gI (a := 9) 172 (sh_172 hM) hP rfl (by decide) ?_
    obtain ⟨hs1, h⟩ := h
    refine e_add hP rfl hs1 ?_
    refine e_call hP rfl rfl rfl (Nat.le_of_ble_eq_true rfl) (Nat.le_of_ble_eq_true rfl) (rcv0 (sh_172 hM) (by decide)) ?_
    refine Ca.mono h (fun r hr => ?_)
    obtain ⟨M2, rfl, h⟩ := hr
    show En 171 30 [some (.inr (.inr 173)), none] [] S M2 Q
    refine e_ld hP rfl rfl ?_
    refine e_dupR hP rfl ?_
    refine e_gI (a := 9) 172 (sh_172 hM) hP rfl (by decide) ?_
    refine e_c hP rfl ?_
    obtain ⟨hs3, h⟩ := h
    refine e_add hP rfl hs3 ?_
    refine e_pI (a := 9) 172 (sh_172 hM) (by decide) hP rfl (by decide) ?_
    exact e_retv hP rfl h
  · have h := h.2 hc
    refine e_c hP rfl ?_
    refine e_st (L' := [some (.inr (.inr 173)), some (.inl (3 : Int))]) hP rfl rfl ?_
    exact h
theorem r_X9_known_6 {S : Shp} {M : Mem} {Q : Res → Prop} (hM : KM S) {x1 : Int} (h : (((10 : Int) ≤ x1 → (inR ((M 172 11) - (1 : Int))) ∧ (inR ((3 : Int) + ((up2 M 172 11 ((M 172 11) - (1 : Int))) 172 11))) ∧ Ca 170 [.inr (.inr 173), .inl (0 : Int), .inl ((3 : Int) + ((up2 M 172 11 ((M 172 11) - (1 : Int))) 172 11))] S (up2 M 172 11 ((M 172 11) - (1 : Int))) (fun r => ∃ M3 : Mem, r = (S, M3, none) ∧ (inR ((M3 172 11) + (1 : Int))) ∧ Q (S, up2 M3 172 11 ((M3 172 11) + (1 : Int)), none))) ∧ (x1 < (10 : Int) → (inR (x1 + (1 : Int))) ∧ Ca 170 [.inr (.inr 173), .inl (x1 + (1 : Int)), .inl x1] S M (fun r => ∃ M6 : Mem, r = (S, M6, none) ∧ (inR (x1 + 1)) ∧ En 171 6 [some (.inr (.inr 173)), some (.inl (x1 + 1))] [] S M6 Q)))) : En 171 6 [some (.inr (.inr 173)), some (.inl x1)] [] S M Q := by
  have hP : PR 171 = (bc_171, 2) := rfl
  refine e_ld hP rfl rfl ?_
  refine e_c hP rfl ?_
  refine e_cge hP rfl (fun hc => ?_) (fun hc => ?_)
  · have h := h.1 hc
    refine e_ld hP rfl rfl ?_
    refine e_dupR hP rfl ?_
    refine e_gI (a := 9) 172 (sh_172 hM) hP rfl (by decide) ?_
    refine e_c hP rfl ?_
    obtain ⟨hs1, h⟩ := h
    refine e_sub hP rfl hs1 ?_
    refine e_pI (a := 9) 172 (sh_172 hM) (by decide) hP rfl (by decide) ?_
    refine e_ld hP rfl rfl ?_
    refine e_c hP rfl ?_
    refine e_c hP rfl ?_
    refine e_ld hP rfl rfl ?_
    refine e_gI (a := 9) 172 (sh_172 hM) hP rfl (by decide) ?_
    obtain ⟨hs2, h⟩ := h
    refine e_add hP rfl hs2 ?_
    refine e_call hP rfl rfl rfl (Nat.le_of_ble_eq_true rfl) (Nat.le_of_ble_eq_true rfl) (rcv0 (sh_172 hM) (by decide)) ?_
    refine Ca.mono h (fun r hr => ?_)
    obtain ⟨M3, rfl, h⟩ := hr
    show En 171 30 [some (.inr (.inr 173)), some (.inl x1)] [] S M3 Q
    refine e_ld hP rfl rfl ?_
    refine e_dupR hP rfl ?_
    refine e_gI (a := 9) 172 (sh_172 hM) hP rfl (by decide) ?_
    refine e_c hP rfl ?_
    obtain ⟨hs4, h⟩ := h
    refine e_add hP rfl hs4 ?_
    refine e_pI (a := 9) 172 (sh_172 hM) (by decide) hP rfl (by decide) ?_
    exact e_retv hP rfl h
  · have h := h.2 hc
    refine e_ld hP rfl rfl ?_
    refine e_ld hP rfl rfl ?_
    refine e_c hP rfl ?_
    obtain ⟨hs5, h⟩ := h
    refine e_add hP rfl hs5 ?_
    refine e_ld hP rfl rfl ?_
    refine e_call hP rfl rfl rfl (Nat.le_of_ble_eq_true rfl) (Nat.le_of_ble_eq_true rfl) (rcv0 (sh_172 hM) (by decide)) ?_
    refine Ca.mono h (fun r hr => ?_)
    obtain ⟨M6, rfl, h⟩ := hr
    show En 171 15 [some (.inr (.inr 173)), some (.inl x1)] [] S M6 Q
    obtain ⟨hs7, h⟩ := h
    refine e_inc (L' := [some (.inr (.inr 173)), some (.inl (x1 + 1))]) hP rfl rfl hs7 rfl ?_
    refine e_go hP rfl ?_
    exact h
theorem r_X9_spell_0 {S : Shp} {M : Mem} {Q : Res → Prop} (hM : KM S) {p1 : Int} (h : Ca 157 [.inl p1] S M (fun r => ∃ (M1 : Mem) (v2 : Int), r = (S, M1, some (.inl v2)) ∧ ((v2 ≠ 0 → (((M1 172 12) ≠ (6 : Int) → (0 ≤ (M1 172 12) ∧ (M1 172 12) < 6) ∧ (inR (((up2 M1 181 (M1 172 12).toNat p1) 172 12) + (1 : Int))) ∧ Q (S, up2 (up2 M1 181 (M1 172 12).toNat p1) 172 12 (((up2 M1 181 (M1 172 12).toNat p1) 172 12) + (1 : Int)), some (.inl ((up2 (up2 M1 181 (M1 172 12).toNat p1) 172 12 (((up2 M1 181 (M1 172 12).toNat p1) 172 12) + (1 : Int))) 172 12)))) ∧ ((M1 172 12) = (6 : Int) → Q (S, M1, some (.inl (-3 : Int)))))) ∧ (v2 = 0 → Q (S, M1, some (.inl (-1 : Int))))))) : Ca 172 [.inr (.inr 173), .inl p1] S M Q := by
  have hP : PR 172 = (bc_172, 2) := rfl
  refine ⟨Nat.le_of_ble_eq_true rfl, ?_⟩
  show En 172 0 [some (.inr (.inr 173)), some (.inl p1)] [] S M Q
  refine e_ld hP rfl rfl ?_
  refine e_call hP rfl rfl rfl (Nat.le_of_ble_eq_true rfl) (Nat.le_of_ble_eq_true rfl) rcv1 ?_
  refine Ca.mono h (fun r hr => ?_)
  obtain ⟨M1, v2, rfl, h⟩ := hr
  show En 172 2 [some (.inr (.inr 173)), some (.inl p1)] [.inl v2] S M1 Q
  refine e_zne hP rfl (fun hc => ?_) (fun hc => ?_)
  · have h := h.1 hc
    refine e_ld hP rfl rfl ?_
    refine e_gI (a := 9) 172 (sh_172 hM) hP rfl (by decide) ?_
    refine e_c hP rfl ?_
    refine e_cne hP rfl (fun hc => ?_) (fun hc => ?_)
    · have h := h.1 hc
      refine e_ld hP rfl rfl ?_
      refine e_gR (a := 9) (w := 182) 172 (sh_172 hM) hP rfl (by decide) rfl ?_
      refine e_ld hP rfl rfl ?_
      refine e_gI (a := 9) 172 (sh_172 hM) hP rfl (by decide) ?_
      refine e_ld hP rfl rfl ?_
      obtain ⟨hs3, h⟩ := h
      refine e_as 181 (sh_181 hM) (by decide) hP rfl hs3 ?_
      refine e_ld hP rfl rfl ?_
      refine e_dupR hP rfl ?_
      refine e_gI (a := 9) 172 (sh_172 hM) hP rfl (by decide) ?_
      refine e_c hP rfl ?_
      obtain ⟨hs4, h⟩ := h
      refine e_add hP rfl hs4 ?_
      refine e_pI (a := 9) 172 (sh_172 hM) (by decide) hP rfl (by decide) ?_
      refine e_ld hP rfl rfl ?_
      refine e_gI (a := 9) 172 (sh_172 hM) hP rfl (by decide) ?_
      exact e_ret hP rfl rfl h
    · have h := h.2 hc
      refine e_c hP rfl ?_
      exact e_ret hP rfl rfl h
  · have h := h.2 hc
    refine e_c hP rfl ?_
    exact e_ret hP rfl rfl h
theorem r_X9_unspell_0 {S : Shp} {M : Mem} {Q : Res → Prop} (hM : KM S) (h : Q (S, up2 M 172 12 (0 : Int), some (.inl (M 172 12)))) : Ca 173 [.inr (.inr 173)] S M Q := by
  have hP : PR 173 = (bc_173, 2) := rfl
  refine ⟨Nat.le_of_ble_eq_true rfl, ?_⟩
  show En 173 0 [some (.inr (.inr 173)), none] [] S M Q
  refine e_ld hP rfl rfl ?_
  refine e_gI (a := 9) 172 (sh_172 hM) hP rfl (by decide) ?_
  refine e_st (L' := [some (.inr (.inr 173)), some (.inl (M 172 12))]) hP rfl rfl ?_
  refine e_ld hP rfl rfl ?_
  refine e_c hP rfl ?_
  refine e_pI (a := 9) 172 (sh_172 hM) (by decide) hP rfl (by decide) ?_
  refine e_ld hP rfl rfl ?_
  exact e_ret hP rfl rfl h
theorem r_X9_priceOf_0 {S : Shp} {M : Mem} {Q : Res → Prop} (hM : KM S) {p1 : Int} (h : En 174 4 [some (.inr (.inr 173)), some (.inl p1), some (.inl (0 : Int)), some (.inl (0 : Int)), none] [] S M Q) : Ca 174 [.inr (.inr 173), .inl p1] S M Q := by
  have hP : PR 174 = (bc_174, 5) := rfl
  refine ⟨Nat.le_of_ble_eq_true rfl, ?_⟩
  show En 174 0 [some (.inr (.inr 173)), some (.inl p1), none, none, none] [] S M Q
  refine e_c hP rfl ?_
  refine e_st (L' := [some (.inr (.inr 173)), some (.inl p1), some (.inl (0 : Int)), none, none]) hP rfl rfl ?_
  refine e_c hP rfl ?_
  refine e_st (L' := [some (.inr (.inr 173)), some (.inl p1), some (.inl (0 : Int)), some (.inl (0 : Int)), none]) hP rfl rfl ?_
  exact h
theorem r_X9_priceOf_4 {S : Shp} {M : Mem} {Q : Res → Prop} (hM : KM S) {x1 x2 x3 : Int} (h : (((6 : Int) ≤ x3 → (0 ≤ (3 : Int) ∧ (3 : Int) < 12) ∧ (inR (x2 * (M 174 (3 : Int).toNat))) ∧ Q (S, M, some (.inl (x2 * (M 174 (3 : Int).toNat))))) ∧ (x3 < (6 : Int) → (((M 172 12) ≤ x3 → En 174 19 [some (.inr (.inr 173)), some (.inl x1), some (.inl x2), some (.inl x3), none] [] S M Q) ∧ (x3 < (M 172 12) → (0 ≤ x1 ∧ x1 < 2040) ∧ (((M 180 x1.toNat) ≤ x3 → En 174 19 [some (.inr (.inr 173)), some (.inl x1), some (.inl x2), some (.inl x3), none] [] S M Q) ∧ (x3 < (M 180 x1.toNat) → En 174 20 [some (.inr (.inr 173)), some (.inl x1), some (.inl x2), some (.inl x3), none] [.inl (1 : Int)] S M Q))))))) : En 174 4 [some (.inr (.inr 173)), some (.inl x1), some (.inl x2), some (.inl x3), none] [] S M Q := by
  have hP : PR 174 = (bc_174, 5) := rfl
  refine e_ld hP rfl rfl ?_
  refine e_c hP rfl ?_
  refine e_cge hP rfl (fun hc => ?_) (fun hc => ?_)
  · have h := h.1 hc
    refine e_ld hP rfl rfl ?_
    refine e_ld hP rfl rfl ?_
    refine e_gR (a := 9) (w := 175) 172 (sh_172 hM) hP rfl (by decide) rfl ?_
    refine e_c hP rfl ?_
    obtain ⟨hs1, h⟩ := h
    refine e_al 174 (sh_174 hM) hP rfl hs1 ?_
    obtain ⟨hs2, h⟩ := h
    refine e_mul hP rfl hs2 ?_
    exact e_ret hP rfl rfl h
  · have h := h.2 hc
    refine e_ld hP rfl rfl ?_
    refine e_ld hP rfl rfl ?_
    refine e_gI (a := 9) 172 (sh_172 hM) hP rfl (by decide) ?_
    refine e_cge hP rfl (fun hc => ?_) (fun hc => ?_)
    · have h := h.1 hc
      exact h
    · have h := h.2 hc
      refine e_ld hP rfl rfl ?_
      refine e_ld hP rfl rfl ?_
      refine e_gR (a := 9) (w := 181) 172 (sh_172 hM) hP rfl (by decide) rfl ?_
      refine e_ld hP rfl rfl ?_
      obtain ⟨hs3, h⟩ := h
      refine e_al 180 (sh_180 hM) hP rfl hs3 ?_
      refine e_cge hP rfl (fun hc => ?_) (fun hc => ?_)
      · have h := h.1 hc
        exact h
      · have h := h.2 hc
        refine e_c hP rfl ?_
        refine e_go hP rfl ?_
        exact h
theorem r_X9_priceOf_19 {S : Shp} {M : Mem} {Q : Res → Prop} (hM : KM S) {x1 x2 x3 : Int} (h : En 174 20 [some (.inr (.inr 173)), some (.inl x1), some (.inl x2), some (.inl x3), none] [.inl (0 : Int)] S M Q) : En 174 19 [some (.inr (.inr 173)), some (.inl x1), some (.inl x2), some (.inl x3), none] [] S M Q := by
  have hP : PR 174 = (bc_174, 5) := rfl
  refine e_c hP rfl ?_
  exact h
theorem r_X9_priceOf_20 {S : Shp} {M : Mem} {Q : Res → Prop} (hM : KM S) {x1 x2 x3 s0 : Int} (h : ((s0 = 0 → ((x3 < (M 172 12) → En 174 53 [some (.inr (.inr 173)), some (.inl x1), some (.inl x2), some (.inl x3), some (.inl s0)] [.inl x2] S M Q) ∧ ((M 172 12) ≤ x3 → (0 ≤ x1 ∧ x1 < 2040) ∧ (((M 180 x1.toNat) ≤ x3 → En 174 56 [some (.inr (.inr 173)), some (.inl x1), some (.inl x2), some (.inl x3), some (.inl s0)] [.inl (0 : Int), .inl x2] S M Q) ∧ (x3 < (M 180 x1.toNat) → En 174 53 [some (.inr (.inr 173)), some (.inl x1), some (.inl x2), some (.inl x3), some (.inl s0)] [.inl x2] S M Q))))) ∧ (s0 ≠ 0 → (0 ≤ x3 ∧ x3 < 6) ∧ (inR ((6 : Int) * x1)) ∧ (inR ((8 : Int) + ((6 : Int) * x1))) ∧ (inR (((8 : Int) + ((6 : Int) * x1)) + x3)) ∧ (0 ≤ (((8 : Int) + ((6 : Int) * x1)) + x3) ∧ (((8 : Int) + ((6 : Int) * x1)) + x3) < 2040) ∧ (((M 181 x3.toNat) ≠ (M 180 (((8 : Int) + ((6 : Int) * x1)) + x3).toNat) → En 174 56 [some (.inr (.inr 173)), some (.inl x1), some (.inl x2), some (.inl x3), some (.inl s0)] [.inl (1 : Int), .inl x2] S M Q) ∧ ((M 181 x3.toNat) = (M 180 (((8 : Int) + ((6 : Int) * x1)) + x3).toNat) → En 174 56 [some (.inr (.inr 173)), some (.inl x1), some (.inl x2), some (.inl x3), some (.inl s0)] [.inl (0 : Int), .inl x2] S M Q))))) : En 174 20 [some (.inr (.inr 173)), some (.inl x1), some (.inl x2), some (.inl x3), none] [.inl s0] S M Q := by
  have hP : PR 174 = (bc_174, 5) := rfl
  refine e_st (L' := [some (.inr (.inr 173)), some (.inl x1), some (.inl x2), some (.inl x3), some (.inl s0)]) hP rfl rfl ?_
  refine e_ld hP rfl rfl ?_
  refine e_ld hP rfl rfl ?_
  refine e_zeq hP rfl (fun hc => ?_) (fun hc => ?_)
  · have h := h.1 hc
    refine e_ld hP rfl rfl ?_
    refine e_ld hP rfl rfl ?_
    refine e_gI (a := 9) 172 (sh_172 hM) hP rfl (by decide) ?_
    refine e_clt hP rfl (fun hc => ?_) (fun hc => ?_)
    · have h := h.1 hc
      exact h
    · have h := h.2 hc
      refine e_ld hP rfl rfl ?_
      refine e_ld hP rfl rfl ?_
      refine e_gR (a := 9) (w := 181) 172 (sh_172 hM) hP rfl (by decide) rfl ?_
      refine e_ld hP rfl rfl ?_
      obtain ⟨hs1, h⟩ := h
      refine e_al 180 (sh_180 hM) hP rfl hs1 ?_
      refine e_cge hP rfl (fun hc => ?_) (fun hc => ?_)
      · have h := h.1 hc
        refine e_c hP rfl ?_
        exact h
      · have h := h.2 hc
        exact h
  · have h := h.2 hc
    refine e_ld hP rfl rfl ?_
    refine e_gR (a := 9) (w := 182) 172 (sh_172 hM) hP rfl (by decide) rfl ?_
    refine e_ld hP rfl rfl ?_
    obtain ⟨hs2, h⟩ := h
    refine e_al 181 (sh_181 hM) hP rfl hs2 ?_
    refine e_ld hP rfl rfl ?_
    refine e_gR (a := 9) (w := 181) 172 (sh_172 hM) hP rfl (by decide) rfl ?_
    refine e_c hP rfl ?_
    refine e_c hP rfl ?_
    refine e_ld hP rfl rfl ?_
    obtain ⟨hs3, h⟩ := h
    refine e_mul hP rfl hs3 ?_
    obtain ⟨hs4, h⟩ := h
    refine e_add hP rfl hs4 ?_
    refine e_ld hP rfl rfl ?_
    obtain ⟨hs5, h⟩ := h
    refine e_add hP rfl hs5 ?_
    obtain ⟨hs6, h⟩ := h
    refine e_al 180 (sh_180 hM) hP rfl hs6 ?_
    refine e_cne hP rfl (fun hc => ?_) (fun hc => ?_)
    · have h := h.1 hc
      refine e_c hP rfl ?_
      refine e_go hP rfl ?_
      exact h
    · have h := h.2 hc
      refine e_c hP rfl ?_
      refine e_go hP rfl ?_
      exact h
theorem r_X9_priceOf_53 {S : Shp} {M : Mem} {Q : Res → Prop} (hM : KM S) {x1 x2 x3 x4 s0 : Int} (h : En 174 56 [some (.inr (.inr 173)), some (.inl x1), some (.inl x2), some (.inl x3), some (.inl x4)] [.inl (1 : Int), .inl s0] S M Q) : En 174 53 [some (.inr (.inr 173)), some (.inl x1), some (.inl x2), some (.inl x3), some (.inl x4)] [.inl s0] S M Q := by
  have hP : PR 174 = (bc_174, 5) := rfl
  refine e_c hP rfl ?_
  refine e_go hP rfl ?_
  exact h
theorem r_X9_priceOf_56 {S : Shp} {M : Mem} {Q : Res → Prop} (hM : KM S) {x1 x2 x3 x4 s0 s1 : Int} (h : (inR (s1 + s0)) ∧ (inR (x3 + 1)) ∧ En 174 4 [some (.inr (.inr 173)), some (.inl x1), some (.inl (s1 + s0)), some (.inl (x3 + 1)), none] [] S M Q) : En 174 56 [some (.inr (.inr 173)), some (.inl x1), some (.inl x2), some (.inl x3), some (.inl x4)] [.inl s0, .inl s1] S M Q := by
  have hP : PR 174 = (bc_174, 5) := rfl
  obtain ⟨hs1, h⟩ := h
  refine e_add hP rfl hs1 ?_
  refine e_st (L' := [some (.inr (.inr 173)), some (.inl x1), some (.inl (s1 + s0)), some (.inl x3), some (.inl x4)]) hP rfl rfl ?_
  obtain ⟨hs2, h⟩ := h
  refine e_inc (L' := [some (.inr (.inr 173)), some (.inl x1), some (.inl (s1 + s0)), some (.inl (x3 + 1)), some (.inl x4)]) hP rfl rfl hs2 rfl ?_
  refine e_go hP rfl ?_
  exact en_fg h ⟨Or.inr rfl, Or.inr rfl, Or.inr rfl, Or.inr rfl, Or.inl rfl, trivial⟩
theorem r_X9_price_0 {S : Shp} {M : Mem} {Q : Res → Prop} (hM : KM S) {p1 : Int} (h : Ca 156 [.inr (.inr 173), .inl p1] S M (fun r => ∃ (M1 : Mem) (v2 : Int), r = (S, M1, some (.inl v2)) ∧ ((v2 = 0 → Q (S, M1, some (.inl (-1 : Int)))) ∧ (v2 ≠ 0 → Ca 174 [.inr (.inr 173), .inl p1] S M1 (fun r => ∃ (M3 : Mem) (v4 : Int), r = (S, M3, some (.inl v4)) ∧ Q (S, M3, some (.inl v4))))))) : Ca 175 [.inr (.inr 173), .inl p1] S M Q := by
  have hP : PR 175 = (bc_175, 2) := rfl
  refine ⟨Nat.le_of_ble_eq_true rfl, ?_⟩
  show En 175 0 [some (.inr (.inr 173)), some (.inl p1)] [] S M Q
  refine e_ld hP rfl rfl ?_
  refine e_ld hP rfl rfl ?_
  refine e_call hP rfl rfl rfl (Nat.le_of_ble_eq_true rfl) (Nat.le_of_ble_eq_true rfl) (rcv0 (sh_172 hM) (by decide)) ?_
  refine Ca.mono h (fun r hr => ?_)
  obtain ⟨M1, v2, rfl, h⟩ := hr
  show En 175 3 [some (.inr (.inr 173)), some (.inl p1)] [.inl v2] S M1 Q
  refine e_zeq hP rfl (fun hc => ?_) (fun hc => ?_)
  · have h := h.1 hc
    refine e_c hP rfl ?_
    exact e_ret hP rfl rfl h
  · have h := h.2 hc
    refine e_ld hP rfl rfl ?_
    refine e_ld hP rfl rfl ?_
    refine e_call hP rfl rfl rfl (Nat.le_of_ble_eq_true rfl) (Nat.le_of_ble_eq_true rfl) (rcv0 (sh_172 hM) (by decide)) ?_
    refine Ca.mono h (fun r hr => ?_)
    obtain ⟨M3, v4, rfl, h⟩ := hr
    show En 175 7 [some (.inr (.inr 173)), some (.inl p1)] [.inl v4] S M3 Q
    refine e_go hP rfl ?_
    exact e_ret hP rfl rfl h
theorem r_X9_rename_0 {S : Shp} {M : Mem} {Q : Res → Prop} (hM : KM S) {p1 : Int} (h : Ca 156 [.inr (.inr 173), .inl p1] S M (fun r => ∃ (M1 : Mem) (v2 : Int), r = (S, M1, some (.inl v2)) ∧ ((v2 ≠ 0 → Ca 174 [.inr (.inr 173), .inl p1] S M1 (fun r => ∃ (M3 : Mem) (v4 : Int), r = (S, M3, some (.inl v4)) ∧ (inR ((72 : Int) + p1)) ∧ (0 ≤ ((72 : Int) + p1) ∧ ((72 : Int) + p1) < 2040) ∧ (((M3 180 ((72 : Int) + p1).toNat) = (1 : Int) → Q (S, M3, some (.inl (-2 : Int)))) ∧ ((M3 180 ((72 : Int) + p1).toNat) ≠ (1 : Int) → (inR ((56 : Int) + p1)) ∧ (0 ≤ ((56 : Int) + p1) ∧ ((56 : Int) + p1) < 2040) ∧ ((v4 ≤ (M3 180 ((56 : Int) + p1).toNat) → Ca 171 [.inr (.inr 173)] S M3 (fun r => ∃ M9 : Mem, r = (S, M9, none) ∧ (inR ((72 : Int) + p1)) ∧ (0 ≤ ((72 : Int) + p1) ∧ ((72 : Int) + p1) < 2040) ∧ (inR ((56 : Int) + p1)) ∧ (0 ≤ ((56 : Int) + p1) ∧ ((56 : Int) + p1) < 2040) ∧ (inR (((up2 M9 180 ((72 : Int) + p1).toNat (1 : Int)) 180 ((56 : Int) + p1).toNat) - v4)) ∧ (0 ≤ ((56 : Int) + p1) ∧ ((56 : Int) + p1) < 2040) ∧ (0 ≤ p1 ∧ p1 < 2040) ∧ En 176 55 [some (.inr (.inr 173)), some (.inl p1), some (.inl v4), some (.inl (0 : Int))] [] S (up2 (up2 (up2 M9 180 ((72 : Int) + p1).toNat (1 : Int)) 180 ((56 : Int) + p1).toNat (((up2 M9 180 ((72 : Int) + p1).toNat (1 : Int)) 180 ((56 : Int) + p1).toNat) - v4)) 180 p1.toNat ((up2 (up2 M9 180 ((72 : Int) + p1).toNat (1 : Int)) 180 ((56 : Int) + p1).toNat (((up2 M9 180 ((72 : Int) + p1).toNat (1 : Int)) 180 ((56 : Int) + p1).toNat) - v4)) 172 12)) Q)) ∧ ((M3 180 ((56 : Int) + p1).toNat) < v4 → Q (S, M3, some (.inl (-2 : Int))))))))) ∧ (v2 = 0 → Q (S, M1, some (.inl (-1 : Int))))))) : Ca 176 [.inr (.inr 173), .inl p1] S M Q := by
  have hP : PR 176 = (bc_176, 4) := rfl
  refine ⟨Nat.le_of_ble_eq_true rfl, ?_⟩
  show En 176 0 [some (.inr (.inr 173)), some (.inl p1), none, none] [] S M Q
  refine e_ld hP rfl rfl ?_
  refine e_ld hP rfl rfl ?_
  refine e_call hP rfl rfl rfl (Nat.le_of_ble_eq_true rfl) (Nat.le_of_ble_eq_true rfl) (rcv0 (sh_172 hM) (by decide)) ?_
  refine Ca.mono h (fun r hr => ?_)
  obtain ⟨M1, v2, rfl, h⟩ := hr
  show En 176 3 [some (.inr (.inr 173)), some (.inl p1), none, none] [.inl v2] S M1 Q
  refine e_zne hP rfl (fun hc => ?_) (fun hc => ?_)
  · have h := h.1 hc
    refine e_ld hP rfl rfl ?_
    refine e_ld hP rfl rfl ?_
    refine e_call hP rfl rfl rfl (Nat.le_of_ble_eq_true rfl) (Nat.le_of_ble_eq_true rfl) (rcv0 (sh_172 hM) (by decide)) ?_
    refine Ca.mono h (fun r hr => ?_)
    obtain ⟨M3, v4, rfl, h⟩ := hr
    show En 176 9 [some (.inr (.inr 173)), some (.inl p1), none, none] [.inl v4] S M3 Q
    refine e_st (L' := [some (.inr (.inr 173)), some (.inl p1), some (.inl v4), none]) hP rfl rfl ?_
    refine e_ld hP rfl rfl ?_
    refine e_gR (a := 9) (w := 181) 172 (sh_172 hM) hP rfl (by decide) rfl ?_
    refine e_c hP rfl ?_
    refine e_ld hP rfl rfl ?_
    obtain ⟨hs5, h⟩ := h
    refine e_add hP rfl hs5 ?_
    obtain ⟨hs6, h⟩ := h
    refine e_al 180 (sh_180 hM) hP rfl hs6 ?_
    refine e_c hP rfl ?_
    refine e_ceq hP rfl (fun hc => ?_) (fun hc => ?_)
    · have h := h.1 hc
      refine e_c hP rfl ?_
      exact e_ret hP rfl rfl h
    · have h := h.2 hc
      refine e_ld hP rfl rfl ?_
      refine e_gR (a := 9) (w := 181) 172 (sh_172 hM) hP rfl (by decide) rfl ?_
      refine e_c hP rfl ?_
      refine e_ld hP rfl rfl ?_
      obtain ⟨hs7, h⟩ := h
      refine e_add hP rfl hs7 ?_
      obtain ⟨hs8, h⟩ := h
      refine e_al 180 (sh_180 hM) hP rfl hs8 ?_
      refine e_ld hP rfl rfl ?_
      refine e_cge hP rfl (fun hc => ?_) (fun hc => ?_)
      · have h := h.1 hc
        refine e_ld hP rfl rfl ?_
        refine e_call hP rfl rfl rfl (Nat.le_of_ble_eq_true rfl) (Nat.le_of_ble_eq_true rfl) (rcv0 (sh_172 hM) (by decide)) ?_
        refine Ca.mono h (fun r hr => ?_)
        obtain ⟨M9, rfl, h⟩ := hr
        show En 176 30 [some (.inr (.inr 173)), some (.inl p1), some (.inl v4), none] [] S M9 Q
        refine e_ld hP rfl rfl ?_
        refine e_gR (a := 9) (w := 181) 172 (sh_172 hM) hP rfl (by decide) rfl ?_
        refine e_c hP rfl ?_
        refine e_ld hP rfl rfl ?_
        obtain ⟨hs10, h⟩ := h
        refine e_add hP rfl hs10 ?_
        refine e_c hP rfl ?_
        obtain ⟨hs11, h⟩ := h
        refine e_as 180 (sh_180 hM) (by decide) hP rfl hs11 ?_
        refine e_ld hP rfl rfl ?_
        refine e_gR (a := 9) (w := 181) 172 (sh_172 hM) hP rfl (by decide) rfl ?_
        refine e_c hP rfl ?_
        refine e_ld hP rfl rfl ?_
        obtain ⟨hs12, h⟩ := h
        refine e_add hP rfl hs12 ?_
        refine e_dup2 hP rfl ?_
        obtain ⟨hs13, h⟩ := h
        refine e_al 180 (sh_180 hM) hP rfl hs13 ?_
        refine e_ld hP rfl rfl ?_
        obtain ⟨hs14, h⟩ := h
        refine e_sub hP rfl hs14 ?_
        obtain ⟨hs15, h⟩ := h
        refine e_as 180 (sh_180 hM) (by decide) hP rfl hs15 ?_
        refine e_ld hP rfl rfl ?_
        refine e_gR (a := 9) (w := 181) 172 (sh_172 hM) hP rfl (by decide) rfl ?_
        refine e_ld hP rfl rfl ?_
        refine e_ld hP rfl rfl ?_
        refine e_gI (a := 9) 172 (sh_172 hM) hP rfl (by decide) ?_
        obtain ⟨hs16, h⟩ := h
        refine e_as 180 (sh_180 hM) (by decide) hP rfl hs16 ?_
        refine e_c hP rfl ?_
        refine e_st (L' := [some (.inr (.inr 173)), some (.inl p1), some (.inl v4), some (.inl (0 : Int))]) hP rfl rfl ?_
        exact h
      · have h := h.2 hc
        refine e_c hP rfl ?_
        exact e_ret hP rfl rfl h
  · have h := h.2 hc
    refine e_c hP rfl ?_
    exact e_ret hP rfl rfl h
theorem r_X9_rename_55 {S : Shp} {M : Mem} {Q : Res → Prop} (hM : KM S) {x1 x2 x3 : Int} (h : (((M 172 12) ≤ x3 → (inR ((56 : Int) + x1)) ∧ (0 ≤ ((56 : Int) + x1) ∧ ((56 : Int) + x1) < 2040) ∧ Q (S, M, some (.inl (M 180 ((56 : Int) + x1).toNat)))) ∧ (x3 < (M 172 12) → (inR ((6 : Int) * x1)) ∧ (inR ((8 : Int) + ((6 : Int) * x1))) ∧ (inR (((8 : Int) + ((6 : Int) * x1)) + x3)) ∧ (0 ≤ x3 ∧ x3 < 6) ∧ (0 ≤ (((8 : Int) + ((6 : Int) * x1)) + x3) ∧ (((8 : Int) + ((6 : Int) * x1)) + x3) < 2040) ∧ (inR (x3 + 1)) ∧ En 176 55 [some (.inr (.inr 173)), some (.inl x1), some (.inl x2), some (.inl (x3 + 1))] [] S (up2 M 180 (((8 : Int) + ((6 : Int) * x1)) + x3).toNat (M 181 x3.toNat)) Q))) : En 176 55 [some (.inr (.inr 173)), some (.inl x1), some (.inl x2), some (.inl x3)] [] S M Q := by
  have hP : PR 176 = (bc_176, 4) := rfl
  refine e_ld hP rfl rfl ?_
  refine e_ld hP rfl rfl ?_
  refine e_gI (a := 9) 172 (sh_172 hM) hP rfl (by decide) ?_
  refine e_cge hP rfl (fun hc => ?_) (fun hc => ?_)
  · have h := h.1 hc
    refine e_ld hP rfl rfl ?_
    refine e_gR (a := 9) (w := 181) 172 (sh_172 hM) hP rfl (by decide) rfl ?_
    refine e_c hP rfl ?_
    refine e_ld hP rfl rfl ?_
    obtain ⟨hs1, h⟩ := h
    refine e_add hP rfl hs1 ?_
    obtain ⟨hs2, h⟩ := h
    refine e_al 180 (sh_180 hM) hP rfl hs2 ?_
    exact e_ret hP rfl rfl h
  · have h := h.2 hc
    refine e_ld hP rfl rfl ?_
    refine e_gR (a := 9) (w := 181) 172 (sh_172 hM) hP rfl (by decide) rfl ?_
    refine e_c hP rfl ?_
    refine e_c hP rfl ?_
    refine e_ld hP rfl rfl ?_
    obtain ⟨hs3, h⟩ := h
    refine e_mul hP rfl hs3 ?_
    obtain ⟨hs4, h⟩ := h
    refine e_add hP rfl hs4 ?_
    refine e_ld hP rfl rfl ?_
    obtain ⟨hs5, h⟩ := h
    refine e_add hP rfl hs5 ?_
    refine e_ld hP rfl rfl ?_
    refine e_gR (a := 9) (w := 182) 172 (sh_172 hM) hP rfl (by decide) rfl ?_
    refine e_ld hP rfl rfl ?_
    obtain ⟨hs6, h⟩ := h
    refine e_al 181 (sh_181 hM) hP rfl hs6 ?_
    obtain ⟨hs7, h⟩ := h
    refine e_as 180 (sh_180 hM) (by decide) hP rfl hs7 ?_
    obtain ⟨hs8, h⟩ := h
    refine e_inc (L' := [some (.inr (.inr 173)), some (.inl x1), some (.inl x2), some (.inl (x3 + 1))]) hP rfl rfl hs8 rfl ?_
    refine e_go hP rfl ?_
    exact h
theorem r_X9_isMay_0 {S : Shp} {M : Mem} {Q : Res → Prop} (hM : KM S) {p1 p2 p3 : Int} (h : ((p1 = p2 → Q (S, M, some (.inl (0 : Int)))) ∧ (p1 ≠ p2 → (inR ((64 : Int) + p1)) ∧ (0 ≤ ((64 : Int) + p1) ∧ ((64 : Int) + p1) < 2040) ∧ ((0 < (M 180 ((64 : Int) + p1).toNat) → Q (S, M, some (.inl (0 : Int)))) ∧ ((M 180 ((64 : Int) + p1).toNat) ≤ 0 → (inR ((64 : Int) + p2)) ∧ (0 ≤ ((64 : Int) + p2) ∧ ((64 : Int) + p2) < 2040) ∧ (((M 180 ((64 : Int) + p2).toNat) ≤ 0 → Ca 158 [.inr (.inr 173), .inl (0 : Int), .inl p1] S M (fun r => ∃ (M5 : Mem) (v6 : Int), r = (S, M5, some (.inl v6)) ∧ Ca 158 [.inr (.inr 173), .inl (0 : Int), .inl p2] S M5 (fun r => ∃ (M7 : Mem) (v8 : Int), r = (S, M7, some (.inl v8)) ∧ ((v6 < 0 → Q (S, M7, some (.inl (1 : Int)))) ∧ (0 ≤ v6 → ((0 ≤ v8 → (inR ((144 : Int) + v6)) ∧ (0 ≤ ((144 : Int) + v6) ∧ ((144 : Int) + v6) < 2040) ∧ (inR ((144 : Int) + v8)) ∧ (0 ≤ ((144 : Int) + v8) ∧ ((144 : Int) + v8) < 2040) ∧ (inR ((M7 180 ((144 : Int) + v6).toNat) - (M7 180 ((144 : Int) + v8).toNat))) ∧ (inR (-p3)) ∧ Ca 140 [.inr (.inl ((M7 180 ((144 : Int) + v6).toNat) - (M7 180 ((144 : Int) + v8).toNat))), .inr (.inl (-p3)), .inr (.inl p3)] S M7 (fun r => ∃ (M15 : Mem) (v16 : Int), r = (S, M15, some (.inl v16)) ∧ ((v16 = 0 → Q (S, M15, some (.inl (0 : Int)))) ∧ (v16 ≠ 0 → Ca 159 [.inr (.inr 173), .inl v6, .inl v8] S M15 (fun r => ∃ (M17 : Mem) (v18 : Int), r = (S, M17, some (.inl v18)) ∧ ((v18 ≠ 0 → Q (S, M17, some (.inl (0 : Int)))) ∧ (v18 = 0 → Q (S, M17, some (.inl (1 : Int)))))))))) ∧ (v8 < 0 → Q (S, M7, some (.inl (1 : Int)))))))))) ∧ (0 < (M 180 ((64 : Int) + p2).toNat) → Q (S, M, some (.inl (0 : Int)))))))))) : Ca 177 [.inr (.inr 173), .inl p1, .inl p2, .inl p3] S M Q := by
  have hP : PR 177 = (bc_177, 6) := rfl
  refine ⟨Nat.le_of_ble_eq_true rfl, ?_⟩
  show En 177 0 [some (.inr (.inr 173)), some (.inl p1), some (.inl p2), some (.inl p3), none, none] [] S M Q
  refine e_ld hP rfl rfl ?_
  refine e_ld hP rfl rfl ?_
  refine e_ceq hP rfl (fun hc => ?_) (fun hc => ?_)
  · have h := h.1 hc
    refine e_c hP rfl ?_
    exact e_ret hP rfl rfl h
  · have h := h.2 hc
    refine e_ld hP rfl rfl ?_
    refine e_gR (a := 9) (w := 181) 172 (sh_172 hM) hP rfl (by decide) rfl ?_
    refine e_c hP rfl ?_
    refine e_ld hP rfl rfl ?_
    obtain ⟨hs1, h⟩ := h
    refine e_add hP rfl hs1 ?_
    obtain ⟨hs2, h⟩ := h
    refine e_al 180 (sh_180 hM) hP rfl hs2 ?_
    refine e_zgt hP rfl (fun hc => ?_) (fun hc => ?_)
    · have h := h.1 hc
      refine e_c hP rfl ?_
      exact e_ret hP rfl rfl h
    · have h := h.2 hc
      refine e_ld hP rfl rfl ?_
      refine e_gR (a := 9) (w := 181) 172 (sh_172 hM) hP rfl (by decide) rfl ?_
      refine e_c hP rfl ?_
      refine e_ld hP rfl rfl ?_
      obtain ⟨hs3, h⟩ := h
      refine e_add hP rfl hs3 ?_
      obtain ⟨hs4, h⟩ := h
      refine e_al 180 (sh_180 hM) hP rfl hs4 ?_
      refine e_zle hP rfl (fun hc => ?_) (fun hc => ?_)
      · have h := h.1 hc
        refine e_ld hP rfl rfl ?_
        refine e_c hP rfl ?_
        refine e_ld hP rfl rfl ?_
        refine e_call hP rfl rfl rfl (Nat.le_of_ble_eq_true rfl) (Nat.le_of_ble_eq_true rfl) (rcv0 (sh_172 hM) (by decide)) ?_
        refine Ca.mono h (fun r hr => ?_)
        obtain ⟨M5, v6, rfl, h⟩ := hr
        show En 177 23 [some (.inr (.inr 173)), some (.inl p1), some (.inl p2), some (.inl p3), none, none] [.inl v6] S M5 Q
        refine e_st (L' := [some (.inr (.inr 173)), some (.inl p1), some (.inl p2), some (.inl p3), some (.inl v6), none]) hP rfl rfl ?_
        refine e_ld hP rfl rfl ?_
        refine e_c hP rfl ?_
        refine e_ld hP rfl rfl ?_
        refine e_call hP rfl rfl rfl (Nat.le_of_ble_eq_true rfl) (Nat.le_of_ble_eq_true rfl) (rcv0 (sh_172 hM) (by decide)) ?_
        refine Ca.mono h (fun r hr => ?_)
        obtain ⟨M7, v8, rfl, h⟩ := hr
        show En 177 28 [some (.inr (.inr 173)), some (.inl p1), some (.inl p2), some (.inl p3), some (.inl v6), none] [.inl v8] S M7 Q
        refine e_st (L' := [some (.inr (.inr 173)), some (.inl p1), some (.inl p2), some (.inl p3), some (.inl v6), some (.inl v8)]) hP rfl rfl ?_
        refine e_ld hP rfl rfl ?_
        refine e_zlt hP rfl (fun hc => ?_) (fun hc => ?_)
        · have h := h.1 hc
          refine e_c hP rfl ?_
          exact e_ret hP rfl rfl h
        · have h := h.2 hc
          refine e_ld hP rfl rfl ?_
          refine e_zge hP rfl (fun hc => ?_) (fun hc => ?_)
          · have h := h.1 hc
            refine e_ld hP rfl rfl ?_
            refine e_gR (a := 9) (w := 181) 172 (sh_172 hM) hP rfl (by decide) rfl ?_
            refine e_c hP rfl ?_
            refine e_ld hP rfl rfl ?_
            obtain ⟨hs9, h⟩ := h
            refine e_add hP rfl hs9 ?_
            obtain ⟨hs10, h⟩ := h
            refine e_al 180 (sh_180 hM) hP rfl hs10 ?_
            refine e_ld hP rfl rfl ?_
            refine e_gR (a := 9) (w := 181) 172 (sh_172 hM) hP rfl (by decide) rfl ?_
            refine e_c hP rfl ?_
            refine e_ld hP rfl rfl ?_
            obtain ⟨hs11, h⟩ := h
            refine e_add hP rfl hs11 ?_
            obtain ⟨hs12, h⟩ := h
            refine e_al 180 (sh_180 hM) hP rfl hs12 ?_
            obtain ⟨hs13, h⟩ := h
            refine e_sub hP rfl hs13 ?_
            refine e_i2l hP rfl ?_
            refine e_ld hP rfl rfl ?_
            obtain ⟨hs14, h⟩ := h
            refine e_un (z := -p3) hP rfl (if_pos hs14) ?_
            refine e_i2l hP rfl ?_
            refine e_ld hP rfl rfl ?_
            refine e_i2l hP rfl ?_
            refine e_call hP rfl rfl rfl (Nat.le_of_ble_eq_true rfl) (Nat.le_of_ble_eq_true rfl) rcv1 ?_
            refine Ca.mono h (fun r hr => ?_)
            obtain ⟨M15, v16, rfl, h⟩ := hr
            show En 177 55 [some (.inr (.inr 173)), some (.inl p1), some (.inl p2), some (.inl p3), some (.inl v6), some (.inl v8)] [.inl v16] S M15 Q
            refine e_zeq hP rfl (fun hc => ?_) (fun hc => ?_)
            · have h := h.1 hc
              refine e_c hP rfl ?_
              exact e_ret hP rfl rfl h
            · have h := h.2 hc
              refine e_ld hP rfl rfl ?_
              refine e_ld hP rfl rfl ?_
              refine e_ld hP rfl rfl ?_
              refine e_call hP rfl rfl rfl (Nat.le_of_ble_eq_true rfl) (Nat.le_of_ble_eq_true rfl) (rcv0 (sh_172 hM) (by decide)) ?_
              refine Ca.mono h (fun r hr => ?_)
              obtain ⟨M17, v18, rfl, h⟩ := hr
              show En 177 60 [some (.inr (.inr 173)), some (.inl p1), some (.inl p2), some (.inl p3), some (.inl v6), some (.inl v8)] [.inl v18] S M17 Q
              refine e_zne hP rfl (fun hc => ?_) (fun hc => ?_)
              · have h := h.1 hc
                refine e_c hP rfl ?_
                exact e_ret hP rfl rfl h
              · have h := h.2 hc
                refine e_c hP rfl ?_
                refine e_go hP rfl ?_
                exact e_ret hP rfl rfl h
          · have h := h.2 hc
            refine e_c hP rfl ?_
            exact e_ret hP rfl rfl h
      · have h := h.2 hc
        refine e_c hP rfl ?_
        exact e_ret hP rfl rfl h
theorem r_X9_isTwo_0 {S : Shp} {M : Mem} {Q : Res → Prop} (hM : KM S) {p1 p2 : Int} (h : Ca 156 [.inr (.inr 173), .inl p1] S M (fun r => ∃ (M1 : Mem) (v2 : Int), r = (S, M1, some (.inl v2)) ∧ ((v2 = 0 → Q (S, M1, some (.inl (0 : Int)))) ∧ (v2 ≠ 0 → Ca 156 [.inr (.inr 173), .inl p2] S M1 (fun r => ∃ (M3 : Mem) (v4 : Int), r = (S, M3, some (.inl v4)) ∧ ((v4 = 0 → Q (S, M3, some (.inl (0 : Int)))) ∧ (v4 ≠ 0 → ((p1 = p2 → Q (S, M3, some (.inl (0 : Int)))) ∧ (p1 ≠ p2 → Q (S, M3, some (.inl (1 : Int)))))))))))) : Ca 178 [.inr (.inr 173), .inl p1, .inl p2] S M Q := by
  have hP : PR 178 = (bc_178, 3) := rfl
  refine ⟨Nat.le_of_ble_eq_true rfl, ?_⟩
  show En 178 0 [some (.inr (.inr 173)), some (.inl p1), some (.inl p2)] [] S M Q
  refine e_ld hP rfl rfl ?_
  refine e_ld hP rfl rfl ?_
  refine e_call hP rfl rfl rfl (Nat.le_of_ble_eq_true rfl) (Nat.le_of_ble_eq_true rfl) (rcv0 (sh_172 hM) (by decide)) ?_
  refine Ca.mono h (fun r hr => ?_)
  obtain ⟨M1, v2, rfl, h⟩ := hr
  show En 178 3 [some (.inr (.inr 173)), some (.inl p1), some (.inl p2)] [.inl v2] S M1 Q
  refine e_zeq hP rfl (fun hc => ?_) (fun hc => ?_)
  · have h := h.1 hc
    refine e_c hP rfl ?_
    exact e_ret hP rfl rfl h
  · have h := h.2 hc
    refine e_ld hP rfl rfl ?_
    refine e_ld hP rfl rfl ?_
    refine e_call hP rfl rfl rfl (Nat.le_of_ble_eq_true rfl) (Nat.le_of_ble_eq_true rfl) (rcv0 (sh_172 hM) (by decide)) ?_
    refine Ca.mono h (fun r hr => ?_)
    obtain ⟨M3, v4, rfl, h⟩ := hr
    show En 178 7 [some (.inr (.inr 173)), some (.inl p1), some (.inl p2)] [.inl v4] S M3 Q
    refine e_zeq hP rfl (fun hc => ?_) (fun hc => ?_)
    · have h := h.1 hc
      refine e_c hP rfl ?_
      exact e_ret hP rfl rfl h
    · have h := h.2 hc
      refine e_ld hP rfl rfl ?_
      refine e_ld hP rfl rfl ?_
      refine e_ceq hP rfl (fun hc => ?_) (fun hc => ?_)
      · have h := h.1 hc
        refine e_c hP rfl ?_
        exact e_ret hP rfl rfl h
      · have h := h.2 hc
        refine e_c hP rfl ?_
        refine e_go hP rfl ?_
        exact e_ret hP rfl rfl h
theorem r_X9_may_0 {S : Shp} {M : Mem} {Q : Res → Prop} (hM : KM S) {p1 p2 : Int} (h : Ca 178 [.inr (.inr 173), .inl p1, .inl p2] S M (fun r => ∃ (M1 : Mem) (v2 : Int), r = (S, M1, some (.inl v2)) ∧ ((v2 ≠ 0 → (0 ≤ (2 : Int) ∧ (2 : Int) < 12) ∧ Ca 177 [.inr (.inr 173), .inl p1, .inl p2, .inl (M1 174 (2 : Int).toNat)] S M1 (fun r => ∃ (M4 : Mem) (v5 : Int), r = (S, M4, some (.inl v5)) ∧ ((v5 = 0 → Q (S, M4, some (.inl (0 : Int)))) ∧ (v5 ≠ 0 → Q (S, M4, some (.inl (1 : Int))))))) ∧ (v2 = 0 → Q (S, M1, some (.inl (-1 : Int))))))) : Ca 179 [.inr (.inr 173), .inl p1, .inl p2] S M Q := by
  have hP : PR 179 = (bc_179, 3) := rfl
  refine ⟨Nat.le_of_ble_eq_true rfl, ?_⟩
  show En 179 0 [some (.inr (.inr 173)), some (.inl p1), some (.inl p2)] [] S M Q
  refine e_ld hP rfl rfl ?_
  refine e_ld hP rfl rfl ?_
  refine e_ld hP rfl rfl ?_
  refine e_call hP rfl rfl rfl (Nat.le_of_ble_eq_true rfl) (Nat.le_of_ble_eq_true rfl) (rcv0 (sh_172 hM) (by decide)) ?_
  refine Ca.mono h (fun r hr => ?_)
  obtain ⟨M1, v2, rfl, h⟩ := hr
  show En 179 4 [some (.inr (.inr 173)), some (.inl p1), some (.inl p2)] [.inl v2] S M1 Q
  refine e_zne hP rfl (fun hc => ?_) (fun hc => ?_)
  · have h := h.1 hc
    refine e_ld hP rfl rfl ?_
    refine e_ld hP rfl rfl ?_
    refine e_ld hP rfl rfl ?_
    refine e_ld hP rfl rfl ?_
    refine e_gR (a := 9) (w := 175) 172 (sh_172 hM) hP rfl (by decide) rfl ?_
    refine e_c hP rfl ?_
    obtain ⟨hs3, h⟩ := h
    refine e_al 174 (sh_174 hM) hP rfl hs3 ?_
    refine e_call hP rfl rfl rfl (Nat.le_of_ble_eq_true rfl) (Nat.le_of_ble_eq_true rfl) (rcv0 (sh_172 hM) (by decide)) ?_
    refine Ca.mono h (fun r hr => ?_)
    obtain ⟨M4, v5, rfl, h⟩ := hr
    show En 179 15 [some (.inr (.inr 173)), some (.inl p1), some (.inl p2)] [.inl v5] S M4 Q
    refine e_zeq hP rfl (fun hc => ?_) (fun hc => ?_)
    · have h := h.1 hc
      refine e_c hP rfl ?_
      exact e_ret hP rfl rfl h
    · have h := h.2 hc
      refine e_c hP rfl ?_
      refine e_go hP rfl ?_
      exact e_ret hP rfl rfl h
  · have h := h.2 hc
    refine e_c hP rfl ?_
    refine e_go hP rfl ?_
    exact e_ret hP rfl rfl h
theorem r_X9_weds_0 {S : Shp} {M : Mem} {Q : Res → Prop} (hM : KM S) (h : En 180 4 [some (.inr (.inr 173)), some (.inl (0 : Int)), some (.inl (0 : Int))] [] S M Q) : Ca 180 [.inr (.inr 173)] S M Q := by
  have hP : PR 180 = (bc_180, 3) := rfl
  refine ⟨Nat.le_of_ble_eq_true rfl, ?_⟩
  show En 180 0 [some (.inr (.inr 173)), none, none] [] S M Q
  refine e_c hP rfl ?_
  refine e_st (L' := [some (.inr (.inr 173)), some (.inl (0 : Int)), none]) hP rfl rfl ?_
  refine e_c hP rfl ?_
  refine e_st (L' := [some (.inr (.inr 173)), some (.inl (0 : Int)), some (.inl (0 : Int))]) hP rfl rfl ?_
  exact h
theorem r_X9_weds_4 {S : Shp} {M : Mem} {Q : Res → Prop} (hM : KM S) {x1 x2 : Int} (h : (0 ≤ (0 : Int) ∧ (0 : Int) < 12) ∧ (((M 174 (0 : Int).toNat) ≤ x2 → Q (S, M, some (.inl x1))) ∧ (x2 < (M 174 (0 : Int).toNat) → (inR ((64 : Int) + x2)) ∧ (0 ≤ ((64 : Int) + x2) ∧ ((64 : Int) + x2) < 2040) ∧ (((M 180 ((64 : Int) + x2).toNat) ≤ 0 → (inR (x1 + (0 : Int))) ∧ (inR (x2 + 1)) ∧ En 180 4 [some (.inr (.inr 173)), some (.inl (x1 + (0 : Int))), some (.inl (x2 + 1))] [] S M Q) ∧ (0 < (M 180 ((64 : Int) + x2).toNat) → (inR (x1 + (1 : Int))) ∧ (inR (x2 + 1)) ∧ En 180 4 [some (.inr (.inr 173)), some (.inl (x1 + (1 : Int))), some (.inl (x2 + 1))] [] S M Q))))) : En 180 4 [some (.inr (.inr 173)), some (.inl x1), some (.inl x2)] [] S M Q := by
  have hP : PR 180 = (bc_180, 3) := rfl
  refine e_ld hP rfl rfl ?_
  refine e_ld hP rfl rfl ?_
  refine e_gR (a := 9) (w := 175) 172 (sh_172 hM) hP rfl (by decide) rfl ?_
  refine e_c hP rfl ?_
  obtain ⟨hs1, h⟩ := h
  refine e_al 174 (sh_174 hM) hP rfl hs1 ?_
  refine e_cge hP rfl (fun hc => ?_) (fun hc => ?_)
  · have h := h.1 hc
    refine e_ld hP rfl rfl ?_
    exact e_ret hP rfl rfl h
  · have h := h.2 hc
    refine e_ld hP rfl rfl ?_
    refine e_ld hP rfl rfl ?_
    refine e_gR (a := 9) (w := 181) 172 (sh_172 hM) hP rfl (by decide) rfl ?_
    refine e_c hP rfl ?_
    refine e_ld hP rfl rfl ?_
    obtain ⟨hs2, h⟩ := h
    refine e_add hP rfl hs2 ?_
    obtain ⟨hs3, h⟩ := h
    refine e_al 180 (sh_180 hM) hP rfl hs3 ?_
    refine e_zle hP rfl (fun hc => ?_) (fun hc => ?_)
    · have h := h.1 hc
      refine e_c hP rfl ?_
      obtain ⟨hs4, h⟩ := h
      refine e_add hP rfl hs4 ?_
      refine e_st (L' := [some (.inr (.inr 173)), some (.inl (x1 + (0 : Int))), some (.inl x2)]) hP rfl rfl ?_
      obtain ⟨hs5, h⟩ := h
      refine e_inc (L' := [some (.inr (.inr 173)), some (.inl (x1 + (0 : Int))), some (.inl (x2 + 1))]) hP rfl rfl hs5 rfl ?_
      refine e_go hP rfl ?_
      exact h
    · have h := h.2 hc
      refine e_c hP rfl ?_
      refine e_go hP rfl ?_
      obtain ⟨hs6, h⟩ := h
      refine e_add hP rfl hs6 ?_
      refine e_st (L' := [some (.inr (.inr 173)), some (.inl (x1 + (1 : Int))), some (.inl x2)]) hP rfl rfl ?_
      obtain ⟨hs7, h⟩ := h
      refine e_inc (L' := [some (.inr (.inr 173)), some (.inl (x1 + (1 : Int))), some (.inl (x2 + 1))]) hP rfl rfl hs7 rfl ?_
      refine e_go hP rfl ?_
      exact h
theorem r_X9_wed_0 {S : Shp} {M : Mem} {Q : Res → Prop} (hM : KM S) {p1 p2 : Int} (h : Ca 178 [.inr (.inr 173), .inl p1, .inl p2] S M (fun r => ∃ (M1 : Mem) (v2 : Int), r = (S, M1, some (.inl v2)) ∧ ((v2 ≠ 0 → (0 ≤ (2 : Int) ∧ (2 : Int) < 12) ∧ Ca 177 [.inr (.inr 173), .inl p1, .inl p2, .inl (M1 174 (2 : Int).toNat)] S M1 (fun r => ∃ (M4 : Mem) (v5 : Int), r = (S, M4, some (.inl v5)) ∧ ((v5 ≠ 0 → Ca 171 [.inr (.inr 173)] S M4 (fun r => ∃ M6 : Mem, r = (S, M6, none) ∧ (inR ((64 : Int) + p1)) ∧ (inR (p2 + (1 : Int))) ∧ (0 ≤ ((64 : Int) + p1) ∧ ((64 : Int) + p1) < 2040) ∧ (inR ((64 : Int) + p2)) ∧ (inR (p1 + (1 : Int))) ∧ (0 ≤ ((64 : Int) + p2) ∧ ((64 : Int) + p2) < 2040) ∧ Ca 180 [.inr (.inr 173)] S (up2 (up2 M6 180 ((64 : Int) + p1).toNat (p2 + (1 : Int))) 180 ((64 : Int) + p2).toNat (p1 + (1 : Int))) (fun r => ∃ (M13 : Mem) (v14 : Int), r = (S, M13, some (.inl v14)) ∧ Q (S, M13, some (.inl v14))))) ∧ (v5 = 0 → Q (S, M4, some (.inl (-2 : Int))))))) ∧ (v2 = 0 → Q (S, M1, some (.inl (-1 : Int))))))) : Ca 181 [.inr (.inr 173), .inl p1, .inl p2] S M Q := by
  have hP : PR 181 = (bc_181, 3) := rfl
  refine ⟨Nat.le_of_ble_eq_true rfl, ?_⟩
  show En 181 0 [some (.inr (.inr 173)), some (.inl p1), some (.inl p2)] [] S M Q
  refine e_ld hP rfl rfl ?_
  refine e_ld hP rfl rfl ?_
  refine e_ld hP rfl rfl ?_
  refine e_call hP rfl rfl rfl (Nat.le_of_ble_eq_true rfl) (Nat.le_of_ble_eq_true rfl) (rcv0 (sh_172 hM) (by decide)) ?_
  refine Ca.mono h (fun r hr => ?_)
  obtain ⟨M1, v2, rfl, h⟩ := hr
  show En 181 4 [some (.inr (.inr 173)), some (.inl p1), some (.inl p2)] [.inl v2] S M1 Q
  refine e_zne hP rfl (fun hc => ?_) (fun hc => ?_)
  · have h := h.1 hc
    refine e_ld hP rfl rfl ?_
    refine e_ld hP rfl rfl ?_
    refine e_ld hP rfl rfl ?_
    refine e_ld hP rfl rfl ?_
    refine e_gR (a := 9) (w := 175) 172 (sh_172 hM) hP rfl (by decide) rfl ?_
    refine e_c hP rfl ?_
    obtain ⟨hs3, h⟩ := h
    refine e_al 174 (sh_174 hM) hP rfl hs3 ?_
    refine e_call hP rfl rfl rfl (Nat.le_of_ble_eq_true rfl) (Nat.le_of_ble_eq_true rfl) (rcv0 (sh_172 hM) (by decide)) ?_
    refine Ca.mono h (fun r hr => ?_)
    obtain ⟨M4, v5, rfl, h⟩ := hr
    show En 181 15 [some (.inr (.inr 173)), some (.inl p1), some (.inl p2)] [.inl v5] S M4 Q
    refine e_zne hP rfl (fun hc => ?_) (fun hc => ?_)
    · have h := h.1 hc
      refine e_ld hP rfl rfl ?_
      refine e_call hP rfl rfl rfl (Nat.le_of_ble_eq_true rfl) (Nat.le_of_ble_eq_true rfl) (rcv0 (sh_172 hM) (by decide)) ?_
      refine Ca.mono h (fun r hr => ?_)
      obtain ⟨M6, rfl, h⟩ := hr
      show En 181 20 [some (.inr (.inr 173)), some (.inl p1), some (.inl p2)] [] S M6 Q
      refine e_ld hP rfl rfl ?_
      refine e_gR (a := 9) (w := 181) 172 (sh_172 hM) hP rfl (by decide) rfl ?_
      refine e_c hP rfl ?_
      refine e_ld hP rfl rfl ?_
      obtain ⟨hs7, h⟩ := h
      refine e_add hP rfl hs7 ?_
      refine e_ld hP rfl rfl ?_
      refine e_c hP rfl ?_
      obtain ⟨hs8, h⟩ := h
      refine e_add hP rfl hs8 ?_
      obtain ⟨hs9, h⟩ := h
      refine e_as 180 (sh_180 hM) (by decide) hP rfl hs9 ?_
      refine e_ld hP rfl rfl ?_
      refine e_gR (a := 9) (w := 181) 172 (sh_172 hM) hP rfl (by decide) rfl ?_
      refine e_c hP rfl ?_
      refine e_ld hP rfl rfl ?_
      obtain ⟨hs10, h⟩ := h
      refine e_add hP rfl hs10 ?_
      refine e_ld hP rfl rfl ?_
      refine e_c hP rfl ?_
      obtain ⟨hs11, h⟩ := h
      refine e_add hP rfl hs11 ?_
      obtain ⟨hs12, h⟩ := h
      refine e_as 180 (sh_180 hM) (by decide) hP rfl hs12 ?_
      refine e_ld hP rfl rfl ?_
      refine e_call hP rfl rfl rfl (Nat.le_of_ble_eq_true rfl) (Nat.le_of_ble_eq_true rfl) (rcv0 (sh_172 hM) (by decide)) ?_
      refine Ca.mono h (fun r hr => ?_)
      obtain ⟨M13, v14, rfl, h⟩ := hr
      show En 181 40 [some (.inr (.inr 173)), some (.inl p1), some (.inl p2)] [.inl v14] S M13 Q
      exact e_ret hP rfl rfl h
    · have h := h.2 hc
      refine e_c hP rfl ?_
      exact e_ret hP rfl rfl h
  · have h := h.2 hc
    refine e_c hP rfl ?_
    exact e_ret hP rfl rfl h
theorem r_X9_owes_0 {S : Shp} {M : Mem} {Q : Res → Prop} (hM : KM S) {p1 p2 : Int} (h : (inR ((8 : Int) * p1)) ∧ (inR ((80 : Int) + ((8 : Int) * p1))) ∧ (inR (((80 : Int) + ((8 : Int) * p1)) + p2)) ∧ (0 ≤ (((80 : Int) + ((8 : Int) * p1)) + p2) ∧ (((80 : Int) + ((8 : Int) * p1)) + p2) < 2040) ∧ Q (S, M, some (.inl (M 180 (((80 : Int) + ((8 : Int) * p1)) + p2).toNat)))) : Ca 182 [.inr (.inr 173), .inl p1, .inl p2] S M Q := by
  have hP : PR 182 = (bc_182, 3) := rfl
  refine ⟨Nat.le_of_ble_eq_true rfl, ?_⟩
  show En 182 0 [some (.inr (.inr 173)), some (.inl p1), some (.inl p2)] [] S M Q
  refine e_ld hP rfl rfl ?_
  refine e_gR (a := 9) (w := 181) 172 (sh_172 hM) hP rfl (by decide) rfl ?_
  refine e_c hP rfl ?_
  refine e_c hP rfl ?_
  refine e_ld hP rfl rfl ?_
  obtain ⟨hs1, h⟩ := h
  refine e_mul hP rfl hs1 ?_
  obtain ⟨hs2, h⟩ := h
  refine e_add hP rfl hs2 ?_
  refine e_ld hP rfl rfl ?_
  obtain ⟨hs3, h⟩ := h
  refine e_add hP rfl hs3 ?_
  obtain ⟨hs4, h⟩ := h
  refine e_al 180 (sh_180 hM) hP rfl hs4 ?_
  exact e_ret hP rfl rfl h
theorem r_X9_lend_0 {S : Shp} {M : Mem} {Q : Res → Prop} (hM : KM S) {p1 p2 p3 : Int} (h : Ca 178 [.inr (.inr 173), .inl p1, .inl p2] S M (fun r => ∃ (M1 : Mem) (v2 : Int), r = (S, M1, some (.inl v2)) ∧ ((v2 = 0 → En 183 11 [some (.inr (.inr 173)), some (.inl p1), some (.inl p2), some (.inl p3), none, none, none] [] S M1 Q) ∧ (v2 ≠ 0 → Ca 140 [.inr (.inl p3), .inr (.inl (1 : Int)), .inr (.inl (99 : Int))] S M1 (fun r => ∃ (M3 : Mem) (v4 : Int), r = (S, M3, some (.inl v4)) ∧ ((v4 ≠ 0 → Ca 158 [.inr (.inr 173), .inl (0 : Int), .inl p1] S M3 (fun r => ∃ (M5 : Mem) (v6 : Int), r = (S, M5, some (.inl v6)) ∧ Ca 158 [.inr (.inr 173), .inl (0 : Int), .inl p2] S M5 (fun r => ∃ (M7 : Mem) (v8 : Int), r = (S, M7, some (.inl v8)) ∧ ((v6 < 0 → En 183 40 [some (.inr (.inr 173)), some (.inl p1), some (.inl p2), some (.inl p3), some (.inl v6), some (.inl v8), none] [] S M7 Q) ∧ (0 ≤ v6 → ((v8 < 0 → En 183 40 [some (.inr (.inr 173)), some (.inl p1), some (.inl p2), some (.inl p3), some (.inl v6), some (.inl v8), none] [] S M7 Q) ∧ (0 ≤ v8 → (inR ((144 : Int) + v8)) ∧ (0 ≤ ((144 : Int) + v8) ∧ ((144 : Int) + v8) < 2040) ∧ (inR ((144 : Int) + v6)) ∧ (0 ≤ ((144 : Int) + v6) ∧ ((144 : Int) + v6) < 2040) ∧ (((M7 180 ((144 : Int) + v8).toNat) ≤ (M7 180 ((144 : Int) + v6).toNat) → En 183 43 [some (.inr (.inr 173)), some (.inl p1), some (.inl p2), some (.inl p3), some (.inl v6), some (.inl v8), none] [.inl (0 : Int)] S M7 Q) ∧ ((M7 180 ((144 : Int) + v6).toNat) < (M7 180 ((144 : Int) + v8).toNat) → En 183 40 [some (.inr (.inr 173)), some (.inl p1), some (.inl p2), some (.inl p3), some (.inl v6), some (.inl v8), none] [] S M7 Q))))))))) ∧ (v4 = 0 → En 183 11 [some (.inr (.inr 173)), some (.inl p1), some (.inl p2), some (.inl p3), none, none, none] [] S M3 Q))))))) : Ca 183 [.inr (.inr 173), .inl p1, .inl p2, .inl p3] S M Q := by
  have hP : PR 183 = (bc_183, 7) := rfl
  refine ⟨Nat.le_of_ble_eq_true rfl, ?_⟩
  show En 183 0 [some (.inr (.inr 173)), some (.inl p1), some (.inl p2), some (.inl p3), none, none, none] [] S M Q
  refine e_ld hP rfl rfl ?_
  refine e_ld hP rfl rfl ?_
  refine e_ld hP rfl rfl ?_
  refine e_call hP rfl rfl rfl (Nat.le_of_ble_eq_true rfl) (Nat.le_of_ble_eq_true rfl) (rcv0 (sh_172 hM) (by decide)) ?_
  refine Ca.mono h (fun r hr => ?_)
  obtain ⟨M1, v2, rfl, h⟩ := hr
  show En 183 4 [some (.inr (.inr 173)), some (.inl p1), some (.inl p2), some (.inl p3), none, none, none] [.inl v2] S M1 Q
  refine e_zeq hP rfl (fun hc => ?_) (fun hc => ?_)
  · have h := h.1 hc
    exact h
  · have h := h.2 hc
    refine e_ld hP rfl rfl ?_
    refine e_i2l hP rfl ?_
    refine e_lc hP rfl ?_
    refine e_lc hP rfl ?_
    refine e_call hP rfl rfl rfl (Nat.le_of_ble_eq_true rfl) (Nat.le_of_ble_eq_true rfl) rcv1 ?_
    refine Ca.mono h (fun r hr => ?_)
    obtain ⟨M3, v4, rfl, h⟩ := hr
    show En 183 10 [some (.inr (.inr 173)), some (.inl p1), some (.inl p2), some (.inl p3), none, none, none] [.inl v4] S M3 Q
    refine e_zne hP rfl (fun hc => ?_) (fun hc => ?_)
    · have h := h.1 hc
      refine e_ld hP rfl rfl ?_
      refine e_c hP rfl ?_
      refine e_ld hP rfl rfl ?_
      refine e_call hP rfl rfl rfl (Nat.le_of_ble_eq_true rfl) (Nat.le_of_ble_eq_true rfl) (rcv0 (sh_172 hM) (by decide)) ?_
      refine Ca.mono h (fun r hr => ?_)
      obtain ⟨M5, v6, rfl, h⟩ := hr
      show En 183 17 [some (.inr (.inr 173)), some (.inl p1), some (.inl p2), some (.inl p3), none, none, none] [.inl v6] S M5 Q
      refine e_st (L' := [some (.inr (.inr 173)), some (.inl p1), some (.inl p2), some (.inl p3), some (.inl v6), none, none]) hP rfl rfl ?_
      refine e_ld hP rfl rfl ?_
      refine e_c hP rfl ?_
      refine e_ld hP rfl rfl ?_
      refine e_call hP rfl rfl rfl (Nat.le_of_ble_eq_true rfl) (Nat.le_of_ble_eq_true rfl) (rcv0 (sh_172 hM) (by decide)) ?_
      refine Ca.mono h (fun r hr => ?_)
      obtain ⟨M7, v8, rfl, h⟩ := hr
      show En 183 22 [some (.inr (.inr 173)), some (.inl p1), some (.inl p2), some (.inl p3), some (.inl v6), none, none] [.inl v8] S M7 Q
      refine e_st (L' := [some (.inr (.inr 173)), some (.inl p1), some (.inl p2), some (.inl p3), some (.inl v6), some (.inl v8), none]) hP rfl rfl ?_
      refine e_ld hP rfl rfl ?_
      refine e_zlt hP rfl (fun hc => ?_) (fun hc => ?_)
      · have h := h.1 hc
        exact h
      · have h := h.2 hc
        refine e_ld hP rfl rfl ?_
        refine e_zlt hP rfl (fun hc => ?_) (fun hc => ?_)
        · have h := h.1 hc
          exact h
        · have h := h.2 hc
          refine e_ld hP rfl rfl ?_
          refine e_gR (a := 9) (w := 181) 172 (sh_172 hM) hP rfl (by decide) rfl ?_
          refine e_c hP rfl ?_
          refine e_ld hP rfl rfl ?_
          obtain ⟨hs9, h⟩ := h
          refine e_add hP rfl hs9 ?_
          obtain ⟨hs10, h⟩ := h
          refine e_al 180 (sh_180 hM) hP rfl hs10 ?_
          refine e_ld hP rfl rfl ?_
          refine e_gR (a := 9) (w := 181) 172 (sh_172 hM) hP rfl (by decide) rfl ?_
          refine e_c hP rfl ?_
          refine e_ld hP rfl rfl ?_
          obtain ⟨hs11, h⟩ := h
          refine e_add hP rfl hs11 ?_
          obtain ⟨hs12, h⟩ := h
          refine e_al 180 (sh_180 hM) hP rfl hs12 ?_
          refine e_cle hP rfl (fun hc => ?_) (fun hc => ?_)
          · have h := h.1 hc
            refine e_c hP rfl ?_
            exact h
          · have h := h.2 hc
            exact h
    · have h := h.2 hc
      exact h
theorem r_X9_lend_11 {S : Shp} {M : Mem} {Q : Res → Prop} (hM : KM S) {x1 x2 x3 : Int} (h : Q (S, M, some (.inl (-1 : Int)))) : En 183 11 [some (.inr (.inr 173)), some (.inl x1), some (.inl x2), some (.inl x3), none, none, none] [] S M Q := by
  have hP : PR 183 = (bc_183, 7) := rfl
  refine e_c hP rfl ?_
  exact e_ret hP rfl rfl h
theorem r_X9_lend_40 {S : Shp} {M : Mem} {Q : Res → Prop} (hM : KM S) {x1 x2 x3 x4 x5 : Int} (h : En 183 43 [some (.inr (.inr 173)), some (.inl x1), some (.inl x2), some (.inl x3), some (.inl x4), some (.inl x5), none] [.inl (1 : Int)] S M Q) : En 183 40 [some (.inr (.inr 173)), some (.inl x1), some (.inl x2), some (.inl x3), some (.inl x4), some (.inl x5), none] [] S M Q := by
  have hP : PR 183 = (bc_183, 7) := rfl
  refine e_c hP rfl ?_
  refine e_go hP rfl ?_
  exact h
theorem r_X9_lend_43 {S : Shp} {M : Mem} {Q : Res → Prop} (hM : KM S) {x1 x2 x3 x4 x5 s0 : Int} (h : ((s0 = 0 → En 183 62 [some (.inr (.inr 173)), some (.inl x1), some (.inl x2), some (.inl x3), some (.inl x4), some (.inl x5), some (.inl s0)] [] S M Q) ∧ (s0 ≠ 0 → (inR ((56 : Int) + x1)) ∧ (0 ≤ ((56 : Int) + x1) ∧ ((56 : Int) + x1) < 2040) ∧ (((M 180 ((56 : Int) + x1).toNat) < x3 → En 183 62 [some (.inr (.inr 173)), some (.inl x1), some (.inl x2), some (.inl x3), some (.inl x4), some (.inl x5), some (.inl s0)] [] S M Q) ∧ (x3 ≤ (M 180 ((56 : Int) + x1).toNat) → Ca 182 [.inr (.inr 173), .inl x2, .inl x1] S M (fun r => ∃ (M3 : Mem) (v4 : Int), r = (S, M3, some (.inl v4)) ∧ (inR (v4 + x3)) ∧ (((v4 + x3) ≤ (999 : Int) → Ca 171 [.inr (.inr 173)] S M3 (fun r => ∃ M6 : Mem, r = (S, M6, none) ∧ (inR ((56 : Int) + x1)) ∧ (0 ≤ ((56 : Int) + x1) ∧ ((56 : Int) + x1) < 2040) ∧ (inR ((M6 180 ((56 : Int) + x1).toNat) - x3)) ∧ (0 ≤ ((56 : Int) + x1) ∧ ((56 : Int) + x1) < 2040) ∧ (inR ((56 : Int) + x2)) ∧ (0 ≤ ((56 : Int) + x2) ∧ ((56 : Int) + x2) < 2040) ∧ (inR (((up2 M6 180 ((56 : Int) + x1).toNat ((M6 180 ((56 : Int) + x1).toNat) - x3)) 180 ((56 : Int) + x2).toNat) + x3)) ∧ (0 ≤ ((56 : Int) + x2) ∧ ((56 : Int) + x2) < 2040) ∧ (inR ((8 : Int) * x2)) ∧ (inR ((80 : Int) + ((8 : Int) * x2))) ∧ (inR (((80 : Int) + ((8 : Int) * x2)) + x1)) ∧ (0 ≤ (((80 : Int) + ((8 : Int) * x2)) + x1) ∧ (((80 : Int) + ((8 : Int) * x2)) + x1) < 2040) ∧ (inR (((up2 (up2 M6 180 ((56 : Int) + x1).toNat ((M6 180 ((56 : Int) + x1).toNat) - x3)) 180 ((56 : Int) + x2).toNat (((up2 M6 180 ((56 : Int) + x1).toNat ((M6 180 ((56 : Int) + x1).toNat) - x3)) 180 ((56 : Int) + x2).toNat) + x3)) 180 (((80 : Int) + ((8 : Int) * x2)) + x1).toNat) + x3)) ∧ (0 ≤ (((80 : Int) + ((8 : Int) * x2)) + x1) ∧ (((80 : Int) + ((8 : Int) * x2)) + x1) < 2040) ∧ Ca 182 [.inr (.inr 173), .inl x2, .inl x1] S (up2 (up2 (up2 M6 180 ((56 : Int) + x1).toNat ((M6 180 ((56 : Int) + x1).toNat) - x3)) 180 ((56 : Int) + x2).toNat (((up2 M6 180 ((56 : Int) + x1).toNat ((M6 180 ((56 : Int) + x1).toNat) - x3)) 180 ((56 : Int) + x2).toNat) + x3)) 180 (((80 : Int) + ((8 : Int) * x2)) + x1).toNat (((up2 (up2 M6 180 ((56 : Int) + x1).toNat ((M6 180 ((56 : Int) + x1).toNat) - x3)) 180 ((56 : Int) + x2).toNat (((up2 M6 180 ((56 : Int) + x1).toNat ((M6 180 ((56 : Int) + x1).toNat) - x3)) 180 ((56 : Int) + x2).toNat) + x3)) 180 (((80 : Int) + ((8 : Int) * x2)) + x1).toNat) + x3)) (fun r => ∃ (M21 : Mem) (v22 : Int), r = (S, M21, some (.inl v22)) ∧ Q (S, M21, some (.inl v22))))) ∧ ((999 : Int) < (v4 + x3) → En 183 62 [some (.inr (.inr 173)), some (.inl x1), some (.inl x2), some (.inl x3), some (.inl x4), some (.inl x5), some (.inl s0)] [] S M3 Q)))))))) : En 183 43 [some (.inr (.inr 173)), some (.inl x1), some (.inl x2), some (.inl x3), some (.inl x4), some (.inl x5), none] [.inl s0] S M Q := by
  have hP : PR 183 = (bc_183, 7) := rfl
  refine e_st (L' := [some (.inr (.inr 173)), some (.inl x1), some (.inl x2), some (.inl x3), some (.inl x4), some (.inl x5), some (.inl s0)]) hP rfl rfl ?_
  refine e_ld hP rfl rfl ?_
  refine e_zeq hP rfl (fun hc => ?_) (fun hc => ?_)
  · have h := h.1 hc
    exact h
  · have h := h.2 hc
    refine e_ld hP rfl rfl ?_
    refine e_gR (a := 9) (w := 181) 172 (sh_172 hM) hP rfl (by decide) rfl ?_
    refine e_c hP rfl ?_
    refine e_ld hP rfl rfl ?_
    obtain ⟨hs1, h⟩ := h
    refine e_add hP rfl hs1 ?_
    obtain ⟨hs2, h⟩ := h
    refine e_al 180 (sh_180 hM) hP rfl hs2 ?_
    refine e_ld hP rfl rfl ?_
    refine e_clt hP rfl (fun hc => ?_) (fun hc => ?_)
    · have h := h.1 hc
      exact h
    · have h := h.2 hc
      refine e_ld hP rfl rfl ?_
      refine e_ld hP rfl rfl ?_
      refine e_ld hP rfl rfl ?_
      refine e_call hP rfl rfl rfl (Nat.le_of_ble_eq_true rfl) (Nat.le_of_ble_eq_true rfl) (rcv0 (sh_172 hM) (by decide)) ?_
      refine Ca.mono h (fun r hr => ?_)
      obtain ⟨M3, v4, rfl, h⟩ := hr
      show En 183 58 [some (.inr (.inr 173)), some (.inl x1), some (.inl x2), some (.inl x3), some (.inl x4), some (.inl x5), some (.inl s0)] [.inl v4] S M3 Q
      refine e_ld hP rfl rfl ?_
      obtain ⟨hs5, h⟩ := h
      refine e_add hP rfl hs5 ?_
      refine e_c hP rfl ?_
      refine e_cle hP rfl (fun hc => ?_) (fun hc => ?_)
      · have h := h.1 hc
        refine e_ld hP rfl rfl ?_
        refine e_call hP rfl rfl rfl (Nat.le_of_ble_eq_true rfl) (Nat.le_of_ble_eq_true rfl) (rcv0 (sh_172 hM) (by decide)) ?_
        refine Ca.mono h (fun r hr => ?_)
        obtain ⟨M6, rfl, h⟩ := hr
        show En 183 66 [some (.inr (.inr 173)), some (.inl x1), some (.inl x2), some (.inl x3), some (.inl x4), some (.inl x5), some (.inl s0)] [] S M6 Q
        refine e_ld hP rfl rfl ?_
        refine e_gR (a := 9) (w := 181) 172 (sh_172 hM) hP rfl (by decide) rfl ?_
        refine e_c hP rfl ?_
        refine e_ld hP rfl rfl ?_
        obtain ⟨hs7, h⟩ := h
        refine e_add hP rfl hs7 ?_
        refine e_dup2 hP rfl ?_
        obtain ⟨hs8, h⟩ := h
        refine e_al 180 (sh_180 hM) hP rfl hs8 ?_
        refine e_ld hP rfl rfl ?_
        obtain ⟨hs9, h⟩ := h
        refine e_sub hP rfl hs9 ?_
        obtain ⟨hs10, h⟩ := h
        refine e_as 180 (sh_180 hM) (by decide) hP rfl hs10 ?_
        refine e_ld hP rfl rfl ?_
        refine e_gR (a := 9) (w := 181) 172 (sh_172 hM) hP rfl (by decide) rfl ?_
        refine e_c hP rfl ?_
        refine e_ld hP rfl rfl ?_
        obtain ⟨hs11, h⟩ := h
        refine e_add hP rfl hs11 ?_
        refine e_dup2 hP rfl ?_
        obtain ⟨hs12, h⟩ := h
        refine e_al 180 (sh_180 hM) hP rfl hs12 ?_
        refine e_ld hP rfl rfl ?_
        obtain ⟨hs13, h⟩ := h
        refine e_add hP rfl hs13 ?_
        obtain ⟨hs14, h⟩ := h
        refine e_as 180 (sh_180 hM) (by decide) hP rfl hs14 ?_
        refine e_ld hP rfl rfl ?_
        refine e_gR (a := 9) (w := 181) 172 (sh_172 hM) hP rfl (by decide) rfl ?_
        refine e_c hP rfl ?_
        refine e_c hP rfl ?_
        refine e_ld hP rfl rfl ?_
        obtain ⟨hs15, h⟩ := h
        refine e_mul hP rfl hs15 ?_
        obtain ⟨hs16, h⟩ := h
        refine e_add hP rfl hs16 ?_
        refine e_ld hP rfl rfl ?_
        obtain ⟨hs17, h⟩ := h
        refine e_add hP rfl hs17 ?_
        refine e_dup2 hP rfl ?_
        obtain ⟨hs18, h⟩ := h
        refine e_al 180 (sh_180 hM) hP rfl hs18 ?_
        refine e_ld hP rfl rfl ?_
        obtain ⟨hs19, h⟩ := h
        refine e_add hP rfl hs19 ?_
        obtain ⟨hs20, h⟩ := h
        refine e_as 180 (sh_180 hM) (by decide) hP rfl hs20 ?_
        refine e_ld hP rfl rfl ?_
        refine e_ld hP rfl rfl ?_
        refine e_ld hP rfl rfl ?_
        refine e_call hP rfl rfl rfl (Nat.le_of_ble_eq_true rfl) (Nat.le_of_ble_eq_true rfl) (rcv0 (sh_172 hM) (by decide)) ?_
        refine Ca.mono h (fun r hr => ?_)
        obtain ⟨M21, v22, rfl, h⟩ := hr
        show En 183 104 [some (.inr (.inr 173)), some (.inl x1), some (.inl x2), some (.inl x3), some (.inl x4), some (.inl x5), some (.inl s0)] [.inl v22] S M21 Q
        exact e_ret hP rfl rfl h
      · have h := h.2 hc
        exact h
theorem r_X9_lend_62 {S : Shp} {M : Mem} {Q : Res → Prop} (hM : KM S) {x1 x2 x3 x4 x5 x6 : Int} (h : Q (S, M, some (.inl (-2 : Int)))) : En 183 62 [some (.inr (.inr 173)), some (.inl x1), some (.inl x2), some (.inl x3), some (.inl x4), some (.inl x5), some (.inl x6)] [] S M Q := by
  have hP : PR 183 = (bc_183, 7) := rfl
  refine e_c hP rfl ?_
  exact e_ret hP rfl rfl h
theorem r_X9_repay_0 {S : Shp} {M : Mem} {Q : Res → Prop} (hM : KM S) {p1 p2 p3 : Int} (h : Ca 178 [.inr (.inr 173), .inl p1, .inl p2] S M (fun r => ∃ (M1 : Mem) (v2 : Int), r = (S, M1, some (.inl v2)) ∧ ((v2 = 0 → Q (S, M1, some (.inl (-1 : Int)))) ∧ (v2 ≠ 0 → Ca 140 [.inr (.inl p3), .inr (.inl (1 : Int)), .inr (.inl (99 : Int))] S M1 (fun r => ∃ (M3 : Mem) (v4 : Int), r = (S, M3, some (.inl v4)) ∧ ((v4 ≠ 0 → Ca 182 [.inr (.inr 173), .inl p2, .inl p1] S M3 (fun r => ∃ (M5 : Mem) (v6 : Int), r = (S, M5, some (.inl v6)) ∧ ((v6 < p3 → Q (S, M5, some (.inl (-2 : Int)))) ∧ (p3 ≤ v6 → (inR ((56 : Int) + p2)) ∧ (0 ≤ ((56 : Int) + p2) ∧ ((56 : Int) + p2) < 2040) ∧ ((p3 ≤ (M5 180 ((56 : Int) + p2).toNat) → Ca 171 [.inr (.inr 173)] S M5 (fun r => ∃ M9 : Mem, r = (S, M9, none) ∧ (inR ((56 : Int) + p1)) ∧ (0 ≤ ((56 : Int) + p1) ∧ ((56 : Int) + p1) < 2040) ∧ (inR ((M9 180 ((56 : Int) + p1).toNat) + p3)) ∧ (0 ≤ ((56 : Int) + p1) ∧ ((56 : Int) + p1) < 2040) ∧ (inR ((56 : Int) + p2)) ∧ (0 ≤ ((56 : Int) + p2) ∧ ((56 : Int) + p2) < 2040) ∧ (inR (((up2 M9 180 ((56 : Int) + p1).toNat ((M9 180 ((56 : Int) + p1).toNat) + p3)) 180 ((56 : Int) + p2).toNat) - p3)) ∧ (0 ≤ ((56 : Int) + p2) ∧ ((56 : Int) + p2) < 2040) ∧ (inR ((8 : Int) * p2)) ∧ (inR ((80 : Int) + ((8 : Int) * p2))) ∧ (inR (((80 : Int) + ((8 : Int) * p2)) + p1)) ∧ (0 ≤ (((80 : Int) + ((8 : Int) * p2)) + p1) ∧ (((80 : Int) + ((8 : Int) * p2)) + p1) < 2040) ∧ (inR (((up2 (up2 M9 180 ((56 : Int) + p1).toNat ((M9 180 ((56 : Int) + p1).toNat) + p3)) 180 ((56 : Int) + p2).toNat (((up2 M9 180 ((56 : Int) + p1).toNat ((M9 180 ((56 : Int) + p1).toNat) + p3)) 180 ((56 : Int) + p2).toNat) - p3)) 180 (((80 : Int) + ((8 : Int) * p2)) + p1).toNat) - p3)) ∧ (0 ≤ (((80 : Int) + ((8 : Int) * p2)) + p1) ∧ (((80 : Int) + ((8 : Int) * p2)) + p1) < 2040) ∧ Ca 182 [.inr (.inr 173), .inl p2, .inl p1] S (up2 (up2 (up2 M9 180 ((56 : Int) + p1).toNat ((M9 180 ((56 : Int) + p1).toNat) + p3)) 180 ((56 : Int) + p2).toNat (((up2 M9 180 ((56 : Int) + p1).toNat ((M9 180 ((56 : Int) + p1).toNat) + p3)) 180 ((56 : Int) + p2).toNat) - p3)) 180 (((80 : Int) + ((8 : Int) * p2)) + p1).toNat (((up2 (up2 M9 180 ((56 : Int) + p1).toNat ((M9 180 ((56 : Int) + p1).toNat) + p3)) 180 ((56 : Int) + p2).toNat (((up2 M9 180 ((56 : Int) + p1).toNat ((M9 180 ((56 : Int) + p1).toNat) + p3)) 180 ((56 : Int) + p2).toNat) - p3)) 180 (((80 : Int) + ((8 : Int) * p2)) + p1).toNat) - p3)) (fun r => ∃ (M24 : Mem) (v25 : Int), r = (S, M24, some (.inl v25)) ∧ Q (S, M24, some (.inl v25))))) ∧ ((M5 180 ((56 : Int) + p2).toNat) < p3 → Q (S, M5, some (.inl (-2 : Int))))))))) ∧ (v4 = 0 → Q (S, M3, some (.inl (-1 : Int)))))))))) : Ca 184 [.inr (.inr 173), .inl p1, .inl p2, .inl p3] S M Q := by
  have hP : PR 184 = (bc_184, 4) := rfl
  refine ⟨Nat.le_of_ble_eq_true rfl, ?_⟩
  show En 184 0 [some (.inr (.inr 173)), some (.inl p1), some (.inl p2), some (.inl p3)] [] S M Q
  refine e_ld hP rfl rfl ?_
  refine e_ld hP rfl rfl ?_
  refine e_ld hP rfl rfl ?_
  refine e_call hP rfl rfl rfl (Nat.le_of_ble_eq_true rfl) (Nat.le_of_ble_eq_true rfl) (rcv0 (sh_172 hM) (by decide)) ?_
  refine Ca.mono h (fun r hr => ?_)
  obtain ⟨M1, v2, rfl, h⟩ := hr
  show En 184 4 [some (.inr (.inr 173)), some (.inl p1), some (.inl p2), some (.inl p3)] [.inl v2] S M1 Q
  refine e_zeq hP rfl (fun hc => ?_) (fun hc => ?_)
  · have h := h.1 hc
    refine e_c hP rfl ?_
    exact e_ret hP rfl rfl h
  · have h := h.2 hc
    refine e_ld hP rfl rfl ?_
    refine e_i2l hP rfl ?_
    refine e_lc hP rfl ?_
    refine e_lc hP rfl ?_
    refine e_call hP rfl rfl rfl (Nat.le_of_ble_eq_true rfl) (Nat.le_of_ble_eq_true rfl) rcv1 ?_
    refine Ca.mono h (fun r hr => ?_)
    obtain ⟨M3, v4, rfl, h⟩ := hr
    show En 184 10 [some (.inr (.inr 173)), some (.inl p1), some (.inl p2), some (.inl p3)] [.inl v4] S M3 Q
    refine e_zne hP rfl (fun hc => ?_) (fun hc => ?_)
    · have h := h.1 hc
      refine e_ld hP rfl rfl ?_
      refine e_ld hP rfl rfl ?_
      refine e_ld hP rfl rfl ?_
      refine e_call hP rfl rfl rfl (Nat.le_of_ble_eq_true rfl) (Nat.le_of_ble_eq_true rfl) (rcv0 (sh_172 hM) (by decide)) ?_
      refine Ca.mono h (fun r hr => ?_)
      obtain ⟨M5, v6, rfl, h⟩ := hr
      show En 184 17 [some (.inr (.inr 173)), some (.inl p1), some (.inl p2), some (.inl p3)] [.inl v6] S M5 Q
      refine e_ld hP rfl rfl ?_
      refine e_clt hP rfl (fun hc => ?_) (fun hc => ?_)
      · have h := h.1 hc
        refine e_c hP rfl ?_
        exact e_ret hP rfl rfl h
      · have h := h.2 hc
        refine e_ld hP rfl rfl ?_
        refine e_gR (a := 9) (w := 181) 172 (sh_172 hM) hP rfl (by decide) rfl ?_
        refine e_c hP rfl ?_
        refine e_ld hP rfl rfl ?_
        obtain ⟨hs7, h⟩ := h
        refine e_add hP rfl hs7 ?_
        obtain ⟨hs8, h⟩ := h
        refine e_al 180 (sh_180 hM) hP rfl hs8 ?_
        refine e_ld hP rfl rfl ?_
        refine e_cge hP rfl (fun hc => ?_) (fun hc => ?_)
        · have h := h.1 hc
          refine e_ld hP rfl rfl ?_
          refine e_call hP rfl rfl rfl (Nat.le_of_ble_eq_true rfl) (Nat.le_of_ble_eq_true rfl) (rcv0 (sh_172 hM) (by decide)) ?_
          refine Ca.mono h (fun r hr => ?_)
          obtain ⟨M9, rfl, h⟩ := hr
          show En 184 31 [some (.inr (.inr 173)), some (.inl p1), some (.inl p2), some (.inl p3)] [] S M9 Q
          refine e_ld hP rfl rfl ?_
          refine e_gR (a := 9) (w := 181) 172 (sh_172 hM) hP rfl (by decide) rfl ?_
          refine e_c hP rfl ?_
          refine e_ld hP rfl rfl ?_
          obtain ⟨hs10, h⟩ := h
          refine e_add hP rfl hs10 ?_
          refine e_dup2 hP rfl ?_
          obtain ⟨hs11, h⟩ := h
          refine e_al 180 (sh_180 hM) hP rfl hs11 ?_
          refine e_ld hP rfl rfl ?_
          obtain ⟨hs12, h⟩ := h
          refine e_add hP rfl hs12 ?_
          obtain ⟨hs13, h⟩ := h
          refine e_as 180 (sh_180 hM) (by decide) hP rfl hs13 ?_
          refine e_ld hP rfl rfl ?_
          refine e_gR (a := 9) (w := 181) 172 (sh_172 hM) hP rfl (by decide) rfl ?_
          refine e_c hP rfl ?_
          refine e_ld hP rfl rfl ?_
          obtain ⟨hs14, h⟩ := h
          refine e_add hP rfl hs14 ?_
          refine e_dup2 hP rfl ?_
          obtain ⟨hs15, h⟩ := h
          refine e_al 180 (sh_180 hM) hP rfl hs15 ?_
          refine e_ld hP rfl rfl ?_
          obtain ⟨hs16, h⟩ := h
          refine e_sub hP rfl hs16 ?_
          obtain ⟨hs17, h⟩ := h
          refine e_as 180 (sh_180 hM) (by decide) hP rfl hs17 ?_
          refine e_ld hP rfl rfl ?_
          refine e_gR (a := 9) (w := 181) 172 (sh_172 hM) hP rfl (by decide) rfl ?_
          refine e_c hP rfl ?_
          refine e_c hP rfl ?_
          refine e_ld hP rfl rfl ?_
          obtain ⟨hs18, h⟩ := h
          refine e_mul hP rfl hs18 ?_
          obtain ⟨hs19, h⟩ := h
          refine e_add hP rfl hs19 ?_
          refine e_ld hP rfl rfl ?_
          obtain ⟨hs20, h⟩ := h
          refine e_add hP rfl hs20 ?_
          refine e_dup2 hP rfl ?_
          obtain ⟨hs21, h⟩ := h
          refine e_al 180 (sh_180 hM) hP rfl hs21 ?_
          refine e_ld hP rfl rfl ?_
          obtain ⟨hs22, h⟩ := h
          refine e_sub hP rfl hs22 ?_
          obtain ⟨hs23, h⟩ := h
          refine e_as 180 (sh_180 hM) (by decide) hP rfl hs23 ?_
          refine e_ld hP rfl rfl ?_
          refine e_ld hP rfl rfl ?_
          refine e_ld hP rfl rfl ?_
          refine e_call hP rfl rfl rfl (Nat.le_of_ble_eq_true rfl) (Nat.le_of_ble_eq_true rfl) (rcv0 (sh_172 hM) (by decide)) ?_
          refine Ca.mono h (fun r hr => ?_)
          obtain ⟨M24, v25, rfl, h⟩ := hr
          show En 184 69 [some (.inr (.inr 173)), some (.inl p1), some (.inl p2), some (.inl p3)] [.inl v25] S M24 Q
          exact e_ret hP rfl rfl h
        · have h := h.2 hc
          refine e_c hP rfl ?_
          exact e_ret hP rfl rfl h
    · have h := h.2 hc
      refine e_c hP rfl ?_
      exact e_ret hP rfl rfl h
theorem r_X9_swaps_0 {S : Shp} {M : Mem} {Q : Res → Prop} (hM : KM S) {p1 p2 p3 : Int} (h : (inR ((170 : Int) * p1)) ∧ (inR (((170 : Int) * p1) + (144 : Int))) ∧ (inR ((((170 : Int) * p1) + (144 : Int)) + p2)) ∧ (0 ≤ ((((170 : Int) * p1) + (144 : Int)) + p2) ∧ ((((170 : Int) * p1) + (144 : Int)) + p2) < 2040) ∧ (inR ((170 : Int) * p1)) ∧ (inR (((170 : Int) * p1) + (144 : Int))) ∧ (inR ((((170 : Int) * p1) + (144 : Int)) + p2)) ∧ (inR ((170 : Int) * p1)) ∧ (inR (((170 : Int) * p1) + (144 : Int))) ∧ (inR ((((170 : Int) * p1) + (144 : Int)) + p3)) ∧ (0 ≤ ((((170 : Int) * p1) + (144 : Int)) + p3) ∧ ((((170 : Int) * p1) + (144 : Int)) + p3) < 2040) ∧ (0 ≤ ((((170 : Int) * p1) + (144 : Int)) + p2) ∧ ((((170 : Int) * p1) + (144 : Int)) + p2) < 2040) ∧ (inR ((170 : Int) * p1)) ∧ (inR (((170 : Int) * p1) + (144 : Int))) ∧ (inR ((((170 : Int) * p1) + (144 : Int)) + p3)) ∧ (0 ≤ ((((170 : Int) * p1) + (144 : Int)) + p3) ∧ ((((170 : Int) * p1) + (144 : Int)) + p3) < 2040) ∧ Q (S, up2 (up2 M 180 ((((170 : Int) * p1) + (144 : Int)) + p2).toNat (M 180 ((((170 : Int) * p1) + (144 : Int)) + p3).toNat)) 180 ((((170 : Int) * p1) + (144 : Int)) + p3).toNat (M 180 ((((170 : Int) * p1) + (144 : Int)) + p2).toNat), none)) : Ca 185 [.inr (.inr 173), .inl p1, .inl p2, .inl p3] S M Q := by
  have hP : PR 185 = (bc_185, 5) := rfl
  refine ⟨Nat.le_of_ble_eq_true rfl, ?_⟩
  show En 185 0 [some (.inr (.inr 173)), some (.inl p1), some (.inl p2), some (.inl p3), none] [] S M Q
  refine e_ld hP rfl rfl ?_
  refine e_gR (a := 9) (w := 181) 172 (sh_172 hM) hP rfl (by decide) rfl ?_
  refine e_c hP rfl ?_
  refine e_ld hP rfl rfl ?_
  obtain ⟨hs1, h⟩ := h
  refine e_mul hP rfl hs1 ?_
  refine e_c hP rfl ?_
  obtain ⟨hs2, h⟩ := h
  refine e_add hP rfl hs2 ?_
  refine e_ld hP rfl rfl ?_
  obtain ⟨hs3, h⟩ := h
  refine e_add hP rfl hs3 ?_
  obtain ⟨hs4, h⟩ := h
  refine e_al 180 (sh_180 hM) hP rfl hs4 ?_
  refine e_st (L' := [some (.inr (.inr 173)), some (.inl p1), some (.inl p2), some (.inl p3), some (.inl (M 180 ((((170 : Int) * p1) + (144 : Int)) + p2).toNat))]) hP rfl rfl ?_
  refine e_ld hP rfl rfl ?_
  refine e_gR (a := 9) (w := 181) 172 (sh_172 hM) hP rfl (by decide) rfl ?_
  refine e_c hP rfl ?_
  refine e_ld hP rfl rfl ?_
  obtain ⟨hs5, h⟩ := h
  refine e_mul hP rfl hs5 ?_
  refine e_c hP rfl ?_
  obtain ⟨hs6, h⟩ := h
  refine e_add hP rfl hs6 ?_
  refine e_ld hP rfl rfl ?_
  obtain ⟨hs7, h⟩ := h
  refine e_add hP rfl hs7 ?_
  refine e_ld hP rfl rfl ?_
  refine e_gR (a := 9) (w := 181) 172 (sh_172 hM) hP rfl (by decide) rfl ?_
  refine e_c hP rfl ?_
  refine e_ld hP rfl rfl ?_
  obtain ⟨hs8, h⟩ := h
  refine e_mul hP rfl hs8 ?_
  refine e_c hP rfl ?_
  obtain ⟨hs9, h⟩ := h
  refine e_add hP rfl hs9 ?_
  refine e_ld hP rfl rfl ?_
  obtain ⟨hs10, h⟩ := h
  refine e_add hP rfl hs10 ?_
  obtain ⟨hs11, h⟩ := h
  refine e_al 180 (sh_180 hM) hP rfl hs11 ?_
  obtain ⟨hs12, h⟩ := h
  refine e_as 180 (sh_180 hM) (by decide) hP rfl hs12 ?_
  refine e_ld hP rfl rfl ?_
  refine e_gR (a := 9) (w := 181) 172 (sh_172 hM) hP rfl (by decide) rfl ?_
  refine e_c hP rfl ?_
  refine e_ld hP rfl rfl ?_
  obtain ⟨hs13, h⟩ := h
  refine e_mul hP rfl hs13 ?_
  refine e_c hP rfl ?_
  obtain ⟨hs14, h⟩ := h
  refine e_add hP rfl hs14 ?_
  refine e_ld hP rfl rfl ?_
  obtain ⟨hs15, h⟩ := h
  refine e_add hP rfl hs15 ?_
  refine e_ld hP rfl rfl ?_
  obtain ⟨hs16, h⟩ := h
  refine e_as 180 (sh_180 hM) (by decide) hP rfl hs16 ?_
  exact e_retv hP rfl h
theorem r_X9_swap_0 {S : Shp} {M : Mem} {Q : Res → Prop} (hM : KM S) {p1 p2 : Int} (h : Ca 157 [.inl p1] S M (fun r => ∃ (M1 : Mem) (v2 : Int), r = (S, M1, some (.inl v2)) ∧ ((v2 = 0 → Q (S, M1, some (.inl (-1 : Int)))) ∧ (v2 ≠ 0 → Ca 157 [.inl p2] S M1 (fun r => ∃ (M3 : Mem) (v4 : Int), r = (S, M3, some (.inl v4)) ∧ ((v4 = 0 → Q (S, M3, some (.inl (-1 : Int)))) ∧ (v4 ≠ 0 → ((p1 ≠ p2 → Ca 171 [.inr (.inr 173)] S M3 (fun r => ∃ M5 : Mem, r = (S, M5, none) ∧ Ca 185 [.inr (.inr 173), .inl (0 : Int), .inl p1, .inl p2] S M5 (fun r => ∃ M6 : Mem, r = (S, M6, none) ∧ (inR ((144 : Int) + p1)) ∧ (0 ≤ ((144 : Int) + p1) ∧ ((144 : Int) + p1) < 2040) ∧ Q (S, M6, some (.inl (M6 180 ((144 : Int) + p1).toNat)))))) ∧ (p1 = p2 → Q (S, M3, some (.inl (-1 : Int)))))))))))) : Ca 186 [.inr (.inr 173), .inl p1, .inl p2] S M Q := by
  have hP : PR 186 = (bc_186, 3) := rfl
  refine ⟨Nat.le_of_ble_eq_true rfl, ?_⟩
  show En 186 0 [some (.inr (.inr 173)), some (.inl p1), some (.inl p2)] [] S M Q
  refine e_ld hP rfl rfl ?_
  refine e_call hP rfl rfl rfl (Nat.le_of_ble_eq_true rfl) (Nat.le_of_ble_eq_true rfl) rcv1 ?_
  refine Ca.mono h (fun r hr => ?_)
  obtain ⟨M1, v2, rfl, h⟩ := hr
  show En 186 2 [some (.inr (.inr 173)), some (.inl p1), some (.inl p2)] [.inl v2] S M1 Q
  refine e_zeq hP rfl (fun hc => ?_) (fun hc => ?_)
  · have h := h.1 hc
    refine e_c hP rfl ?_
    exact e_ret hP rfl rfl h
  · have h := h.2 hc
    refine e_ld hP rfl rfl ?_
    refine e_call hP rfl rfl rfl (Nat.le_of_ble_eq_true rfl) (Nat.le_of_ble_eq_true rfl) rcv1 ?_
    refine Ca.mono h (fun r hr => ?_)
    obtain ⟨M3, v4, rfl, h⟩ := hr
    show En 186 5 [some (.inr (.inr 173)), some (.inl p1), some (.inl p2)] [.inl v4] S M3 Q
    refine e_zeq hP rfl (fun hc => ?_) (fun hc => ?_)
    · have h := h.1 hc
      refine e_c hP rfl ?_
      exact e_ret hP rfl rfl h
    · have h := h.2 hc
      refine e_ld hP rfl rfl ?_
      refine e_ld hP rfl rfl ?_
      refine e_cne hP rfl (fun hc => ?_) (fun hc => ?_)
      · have h := h.1 hc
        refine e_ld hP rfl rfl ?_
        refine e_call hP rfl rfl rfl (Nat.le_of_ble_eq_true rfl) (Nat.le_of_ble_eq_true rfl) (rcv0 (sh_172 hM) (by decide)) ?_
        refine Ca.mono h (fun r hr => ?_)
        obtain ⟨M5, rfl, h⟩ := hr
        show En 186 13 [some (.inr (.inr 173)), some (.inl p1), some (.inl p2)] [] S M5 Q
        refine e_ld hP rfl rfl ?_
        refine e_c hP rfl ?_
        refine e_ld hP rfl rfl ?_
        refine e_ld hP rfl rfl ?_
        refine e_call hP rfl rfl rfl (Nat.le_of_ble_eq_true rfl) (Nat.le_of_ble_eq_true rfl) (rcv0 (sh_172 hM) (by decide)) ?_
        refine Ca.mono h (fun r hr => ?_)
        obtain ⟨M6, rfl, h⟩ := hr
        show En 186 18 [some (.inr (.inr 173)), some (.inl p1), some (.inl p2)] [] S M6 Q
        refine e_ld hP rfl rfl ?_
        refine e_gR (a := 9) (w := 181) 172 (sh_172 hM) hP rfl (by decide) rfl ?_
        refine e_c hP rfl ?_
        refine e_ld hP rfl rfl ?_
        obtain ⟨hs7, h⟩ := h
        refine e_add hP rfl hs7 ?_
        obtain ⟨hs8, h⟩ := h
        refine e_al 180 (sh_180 hM) hP rfl hs8 ?_
        exact e_ret hP rfl rfl h
      · have h := h.2 hc
        refine e_c hP rfl ?_
        exact e_ret hP rfl rfl h
theorem r_X9_newYear_0 {S : Shp} {M : Mem} {Q : Res → Prop} (hM : KM S) (h : Ca 171 [.inr (.inr 173)] S M (fun r => ∃ M1 : Mem, r = (S, M1, none) ∧ En 187 6 [some (.inr (.inr 173)), some (.inl (0 : Int)), some (.inl (0 : Int))] [] S M1 Q)) : Ca 187 [.inr (.inr 173)] S M Q := by
  have hP : PR 187 = (bc_187, 3) := rfl
  refine ⟨Nat.le_of_ble_eq_true rfl, ?_⟩
  show En 187 0 [some (.inr (.inr 173)), none, none] [] S M Q
  refine e_ld hP rfl rfl ?_
  refine e_call hP rfl rfl rfl (Nat.le_of_ble_eq_true rfl) (Nat.le_of_ble_eq_true rfl) (rcv0 (sh_172 hM) (by decide)) ?_
  refine Ca.mono h (fun r hr => ?_)
  obtain ⟨M1, rfl, h⟩ := hr
  show En 187 2 [some (.inr (.inr 173)), none, none] [] S M1 Q
  refine e_c hP rfl ?_
  refine e_st (L' := [some (.inr (.inr 173)), some (.inl (0 : Int)), none]) hP rfl rfl ?_
  refine e_c hP rfl ?_
  refine e_st (L' := [some (.inr (.inr 173)), some (.inl (0 : Int)), some (.inl (0 : Int))]) hP rfl rfl ?_
  exact h
theorem r_X9_newYear_6 {S : Shp} {M : Mem} {Q : Res → Prop} (hM : KM S) {x1 x2 : Int} (h : (((8 : Int) ≤ x2 → Q (S, M, some (.inl x1))) ∧ (x2 < (8 : Int) → (inR ((72 : Int) + x2)) ∧ (0 ≤ ((72 : Int) + x2) ∧ ((72 : Int) + x2) < 2040) ∧ (inR (x1 + (M 180 ((72 : Int) + x2).toNat))) ∧ (inR ((72 : Int) + x2)) ∧ (0 ≤ ((72 : Int) + x2) ∧ ((72 : Int) + x2) < 2040) ∧ (inR (x2 + 1)) ∧ En 187 6 [some (.inr (.inr 173)), some (.inl (x1 + (M 180 ((72 : Int) + x2).toNat))), some (.inl (x2 + 1))] [] S (up2 M 180 ((72 : Int) + x2).toNat (0 : Int)) Q))) : En 187 6 [some (.inr (.inr 173)), some (.inl x1), some (.inl x2)] [] S M Q := by
  have hP : PR 187 = (bc_187, 3) := rfl
  refine e_ld hP rfl rfl ?_
  refine e_c hP rfl ?_
  refine e_cge hP rfl (fun hc => ?_) (fun hc => ?_)
  · have h := h.1 hc
    refine e_ld hP rfl rfl ?_
    exact e_ret hP rfl rfl h
  · have h := h.2 hc
    refine e_ld hP rfl rfl ?_
    refine e_ld hP rfl rfl ?_
    refine e_gR (a := 9) (w := 181) 172 (sh_172 hM) hP rfl (by decide) rfl ?_
    refine e_c hP rfl ?_
    refine e_ld hP rfl rfl ?_
    obtain ⟨hs1, h⟩ := h
    refine e_add hP rfl hs1 ?_
    obtain ⟨hs2, h⟩ := h
    refine e_al 180 (sh_180 hM) hP rfl hs2 ?_
    obtain ⟨hs3, h⟩ := h
    refine e_add hP rfl hs3 ?_
    refine e_st (L' := [some (.inr (.inr 173)), some (.inl (x1 + (M 180 ((72 : Int) + x2).toNat))), some (.inl x2)]) hP rfl rfl ?_
    refine e_ld hP rfl rfl ?_
    refine e_gR (a := 9) (w := 181) 172 (sh_172 hM) hP rfl (by decide) rfl ?_
    refine e_c hP rfl ?_
    refine e_ld hP rfl rfl ?_
    obtain ⟨hs4, h⟩ := h
    refine e_add hP rfl hs4 ?_
    refine e_c hP rfl ?_
    obtain ⟨hs5, h⟩ := h
    refine e_as 180 (sh_180 hM) (by decide) hP rfl hs5 ?_
    obtain ⟨hs6, h⟩ := h
    refine e_inc (L' := [some (.inr (.inr 173)), some (.inl (x1 + (M 180 ((72 : Int) + x2).toNat))), some (.inl (x2 + 1))]) hP rfl rfl hs6 rfl ?_
    refine e_go hP rfl ?_
    exact h
theorem r_X9_undo_0 {S : Shp} {M : Mem} {Q : Res → Prop} (hM : KM S) (h : (((M 172 11) ≠ 0 → (inR ((M 172 11) - (1 : Int))) ∧ (inR ((3 : Int) + ((up2 M 172 11 ((M 172 11) - (1 : Int))) 172 11))) ∧ Ca 170 [.inr (.inr 173), .inl ((3 : Int) + ((up2 M 172 11 ((M 172 11) - (1 : Int))) 172 11)), .inl (0 : Int)] S (up2 M 172 11 ((M 172 11) - (1 : Int))) (fun r => ∃ M3 : Mem, r = (S, M3, none) ∧ Q (S, M3, some (.inl (M3 172 11))))) ∧ ((M 172 11) = 0 → Q (S, M, some (.inl (-2 : Int)))))) : Ca 188 [.inr (.inr 173)] S M Q := by
  have hP : PR 188 = (bc_188, 1) := rfl
  refine ⟨Nat.le_of_ble_eq_true rfl, ?_⟩
  show En 188 0 [some (.inr (.inr 173))] [] S M Q
  refine e_ld hP rfl rfl ?_
  refine e_gI (a := 9) 172 (sh_172 hM) hP rfl (by decide) ?_
  refine e_zne hP rfl (fun hc => ?_) (fun hc => ?_)
  · have h := h.1 hc
    refine e_ld hP rfl rfl ?_
    refine e_dupR hP rfl ?_
    refine e_gI (a := 9) 172 (sh_172 hM) hP rfl (by decide) ?_
    refine e_c hP rfl ?_
    obtain ⟨hs1, h⟩ := h
    refine e_sub hP rfl hs1 ?_
    refine e_pI (a := 9) 172 (sh_172 hM) (by decide) hP rfl (by decide) ?_
    refine e_ld hP rfl rfl ?_
    refine e_c hP rfl ?_
    refine e_ld hP rfl rfl ?_
    refine e_gI (a := 9) 172 (sh_172 hM) hP rfl (by decide) ?_
    obtain ⟨hs2, h⟩ := h
    refine e_add hP rfl hs2 ?_
    refine e_c hP rfl ?_
    refine e_call hP rfl rfl rfl (Nat.le_of_ble_eq_true rfl) (Nat.le_of_ble_eq_true rfl) (rcv0 (sh_172 hM) (by decide)) ?_
    refine Ca.mono h (fun r hr => ?_)
    obtain ⟨M3, rfl, h⟩ := hr
    show En 188 18 [some (.inr (.inr 173))] [] S M3 Q
    refine e_ld hP rfl rfl ?_
    refine e_gI (a := 9) 172 (sh_172 hM) hP rfl (by decide) ?_
    exact e_ret hP rfl rfl h
  · have h := h.2 hc
    refine e_c hP rfl ?_
    exact e_ret hP rfl rfl h
theorem r_X9_bestFirst_0 {S : Shp} {M : Mem} {Q : Res → Prop} (hM : KM S) {p1 : Int} (h : Ca 158 [.inr (.inr 173), .inl (11 : Int), .inl p1] S M (fun r => ∃ (M1 : Mem) (v2 : Int), r = (S, M1, some (.inl v2)) ∧ En 189 9 [some (.inr (.inr 173)), some (.inl p1), some (.inl v2), some (.inl (-4 : Int)), some (.inl (0 : Int)), none, none] [] S M1 Q)) : Ca 189 [.inr (.inr 173), .inl p1] S M Q := by
  have hP : PR 189 = (bc_189, 7) := rfl
  refine ⟨Nat.le_of_ble_eq_true rfl, ?_⟩
  show En 189 0 [some (.inr (.inr 173)), some (.inl p1), none, none, none, none, none] [] S M Q
  refine e_ld hP rfl rfl ?_
  refine e_c hP rfl ?_
  refine e_ld hP rfl rfl ?_
  refine e_call hP rfl rfl rfl (Nat.le_of_ble_eq_true rfl) (Nat.le_of_ble_eq_true rfl) (rcv0 (sh_172 hM) (by decide)) ?_
  refine Ca.mono h (fun r hr => ?_)
  obtain ⟨M1, v2, rfl, h⟩ := hr
  show En 189 4 [some (.inr (.inr 173)), some (.inl p1), none, none, none, none, none] [.inl v2] S M1 Q
  refine e_st (L' := [some (.inr (.inr 173)), some (.inl p1), some (.inl v2), none, none, none, none]) hP rfl rfl ?_
  refine e_c hP rfl ?_
  refine e_st (L' := [some (.inr (.inr 173)), some (.inl p1), some (.inl v2), some (.inl (-4 : Int)), none, none, none]) hP rfl rfl ?_
  refine e_c hP rfl ?_
  refine e_st (L' := [some (.inr (.inr 173)), some (.inl p1), some (.inl v2), some (.inl (-4 : Int)), some (.inl (0 : Int)), none, none]) hP rfl rfl ?_
  exact h
theorem r_X9_bestFirst_9 {S : Shp} {M : Mem} {Q : Res → Prop} (hM : KM S) {x1 x2 x3 x4 : Int} (h : (((26 : Int) ≤ x4 → (inR ((6 : Int) * x1)) ∧ (inR ((1878 : Int) + ((6 : Int) * x1))) ∧ (0 ≤ ((1878 : Int) + ((6 : Int) * x1)) ∧ ((1878 : Int) + ((6 : Int) * x1)) < 2040) ∧ Q (S, up2 M 180 ((1878 : Int) + ((6 : Int) * x1)).toNat x2, some (.inl x3))) ∧ (x4 < (26 : Int) → Ca 167 [.inr (.inr 173), .inl (11 : Int), .inl x4] S M (fun r => ∃ (M4 : Mem) (v5 : Int), r = (S, M4, some (.inl v5)) ∧ (inR ((6 : Int) * x1)) ∧ (inR ((1878 : Int) + ((6 : Int) * x1))) ∧ (0 ≤ ((1878 : Int) + ((6 : Int) * x1)) ∧ ((1878 : Int) + ((6 : Int) * x1)) < 2040) ∧ Ca 164 [.inr (.inr 173), .inl (11 : Int)] S (up2 M4 180 ((1878 : Int) + ((6 : Int) * x1)).toNat v5) (fun r => ∃ (M9 : Mem) (v10 : Int), r = (S, M9, some (.inl v10)) ∧ ((0 ≤ v10 → (0 ≤ x1 ∧ x1 < 8) ∧ ((v5 ≠ x2 → (0 ≤ (3 : Int) ∧ (3 : Int) < 12) ∧ (inR ((M9 183 x1.toNat) - (M9 174 (3 : Int).toNat))) ∧ ((x3 < 0 → (inR (x4 + 1)) ∧ En 189 9 [some (.inr (.inr 173)), some (.inl x1), some (.inl x2), some (.inl v5), some (.inl (x4 + 1)), none, none] [] S (up2 M9 172 24 ((M9 183 x1.toNat) - (M9 174 (3 : Int).toNat))) Q) ∧ (0 ≤ x3 → ((((M9 183 x1.toNat) - (M9 174 (3 : Int).toNat)) ≤ (M9 172 24) → (inR (x4 + 1)) ∧ En 189 9 [some (.inr (.inr 173)), some (.inl x1), some (.inl x2), some (.inl x3), some (.inl (x4 + 1)), none, none] [] S M9 Q) ∧ ((M9 172 24) < ((M9 183 x1.toNat) - (M9 174 (3 : Int).toNat)) → (inR (x4 + 1)) ∧ En 189 9 [some (.inr (.inr 173)), some (.inl x1), some (.inl x2), some (.inl v5), some (.inl (x4 + 1)), none, none] [] S (up2 M9 172 24 ((M9 183 x1.toNat) - (M9 174 (3 : Int).toNat))) Q))))) ∧ (v5 = x2 → (inR ((M9 183 x1.toNat) - (0 : Int))) ∧ ((x3 < 0 → (inR (x4 + 1)) ∧ En 189 9 [some (.inr (.inr 173)), some (.inl x1), some (.inl x2), some (.inl v5), some (.inl (x4 + 1)), none, none] [] S (up2 M9 172 24 ((M9 183 x1.toNat) - (0 : Int))) Q) ∧ (0 ≤ x3 → ((((M9 183 x1.toNat) - (0 : Int)) ≤ (M9 172 24) → (inR (x4 + 1)) ∧ En 189 9 [some (.inr (.inr 173)), some (.inl x1), some (.inl x2), some (.inl x3), some (.inl (x4 + 1)), none, none] [] S M9 Q) ∧ ((M9 172 24) < ((M9 183 x1.toNat) - (0 : Int)) → (inR (x4 + 1)) ∧ En 189 9 [some (.inr (.inr 173)), some (.inl x1), some (.inl x2), some (.inl v5), some (.inl (x4 + 1)), none, none] [] S (up2 M9 172 24 ((M9 183 x1.toNat) - (0 : Int))) Q))))))) ∧ (v10 < 0 → ((x3 < 0 → (inR (x4 + 1)) ∧ En 189 9 [some (.inr (.inr 173)), some (.inl x1), some (.inl x2), some (.inl v5), some (.inl (x4 + 1)), none, none] [] S (up2 M9 172 24 (0 : Int)) Q) ∧ (0 ≤ x3 → (((0 : Int) ≤ (M9 172 24) → (inR (x4 + 1)) ∧ En 189 9 [some (.inr (.inr 173)), some (.inl x1), some (.inl x2), some (.inl x3), some (.inl (x4 + 1)), none, none] [] S M9 Q) ∧ ((M9 172 24) < (0 : Int) → (inR (x4 + 1)) ∧ En 189 9 [some (.inr (.inr 173)), some (.inl x1), some (.inl x2), some (.inl v5), some (.inl (x4 + 1)), none, none] [] S (up2 M9 172 24 (0 : Int)) Q))))))))))) : En 189 9 [some (.inr (.inr 173)), some (.inl x1), some (.inl x2), some (.inl x3), some (.inl x4), none, none] [] S M Q := by
  have hP : PR 189 = (bc_189, 7) := rfl
  refine e_ld hP rfl rfl ?_
  refine e_c hP rfl ?_
  refine e_cge hP rfl (fun hc => ?_) (fun hc => ?_)
  · have h := h.1 hc
    refine e_ld hP rfl rfl ?_
    refine e_gR (a := 9) (w := 181) 172 (sh_172 hM) hP rfl (by decide) rfl ?_
    refine e_c hP rfl ?_
    refine e_c hP rfl ?_
    refine e_ld hP rfl rfl ?_
    obtain ⟨hs1, h⟩ := h
    refine e_mul hP rfl hs1 ?_
    obtain ⟨hs2, h⟩ := h
    refine e_add hP rfl hs2 ?_
    refine e_ld hP rfl rfl ?_
    obtain ⟨hs3, h⟩ := h
    refine e_as 180 (sh_180 hM) (by decide) hP rfl hs3 ?_
    refine e_ld hP rfl rfl ?_
    exact e_ret hP rfl rfl h
  · have h := h.2 hc
    refine e_ld hP rfl rfl ?_
    refine e_c hP rfl ?_
    refine e_ld hP rfl rfl ?_
    refine e_call hP rfl rfl rfl (Nat.le_of_ble_eq_true rfl) (Nat.le_of_ble_eq_true rfl) (rcv0 (sh_172 hM) (by decide)) ?_
    refine Ca.mono h (fun r hr => ?_)
    obtain ⟨M4, v5, rfl, h⟩ := hr
    show En 189 16 [some (.inr (.inr 173)), some (.inl x1), some (.inl x2), some (.inl x3), some (.inl x4), none, none] [.inl v5] S M4 Q
    refine e_st (L' := [some (.inr (.inr 173)), some (.inl x1), some (.inl x2), some (.inl x3), some (.inl x4), some (.inl v5), none]) hP rfl rfl ?_
    refine e_ld hP rfl rfl ?_
    refine e_gR (a := 9) (w := 181) 172 (sh_172 hM) hP rfl (by decide) rfl ?_
    refine e_c hP rfl ?_
    refine e_c hP rfl ?_
    refine e_ld hP rfl rfl ?_
    obtain ⟨hs6, h⟩ := h
    refine e_mul hP rfl hs6 ?_
    obtain ⟨hs7, h⟩ := h
    refine e_add hP rfl hs7 ?_
    refine e_ld hP rfl rfl ?_
    obtain ⟨hs8, h⟩ := h
    refine e_as 180 (sh_180 hM) (by decide) hP rfl hs8 ?_
    refine e_ld hP rfl rfl ?_
    refine e_c hP rfl ?_
    refine e_call hP rfl rfl rfl (Nat.le_of_ble_eq_true rfl) (Nat.le_of_ble_eq_true rfl) (rcv0 (sh_172 hM) (by decide)) ?_
    refine Ca.mono h (fun r hr => ?_)
    obtain ⟨M9, v10, rfl, h⟩ := hr
    show En 189 29 [some (.inr (.inr 173)), some (.inl x1), some (.inl x2), some (.inl x3), some (.inl x4), some (.inl v5), none] [.inl v10] S M9 Q
    refine e_zge hP rfl (fun hc => ?_) (fun hc => ?_)
    · have h := h.1 hc
      refine e_ld hP rfl rfl ?_
      refine e_gR (a := 9) (w := 184) 172 (sh_172 hM) hP rfl (by decide) rfl ?_
      refine e_ld hP rfl rfl ?_
      obtain ⟨hs11, h⟩ := h
      refine e_al 183 (sh_183 hM) hP rfl hs11 ?_
      refine e_ld hP rfl rfl ?_
      refine e_ld hP rfl rfl ?_
      refine e_cne hP rfl (fun hc => ?_) (fun hc => ?_)
      · have h := h.1 hc
        refine e_ld hP rfl rfl ?_
        refine e_gR (a := 9) (w := 175) 172 (sh_172 hM) hP rfl (by decide) rfl ?_
        refine e_c hP rfl ?_
        obtain ⟨hs12, h⟩ := h
        refine e_al 174 (sh_174 hM) hP rfl hs12 ?_
        obtain ⟨hs13, h⟩ := h
        refine e_sub hP rfl hs13 ?_
        refine e_st (L' := [some (.inr (.inr 173)), some (.inl x1), some (.inl x2), some (.inl x3), some (.inl x4), some (.inl v5), some (.inl ((M9 183 x1.toNat) - (M9 174 (3 : Int).toNat)))]) hP rfl rfl ?_
        refine e_ld hP rfl rfl ?_
        refine e_zlt hP rfl (fun hc => ?_) (fun hc => ?_)
        · have h := h.1 hc
          refine e_ld hP rfl rfl ?_
          refine e_st (L' := [some (.inr (.inr 173)), some (.inl x1), some (.inl x2), some (.inl v5), some (.inl x4), some (.inl v5), some (.inl ((M9 183 x1.toNat) - (M9 174 (3 : Int).toNat)))]) hP rfl rfl ?_
          refine e_ld hP rfl rfl ?_
          refine e_ld hP rfl rfl ?_
          refine e_pI (a := 9) 172 (sh_172 hM) (by decide) hP rfl (by decide) ?_
          obtain ⟨hs14, h⟩ := h
          refine e_inc (L' := [some (.inr (.inr 173)), some (.inl x1), some (.inl x2), some (.inl v5), some (.inl (x4 + 1)), some (.inl v5), some (.inl ((M9 183 x1.toNat) - (M9 174 (3 : Int).toNat)))]) hP rfl rfl hs14 rfl ?_
          refine e_go hP rfl ?_
          exact en_fg h ⟨Or.inr rfl, Or.inr rfl, Or.inr rfl, Or.inr rfl, Or.inr rfl, Or.inl rfl, Or.inl rfl, trivial⟩
        · have h := h.2 hc
          refine e_ld hP rfl rfl ?_
          refine e_ld hP rfl rfl ?_
          refine e_gI (a := 9) 172 (sh_172 hM) hP rfl (by decide) ?_
          refine e_cle hP rfl (fun hc => ?_) (fun hc => ?_)
          · have h := h.1 hc
            obtain ⟨hs15, h⟩ := h
            refine e_inc (L' := [some (.inr (.inr 173)), some (.inl x1), some (.inl x2), some (.inl x3), some (.inl (x4 + 1)), some (.inl v5), some (.inl ((M9 183 x1.toNat) - (M9 174 (3 : Int).toNat)))]) hP rfl rfl hs15 rfl ?_
            refine e_go hP rfl ?_
            exact en_fg h ⟨Or.inr rfl, Or.inr rfl, Or.inr rfl, Or.inr rfl, Or.inr rfl, Or.inl rfl, Or.inl rfl, trivial⟩
          · have h := h.2 hc
            refine e_ld hP rfl rfl ?_
            refine e_st (L' := [some (.inr (.inr 173)), some (.inl x1), some (.inl x2), some (.inl v5), some (.inl x4), some (.inl v5), some (.inl ((M9 183 x1.toNat) - (M9 174 (3 : Int).toNat)))]) hP rfl rfl ?_
            refine e_ld hP rfl rfl ?_
            refine e_ld hP rfl rfl ?_
            refine e_pI (a := 9) 172 (sh_172 hM) (by decide) hP rfl (by decide) ?_
            obtain ⟨hs16, h⟩ := h
            refine e_inc (L' := [some (.inr (.inr 173)), some (.inl x1), some (.inl x2), some (.inl v5), some (.inl (x4 + 1)), some (.inl v5), some (.inl ((M9 183 x1.toNat) - (M9 174 (3 : Int).toNat)))]) hP rfl rfl hs16 rfl ?_
            refine e_go hP rfl ?_
            exact en_fg h ⟨Or.inr rfl, Or.inr rfl, Or.inr rfl, Or.inr rfl, Or.inr rfl, Or.inl rfl, Or.inl rfl, trivial⟩
      · have h := h.2 hc
        refine e_c hP rfl ?_
        refine e_go hP rfl ?_
        obtain ⟨hs17, h⟩ := h
        refine e_sub hP rfl hs17 ?_
        refine e_st (L' := [some (.inr (.inr 173)), some (.inl x1), some (.inl x2), some (.inl x3), some (.inl x4), some (.inl v5), some (.inl ((M9 183 x1.toNat) - (0 : Int)))]) hP rfl rfl ?_
        refine e_ld hP rfl rfl ?_
        refine e_zlt hP rfl (fun hc => ?_) (fun hc => ?_)
        · have h := h.1 hc
          refine e_ld hP rfl rfl ?_
          refine e_st (L' := [some (.inr (.inr 173)), some (.inl x1), some (.inl x2), some (.inl v5), some (.inl x4), some (.inl v5), some (.inl ((M9 183 x1.toNat) - (0 : Int)))]) hP rfl rfl ?_
          refine e_ld hP rfl rfl ?_
          refine e_ld hP rfl rfl ?_
          refine e_pI (a := 9) 172 (sh_172 hM) (by decide) hP rfl (by decide) ?_
          obtain ⟨hs18, h⟩ := h
          refine e_inc (L' := [some (.inr (.inr 173)), some (.inl x1), some (.inl x2), some (.inl v5), some (.inl (x4 + 1)), some (.inl v5), some (.inl ((M9 183 x1.toNat) - (0 : Int)))]) hP rfl rfl hs18 rfl ?_
          refine e_go hP rfl ?_
          exact en_fg h ⟨Or.inr rfl, Or.inr rfl, Or.inr rfl, Or.inr rfl, Or.inr rfl, Or.inl rfl, Or.inl rfl, trivial⟩
        · have h := h.2 hc
          refine e_ld hP rfl rfl ?_
          refine e_ld hP rfl rfl ?_
          refine e_gI (a := 9) 172 (sh_172 hM) hP rfl (by decide) ?_
          refine e_cle hP rfl (fun hc => ?_) (fun hc => ?_)
          · have h := h.1 hc
            obtain ⟨hs19, h⟩ := h
            refine e_inc (L' := [some (.inr (.inr 173)), some (.inl x1), some (.inl x2), some (.inl x3), some (.inl (x4 + 1)), some (.inl v5), some (.inl ((M9 183 x1.toNat) - (0 : Int)))]) hP rfl rfl hs19 rfl ?_
            refine e_go hP rfl ?_
            exact en_fg h ⟨Or.inr rfl, Or.inr rfl, Or.inr rfl, Or.inr rfl, Or.inr rfl, Or.inl rfl, Or.inl rfl, trivial⟩
          · have h := h.2 hc
            refine e_ld hP rfl rfl ?_
            refine e_st (L' := [some (.inr (.inr 173)), some (.inl x1), some (.inl x2), some (.inl v5), some (.inl x4), some (.inl v5), some (.inl ((M9 183 x1.toNat) - (0 : Int)))]) hP rfl rfl ?_
            refine e_ld hP rfl rfl ?_
            refine e_ld hP rfl rfl ?_
            refine e_pI (a := 9) 172 (sh_172 hM) (by decide) hP rfl (by decide) ?_
            obtain ⟨hs20, h⟩ := h
            refine e_inc (L' := [some (.inr (.inr 173)), some (.inl x1), some (.inl x2), some (.inl v5), some (.inl (x4 + 1)), some (.inl v5), some (.inl ((M9 183 x1.toNat) - (0 : Int)))]) hP rfl rfl hs20 rfl ?_
            refine e_go hP rfl ?_
            exact en_fg h ⟨Or.inr rfl, Or.inr rfl, Or.inr rfl, Or.inr rfl, Or.inr rfl, Or.inl rfl, Or.inl rfl, trivial⟩
    · have h := h.2 hc
      refine e_c hP rfl ?_
      refine e_go hP rfl ?_
      refine e_st (L' := [some (.inr (.inr 173)), some (.inl x1), some (.inl x2), some (.inl x3), some (.inl x4), some (.inl v5), some (.inl (0 : Int))]) hP rfl rfl ?_
      refine e_ld hP rfl rfl ?_
      refine e_zlt hP rfl (fun hc => ?_) (fun hc => ?_)
      · have h := h.1 hc
        refine e_ld hP rfl rfl ?_
        refine e_st (L' := [some (.inr (.inr 173)), some (.inl x1), some (.inl x2), some (.inl v5), some (.inl x4), some (.inl v5), some (.inl (0 : Int))]) hP rfl rfl ?_
        refine e_ld hP rfl rfl ?_
        refine e_ld hP rfl rfl ?_
        refine e_pI (a := 9) 172 (sh_172 hM) (by decide) hP rfl (by decide) ?_
        obtain ⟨hs21, h⟩ := h
        refine e_inc (L' := [some (.inr (.inr 173)), some (.inl x1), some (.inl x2), some (.inl v5), some (.inl (x4 + 1)), some (.inl v5), some (.inl (0 : Int))]) hP rfl rfl hs21 rfl ?_
        refine e_go hP rfl ?_
        exact en_fg h ⟨Or.inr rfl, Or.inr rfl, Or.inr rfl, Or.inr rfl, Or.inr rfl, Or.inl rfl, Or.inl rfl, trivial⟩
      · have h := h.2 hc
        refine e_ld hP rfl rfl ?_
        refine e_ld hP rfl rfl ?_
        refine e_gI (a := 9) 172 (sh_172 hM) hP rfl (by decide) ?_
        refine e_cle hP rfl (fun hc => ?_) (fun hc => ?_)
        · have h := h.1 hc
          obtain ⟨hs22, h⟩ := h
          refine e_inc (L' := [some (.inr (.inr 173)), some (.inl x1), some (.inl x2), some (.inl x3), some (.inl (x4 + 1)), some (.inl v5), some (.inl (0 : Int))]) hP rfl rfl hs22 rfl ?_
          refine e_go hP rfl ?_
          exact en_fg h ⟨Or.inr rfl, Or.inr rfl, Or.inr rfl, Or.inr rfl, Or.inr rfl, Or.inl rfl, Or.inl rfl, trivial⟩
        · have h := h.2 hc
          refine e_ld hP rfl rfl ?_
          refine e_st (L' := [some (.inr (.inr 173)), some (.inl x1), some (.inl x2), some (.inl v5), some (.inl x4), some (.inl v5), some (.inl (0 : Int))]) hP rfl rfl ?_
          refine e_ld hP rfl rfl ?_
          refine e_ld hP rfl rfl ?_
          refine e_pI (a := 9) 172 (sh_172 hM) (by decide) hP rfl (by decide) ?_
          obtain ⟨hs23, h⟩ := h
          refine e_inc (L' := [some (.inr (.inr 173)), some (.inl x1), some (.inl x2), some (.inl v5), some (.inl (x4 + 1)), some (.inl v5), some (.inl (0 : Int))]) hP rfl rfl hs23 rfl ?_
          refine e_go hP rfl ?_
          exact en_fg h ⟨Or.inr rfl, Or.inr rfl, Or.inr rfl, Or.inr rfl, Or.inr rfl, Or.inl rfl, Or.inl rfl, trivial⟩
theorem r_X9_change_0 {S : Shp} {M : Mem} {Q : Res → Prop} (hM : KM S) {p1 p2 : Int} (h : Ca 156 [.inr (.inr 173), .inl p1] S M (fun r => ∃ (M1 : Mem) (v2 : Int), r = (S, M1, some (.inl v2)) ∧ ((v2 = 0 → Q (S, M1, some (.inl (-1 : Int)))) ∧ (v2 ≠ 0 → Ca 140 [.inr (.inl p2), .inr (.inl (0 : Int)), .inr (.inl (1 : Int))] S M1 (fun r => ∃ (M3 : Mem) (v4 : Int), r = (S, M3, some (.inl v4)) ∧ ((v4 ≠ 0 → Ca 158 [.inr (.inr 173), .inl (0 : Int), .inl p1] S M3 (fun r => ∃ (M5 : Mem) (v6 : Int), r = (S, M5, some (.inl v6)) ∧ ((0 ≤ v6 → Ca 170 [.inr (.inr 173), .inl (0 : Int), .inl (11 : Int)] S M5 (fun r => ∃ M7 : Mem, r = (S, M7, none) ∧ Ca 189 [.inr (.inr 173), .inl p1] S M7 (fun r => ∃ (M8 : Mem) (v9 : Int), r = (S, M8, some (.inl v9)) ∧ ((p2 ≠ 0 → (inR ((M8 172 24) + (100 : Int))) ∧ Q (S, M8, some (.inl ((M8 172 24) + (100 : Int))))) ∧ (p2 = 0 → Q (S, M8, some (.inl v9))))))) ∧ (v6 < 0 → Q (S, M5, some (.inl (-2 : Int))))))) ∧ (v4 = 0 → Q (S, M3, some (.inl (-1 : Int)))))))))) : Ca 190 [.inr (.inr 173), .inl p1, .inl p2] S M Q := by
  have hP : PR 190 = (bc_190, 4) := rfl
  refine ⟨Nat.le_of_ble_eq_true rfl, ?_⟩
  show En 190 0 [some (.inr (.inr 173)), some (.inl p1), some (.inl p2), none] [] S M Q
  refine e_ld hP rfl rfl ?_
  refine e_ld hP rfl rfl ?_
  refine e_call hP rfl rfl rfl (Nat.le_of_ble_eq_true rfl) (Nat.le_of_ble_eq_true rfl) (rcv0 (sh_172 hM) (by decide)) ?_
  refine Ca.mono h (fun r hr => ?_)
  obtain ⟨M1, v2, rfl, h⟩ := hr
  show En 190 3 [some (.inr (.inr 173)), some (.inl p1), some (.inl p2), none] [.inl v2] S M1 Q
  refine e_zeq hP rfl (fun hc => ?_) (fun hc => ?_)
  · have h := h.1 hc
    refine e_c hP rfl ?_
    exact e_ret hP rfl rfl h
  · have h := h.2 hc
    refine e_ld hP rfl rfl ?_
    refine e_i2l hP rfl ?_
    refine e_lc hP rfl ?_
    refine e_lc hP rfl ?_
    refine e_call hP rfl rfl rfl (Nat.le_of_ble_eq_true rfl) (Nat.le_of_ble_eq_true rfl) rcv1 ?_
    refine Ca.mono h (fun r hr => ?_)
    obtain ⟨M3, v4, rfl, h⟩ := hr
    show En 190 9 [some (.inr (.inr 173)), some (.inl p1), some (.inl p2), none] [.inl v4] S M3 Q
    refine e_zne hP rfl (fun hc => ?_) (fun hc => ?_)
    · have h := h.1 hc
      refine e_ld hP rfl rfl ?_
      refine e_c hP rfl ?_
      refine e_ld hP rfl rfl ?_
      refine e_call hP rfl rfl rfl (Nat.le_of_ble_eq_true rfl) (Nat.le_of_ble_eq_true rfl) (rcv0 (sh_172 hM) (by decide)) ?_
      refine Ca.mono h (fun r hr => ?_)
      obtain ⟨M5, v6, rfl, h⟩ := hr
      show En 190 16 [some (.inr (.inr 173)), some (.inl p1), some (.inl p2), none] [.inl v6] S M5 Q
      refine e_zge hP rfl (fun hc => ?_) (fun hc => ?_)
      · have h := h.1 hc
        refine e_ld hP rfl rfl ?_
        refine e_c hP rfl ?_
        refine e_c hP rfl ?_
        refine e_call hP rfl rfl rfl (Nat.le_of_ble_eq_true rfl) (Nat.le_of_ble_eq_true rfl) (rcv0 (sh_172 hM) (by decide)) ?_
        refine Ca.mono h (fun r hr => ?_)
        obtain ⟨M7, rfl, h⟩ := hr
        show En 190 23 [some (.inr (.inr 173)), some (.inl p1), some (.inl p2), none] [] S M7 Q
        refine e_ld hP rfl rfl ?_
        refine e_ld hP rfl rfl ?_
        refine e_call hP rfl rfl rfl (Nat.le_of_ble_eq_true rfl) (Nat.le_of_ble_eq_true rfl) (rcv0 (sh_172 hM) (by decide)) ?_
        refine Ca.mono h (fun r hr => ?_)
        obtain ⟨M8, v9, rfl, h⟩ := hr
        show En 190 26 [some (.inr (.inr 173)), some (.inl p1), some (.inl p2), none] [.inl v9] S M8 Q
        refine e_st (L' := [some (.inr (.inr 173)), some (.inl p1), some (.inl p2), some (.inl v9)]) hP rfl rfl ?_
        refine e_ld hP rfl rfl ?_
        refine e_zne hP rfl (fun hc => ?_) (fun hc => ?_)
        · have h := h.1 hc
          refine e_ld hP rfl rfl ?_
          refine e_gI (a := 9) 172 (sh_172 hM) hP rfl (by decide) ?_
          refine e_c hP rfl ?_
          obtain ⟨hs10, h⟩ := h
          refine e_add hP rfl hs10 ?_
          exact e_ret hP rfl rfl h
        · have h := h.2 hc
          refine e_ld hP rfl rfl ?_
          refine e_go hP rfl ?_
          exact e_ret hP rfl rfl h
      · have h := h.2 hc
        refine e_c hP rfl ?_
        exact e_ret hP rfl rfl h
    · have h := h.2 hc
      refine e_c hP rfl ?_
      exact e_ret hP rfl rfl h
theorem r_X9_isRound_0 {S : Shp} {M : Mem} {Q : Res → Prop} (hM : KM S) (h : En 191 4 [some (.inr (.inr 173)), some (.inl (0 : Int)), some (.inl (0 : Int)), none] [] S M Q) : Ca 191 [.inr (.inr 173)] S M Q := by
  have hP : PR 191 = (bc_191, 4) := rfl
  refine ⟨Nat.le_of_ble_eq_true rfl, ?_⟩
  show En 191 0 [some (.inr (.inr 173)), none, none, none] [] S M Q
  refine e_c hP rfl ?_
  refine e_st (L' := [some (.inr (.inr 173)), some (.inl (0 : Int)), none, none]) hP rfl rfl ?_
  refine e_c hP rfl ?_
  refine e_st (L' := [some (.inr (.inr 173)), some (.inl (0 : Int)), some (.inl (0 : Int)), none]) hP rfl rfl ?_
  exact h
theorem r_X9_isRound_4 {S : Shp} {M : Mem} {Q : Res → Prop} (hM : KM S) {x1 x2 : Int} (h : (0 ≤ (0 : Int) ∧ (0 : Int) < 12) ∧ (((M 174 (0 : Int).toNat) ≤ x2 → (x1 = 0 ∨ x1 = 1) ∧ Q (S, M, some (.inl x1))) ∧ (x2 < (M 174 (0 : Int).toNat) → Ca 158 [.inr (.inr 173), .inl (11 : Int), .inl x2] S M (fun r => ∃ (M2 : Mem) (v3 : Int), r = (S, M2, some (.inl v3)) ∧ ((v3 < 0 → (inR (x2 + 1)) ∧ En 191 4 [some (.inr (.inr 173)), some (.inl x1), some (.inl (x2 + 1)), none] [] S M2 Q) ∧ (0 ≤ v3 → Ca 189 [.inr (.inr 173), .inl x2] S M2 (fun r => ∃ (M5 : Mem) (v6 : Int), r = (S, M5, some (.inl v6)) ∧ ((x1 ≠ 0 → (inR ((6 : Int) * x2)) ∧ (inR ((1878 : Int) + ((6 : Int) * x2))) ∧ (0 ≤ ((1878 : Int) + ((6 : Int) * x2)) ∧ ((1878 : Int) + ((6 : Int) * x2)) < 2040) ∧ (inR (x2 + 1)) ∧ En 191 4 [some (.inr (.inr 173)), some (.inl (1 : Int)), some (.inl (x2 + 1)), none] [] S (up2 M5 180 ((1878 : Int) + ((6 : Int) * x2)).toNat v6) Q) ∧ (x1 = 0 → Ca 158 [.inr (.inr 173), .inl (11 : Int), .inl x2] S M5 (fun r => ∃ (M11 : Mem) (v12 : Int), r = (S, M11, some (.inl v12)) ∧ ((v6 = v12 → (inR ((6 : Int) * x2)) ∧ (inR ((1878 : Int) + ((6 : Int) * x2))) ∧ (0 ≤ ((1878 : Int) + ((6 : Int) * x2)) ∧ ((1878 : Int) + ((6 : Int) * x2)) < 2040) ∧ (inR (x2 + 1)) ∧ En 191 4 [some (.inr (.inr 173)), some (.inl (0 : Int)), some (.inl (x2 + 1)), none] [] S (up2 M11 180 ((1878 : Int) + ((6 : Int) * x2)).toNat v6) Q) ∧ (v6 ≠ v12 → (inR ((6 : Int) * x2)) ∧ (inR ((1878 : Int) + ((6 : Int) * x2))) ∧ (0 ≤ ((1878 : Int) + ((6 : Int) * x2)) ∧ ((1878 : Int) + ((6 : Int) * x2)) < 2040) ∧ (inR (x2 + 1)) ∧ En 191 4 [some (.inr (.inr 173)), some (.inl (1 : Int)), some (.inl (x2 + 1)), none] [] S (up2 M11 180 ((1878 : Int) + ((6 : Int) * x2)).toNat v6) Q)))))))))))) : En 191 4 [some (.inr (.inr 173)), some (.inl x1), some (.inl x2), none] [] S M Q := by
  have hP : PR 191 = (bc_191, 4) := rfl
  refine e_ld hP rfl rfl ?_
  refine e_ld hP rfl rfl ?_
  refine e_gR (a := 9) (w := 175) 172 (sh_172 hM) hP rfl (by decide) rfl ?_
  refine e_c hP rfl ?_
  obtain ⟨hs1, h⟩ := h
  refine e_al 174 (sh_174 hM) hP rfl hs1 ?_
  refine e_cge hP rfl (fun hc => ?_) (fun hc => ?_)
  · have h := h.1 hc
    refine e_ld hP rfl rfl ?_
    exact e_ret hP rfl (decide_eq_true h.1) h.2
  · have h := h.2 hc
    refine e_ld hP rfl rfl ?_
    refine e_c hP rfl ?_
    refine e_ld hP rfl rfl ?_
    refine e_call hP rfl rfl rfl (Nat.le_of_ble_eq_true rfl) (Nat.le_of_ble_eq_true rfl) (rcv0 (sh_172 hM) (by decide)) ?_
    refine Ca.mono h (fun r hr => ?_)
    obtain ⟨M2, v3, rfl, h⟩ := hr
    show En 191 14 [some (.inr (.inr 173)), some (.inl x1), some (.inl x2), none] [.inl v3] S M2 Q
    refine e_zlt hP rfl (fun hc => ?_) (fun hc => ?_)
    · have h := h.1 hc
      obtain ⟨hs4, h⟩ := h
      refine e_inc (L' := [some (.inr (.inr 173)), some (.inl x1), some (.inl (x2 + 1)), none]) hP rfl rfl hs4 rfl ?_
      refine e_go hP rfl ?_
      exact h
    · have h := h.2 hc
      refine e_ld hP rfl rfl ?_
      refine e_ld hP rfl rfl ?_
      refine e_call hP rfl rfl rfl (Nat.le_of_ble_eq_true rfl) (Nat.le_of_ble_eq_true rfl) (rcv0 (sh_172 hM) (by decide)) ?_
      refine Ca.mono h (fun r hr => ?_)
      obtain ⟨M5, v6, rfl, h⟩ := hr
      show En 191 18 [some (.inr (.inr 173)), some (.inl x1), some (.inl x2), none] [.inl v6] S M5 Q
      refine e_st (L' := [some (.inr (.inr 173)), some (.inl x1), some (.inl x2), some (.inl v6)]) hP rfl rfl ?_
      refine e_ld hP rfl rfl ?_
      refine e_zne hP rfl (fun hc => ?_) (fun hc => ?_)
      · have h := h.1 hc
        refine e_c hP rfl ?_
        refine e_go hP rfl ?_
        refine e_st (L' := [some (.inr (.inr 173)), some (.inl (1 : Int)), some (.inl x2), some (.inl v6)]) hP rfl rfl ?_
        refine e_ld hP rfl rfl ?_
        refine e_gR (a := 9) (w := 181) 172 (sh_172 hM) hP rfl (by decide) rfl ?_
        refine e_c hP rfl ?_
        refine e_c hP rfl ?_
        refine e_ld hP rfl rfl ?_
        obtain ⟨hs7, h⟩ := h
        refine e_mul hP rfl hs7 ?_
        obtain ⟨hs8, h⟩ := h
        refine e_add hP rfl hs8 ?_
        refine e_ld hP rfl rfl ?_
        obtain ⟨hs9, h⟩ := h
        refine e_as 180 (sh_180 hM) (by decide) hP rfl hs9 ?_
        obtain ⟨hs10, h⟩ := h
        refine e_inc (L' := [some (.inr (.inr 173)), some (.inl (1 : Int)), some (.inl (x2 + 1)), some (.inl v6)]) hP rfl rfl hs10 rfl ?_
        refine e_go hP rfl ?_
        exact en_fg h ⟨Or.inr rfl, Or.inr rfl, Or.inr rfl, Or.inl rfl, trivial⟩
      · have h := h.2 hc
        refine e_ld hP rfl rfl ?_
        refine e_ld hP rfl rfl ?_
        refine e_c hP rfl ?_
        refine e_ld hP rfl rfl ?_
        refine e_call hP rfl rfl rfl (Nat.le_of_ble_eq_true rfl) (Nat.le_of_ble_eq_true rfl) (rcv0 (sh_172 hM) (by decide)) ?_
        refine Ca.mono h (fun r hr => ?_)
        obtain ⟨M11, v12, rfl, h⟩ := hr
        show En 191 26 [some (.inr (.inr 173)), some (.inl x1), some (.inl x2), some (.inl v6)] [.inl v12, .inl v6] S M11 Q
        refine e_ceq hP rfl (fun hc => ?_) (fun hc => ?_)
        · have h := h.1 hc
          refine e_c hP rfl ?_
          refine e_st (L' := [some (.inr (.inr 173)), some (.inl (0 : Int)), some (.inl x2), some (.inl v6)]) hP rfl rfl ?_
          refine e_ld hP rfl rfl ?_
          refine e_gR (a := 9) (w := 181) 172 (sh_172 hM) hP rfl (by decide) rfl ?_
          refine e_c hP rfl ?_
          refine e_c hP rfl ?_
          refine e_ld hP rfl rfl ?_
          obtain ⟨hs13, h⟩ := h
          refine e_mul hP rfl hs13 ?_
          obtain ⟨hs14, h⟩ := h
          refine e_add hP rfl hs14 ?_
          refine e_ld hP rfl rfl ?_
          obtain ⟨hs15, h⟩ := h
          refine e_as 180 (sh_180 hM) (by decide) hP rfl hs15 ?_
          obtain ⟨hs16, h⟩ := h
          refine e_inc (L' := [some (.inr (.inr 173)), some (.inl (0 : Int)), some (.inl (x2 + 1)), some (.inl v6)]) hP rfl rfl hs16 rfl ?_
          refine e_go hP rfl ?_
          exact en_fg h ⟨Or.inr rfl, Or.inr rfl, Or.inr rfl, Or.inl rfl, trivial⟩
        · have h := h.2 hc
          refine e_c hP rfl ?_
          refine e_go hP rfl ?_
          refine e_st (L' := [some (.inr (.inr 173)), some (.inl (1 : Int)), some (.inl x2), some (.inl v6)]) hP rfl rfl ?_
          refine e_ld hP rfl rfl ?_
          refine e_gR (a := 9) (w := 181) 172 (sh_172 hM) hP rfl (by decide) rfl ?_
          refine e_c hP rfl ?_
          refine e_c hP rfl ?_
          refine e_ld hP rfl rfl ?_
          obtain ⟨hs17, h⟩ := h
          refine e_mul hP rfl hs17 ?_
          obtain ⟨hs18, h⟩ := h
          refine e_add hP rfl hs18 ?_
          refine e_ld hP rfl rfl ?_
          obtain ⟨hs19, h⟩ := h
          refine e_as 180 (sh_180 hM) (by decide) hP rfl hs19 ?_
          obtain ⟨hs20, h⟩ := h
          refine e_inc (L' := [some (.inr (.inr 173)), some (.inl (1 : Int)), some (.inl (x2 + 1)), some (.inl v6)]) hP rfl rfl hs20 rfl ?_
          refine e_go hP rfl ?_
          exact en_fg h ⟨Or.inr rfl, Or.inr rfl, Or.inr rfl, Or.inl rfl, trivial⟩
theorem r_X9_run_0 {S : Shp} {M : Mem} {Q : Res → Prop} (hM : KM S) {p1 : Int} (h : (0 ≤ (0 : Int) ∧ (0 : Int) < 12) ∧ (inR ((M 174 (0 : Int).toNat) - (1 : Int))) ∧ Ca 140 [.inr (.inl p1), .inr (.inl (-1 : Int)), .inr (.inl ((M 174 (0 : Int).toNat) - (1 : Int)))] S M (fun r => ∃ (M3 : Mem) (v4 : Int), r = (S, M3, some (.inl v4)) ∧ ((v4 ≠ 0 → Ca 170 [.inr (.inr 173), .inl (0 : Int), .inl (11 : Int)] S M3 (fun r => ∃ M5 : Mem, r = (S, M5, none) ∧ En 192 20 [some (.inr (.inr 173)), some (.inl p1), some (.inl (0 : Int))] [] S M5 Q)) ∧ (v4 = 0 → Q (S, M3, some (.inl (-1 : Int))))))) : Ca 192 [.inr (.inr 173), .inl p1] S M Q := by
  have hP : PR 192 = (bc_192, 3) := rfl
  refine ⟨Nat.le_of_ble_eq_true rfl, ?_⟩
  show En 192 0 [some (.inr (.inr 173)), some (.inl p1), none] [] S M Q
  refine e_ld hP rfl rfl ?_
  refine e_i2l hP rfl ?_
  refine e_lc hP rfl ?_
  refine e_ld hP rfl rfl ?_
  refine e_gR (a := 9) (w := 175) 172 (sh_172 hM) hP rfl (by decide) rfl ?_
  refine e_c hP rfl ?_
  obtain ⟨hs1, h⟩ := h
  refine e_al 174 (sh_174 hM) hP rfl hs1 ?_
  refine e_c hP rfl ?_
  obtain ⟨hs2, h⟩ := h
  refine e_sub hP rfl hs2 ?_
  refine e_i2l hP rfl ?_
  refine e_call hP rfl rfl rfl (Nat.le_of_ble_eq_true rfl) (Nat.le_of_ble_eq_true rfl) rcv1 ?_
  refine Ca.mono h (fun r hr => ?_)
  obtain ⟨M3, v4, rfl, h⟩ := hr
  show En 192 11 [some (.inr (.inr 173)), some (.inl p1), none] [.inl v4] S M3 Q
  refine e_zne hP rfl (fun hc => ?_) (fun hc => ?_)
  · have h := h.1 hc
    refine e_ld hP rfl rfl ?_
    refine e_c hP rfl ?_
    refine e_c hP rfl ?_
    refine e_call hP rfl rfl rfl (Nat.le_of_ble_eq_true rfl) (Nat.le_of_ble_eq_true rfl) (rcv0 (sh_172 hM) (by decide)) ?_
    refine Ca.mono h (fun r hr => ?_)
    obtain ⟨M5, rfl, h⟩ := hr
    show En 192 18 [some (.inr (.inr 173)), some (.inl p1), none] [] S M5 Q
    refine e_c hP rfl ?_
    refine e_st (L' := [some (.inr (.inr 173)), some (.inl p1), some (.inl (0 : Int))]) hP rfl rfl ?_
    exact h
  · have h := h.2 hc
    refine e_c hP rfl ?_
    exact e_ret hP rfl rfl h
theorem r_X9_run_20 {S : Shp} {M : Mem} {Q : Res → Prop} (hM : KM S) {x1 x2 : Int} (h : (((20 : Int) ≤ x2 → ((x1 < 0 → Ca 191 [.inr (.inr 173)] S M (fun r => ∃ (M1 : Mem) (v2 : Int), r = (S, M1, some (.inl v2)) ∧ ((v2 = 0 → Q (S, M1, some (.inl (20 : Int)))) ∧ (v2 ≠ 0 → Q (S, M1, some (.inl (-4 : Int))))))) ∧ (0 ≤ x1 → Ca 158 [.inr (.inr 173), .inl (11 : Int), .inl x1] S M (fun r => ∃ (M3 : Mem) (v4 : Int), r = (S, M3, some (.inl v4)) ∧ Q (S, M3, some (.inl v4)))))) ∧ (x2 < (20 : Int) → Ca 191 [.inr (.inr 173)] S M (fun r => ∃ (M5 : Mem) (v6 : Int), r = (S, M5, some (.inl v6)) ∧ ((v6 ≠ 0 → (inR (x2 + 1)) ∧ En 192 20 [some (.inr (.inr 173)), some (.inl x1), some (.inl (x2 + 1))] [] S M5 Q) ∧ (v6 = 0 → ((0 ≤ x1 → Ca 158 [.inr (.inr 173), .inl (11 : Int), .inl x1] S M5 (fun r => ∃ (M8 : Mem) (v9 : Int), r = (S, M8, some (.inl v9)) ∧ Q (S, M8, some (.inl v9)))) ∧ (x1 < 0 → Q (S, M5, some (.inl x2)))))))))) : En 192 20 [some (.inr (.inr 173)), some (.inl x1), some (.inl x2)] [] S M Q := by
  have hP : PR 192 = (bc_192, 3) := rfl
  refine e_ld hP rfl rfl ?_
  refine e_c hP rfl ?_
  refine e_cge hP rfl (fun hc => ?_) (fun hc => ?_)
  · have h := h.1 hc
    refine e_ld hP rfl rfl ?_
    refine e_zlt hP rfl (fun hc => ?_) (fun hc => ?_)
    · have h := h.1 hc
      refine e_ld hP rfl rfl ?_
      refine e_call hP rfl rfl rfl (Nat.le_of_ble_eq_true rfl) (Nat.le_of_ble_eq_true rfl) (rcv0 (sh_172 hM) (by decide)) ?_
      refine Ca.mono h (fun r hr => ?_)
      obtain ⟨M1, v2, rfl, h⟩ := hr
      show En 192 46 [some (.inr (.inr 173)), some (.inl x1), some (.inl x2)] [.inl v2] S M1 Q
      refine e_zeq hP rfl (fun hc => ?_) (fun hc => ?_)
      · have h := h.1 hc
        refine e_c hP rfl ?_
        exact e_ret hP rfl rfl h
      · have h := h.2 hc
        refine e_c hP rfl ?_
        refine e_go hP rfl ?_
        exact e_ret hP rfl rfl h
    · have h := h.2 hc
      refine e_ld hP rfl rfl ?_
      refine e_c hP rfl ?_
      refine e_ld hP rfl rfl ?_
      refine e_call hP rfl rfl rfl (Nat.le_of_ble_eq_true rfl) (Nat.le_of_ble_eq_true rfl) (rcv0 (sh_172 hM) (by decide)) ?_
      refine Ca.mono h (fun r hr => ?_)
      obtain ⟨M3, v4, rfl, h⟩ := hr
      show En 192 43 [some (.inr (.inr 173)), some (.inl x1), some (.inl x2)] [.inl v4] S M3 Q
      exact e_ret hP rfl rfl h
  · have h := h.2 hc
    refine e_ld hP rfl rfl ?_
    refine e_call hP rfl rfl rfl (Nat.le_of_ble_eq_true rfl) (Nat.le_of_ble_eq_true rfl) (rcv0 (sh_172 hM) (by decide)) ?_
    refine Ca.mono h (fun r hr => ?_)
    obtain ⟨M5, v6, rfl, h⟩ := hr
    show En 192 25 [some (.inr (.inr 173)), some (.inl x1), some (.inl x2)] [.inl v6] S M5 Q
    refine e_zne hP rfl (fun hc => ?_) (fun hc => ?_)
    · have h := h.1 hc
      obtain ⟨hs7, h⟩ := h
      refine e_inc (L' := [some (.inr (.inr 173)), some (.inl x1), some (.inl (x2 + 1))]) hP rfl rfl hs7 rfl ?_
      refine e_go hP rfl ?_
      exact h
    · have h := h.2 hc
      refine e_ld hP rfl rfl ?_
      refine e_zge hP rfl (fun hc => ?_) (fun hc => ?_)
      · have h := h.1 hc
        refine e_ld hP rfl rfl ?_
        refine e_c hP rfl ?_
        refine e_ld hP rfl rfl ?_
        refine e_call hP rfl rfl rfl (Nat.le_of_ble_eq_true rfl) (Nat.le_of_ble_eq_true rfl) (rcv0 (sh_172 hM) (by decide)) ?_
        refine Ca.mono h (fun r hr => ?_)
        obtain ⟨M8, v9, rfl, h⟩ := hr
        show En 192 34 [some (.inr (.inr 173)), some (.inl x1), some (.inl x2)] [.inl v9] S M8 Q
        exact e_ret hP rfl rfl h
      · have h := h.2 hc
        refine e_ld hP rfl rfl ?_
        refine e_go hP rfl ?_
        exact e_ret hP rfl rfl h
theorem r_X9_hasAll_0 {S : Shp} {M : Mem} {Q : Res → Prop} (hM : KM S) {p1 p2 p3 p4 : Int} (h : Ca 158 [.inr (.inr 173), .inl (11 : Int), .inl p1] S M (fun r => ∃ (M1 : Mem) (v2 : Int), r = (S, M1, some (.inl v2)) ∧ (∃ z3 : Int, bi_and p2 (1 : Int) = some z3 ∧ ((z3 = 0 → En 193 13 [some (.inr (.inr 173)), some (.inl p1), some (.inl p2), some (.inl p3), some (.inl p4), some (.inl v2), none, none] [] S M1 Q) ∧ (z3 ≠ 0 → Ca 160 [.inr (.inr 173), .inl v2] S M1 (fun r => ∃ (M5 : Mem) (v6 : Int), r = (S, M5, some (.inl v6)) ∧ ((v6 = 0 → En 193 16 [some (.inr (.inr 173)), some (.inl p1), some (.inl p2), some (.inl p3), some (.inl p4), some (.inl v2), none, none] [.inl (0 : Int)] S M5 Q) ∧ (v6 ≠ 0 → En 193 13 [some (.inr (.inr 173)), some (.inl p1), some (.inl p2), some (.inl p3), some (.inl p4), some (.inl v2), none, none] [] S M5 Q)))))))) : Ca 193 [.inr (.inr 173), .inl p1, .inl p2, .inl p3, .inl p4] S M Q := by
  have hP : PR 193 = (bc_193, 8) := rfl
  refine ⟨Nat.le_of_ble_eq_true rfl, ?_⟩
  show En 193 0 [some (.inr (.inr 173)), some (.inl p1), some (.inl p2), some (.inl p3), some (.inl p4), none, none, none] [] S M Q
  refine e_ld hP rfl rfl ?_
  refine e_c hP rfl ?_
  refine e_ld hP rfl rfl ?_
  refine e_call hP rfl rfl rfl (Nat.le_of_ble_eq_true rfl) (Nat.le_of_ble_eq_true rfl) (rcv0 (sh_172 hM) (by decide)) ?_
  refine Ca.mono h (fun r hr => ?_)
  obtain ⟨M1, v2, rfl, h⟩ := hr
  show En 193 4 [some (.inr (.inr 173)), some (.inl p1), some (.inl p2), some (.inl p3), some (.inl p4), none, none, none] [.inl v2] S M1 Q
  refine e_st (L' := [some (.inr (.inr 173)), some (.inl p1), some (.inl p2), some (.inl p3), some (.inl p4), some (.inl v2), none, none]) hP rfl rfl ?_
  refine e_ld hP rfl rfl ?_
  refine e_c hP rfl ?_
  obtain ⟨z3, hs4, h⟩ := h
  refine e_and hP rfl hs4 ?_
  refine e_zeq hP rfl (fun hc => ?_) (fun hc => ?_)
  · have h := h.1 hc
    exact h
  · have h := h.2 hc
    refine e_ld hP rfl rfl ?_
    refine e_ld hP rfl rfl ?_
    refine e_call hP rfl rfl rfl (Nat.le_of_ble_eq_true rfl) (Nat.le_of_ble_eq_true rfl) (rcv0 (sh_172 hM) (by decide)) ?_
    refine Ca.mono h (fun r hr => ?_)
    obtain ⟨M5, v6, rfl, h⟩ := hr
    show En 193 12 [some (.inr (.inr 173)), some (.inl p1), some (.inl p2), some (.inl p3), some (.inl p4), some (.inl v2), none, none] [.inl v6] S M5 Q
    refine e_zeq hP rfl (fun hc => ?_) (fun hc => ?_)
    · have h := h.1 hc
      refine e_c hP rfl ?_
      exact h
    · have h := h.2 hc
      exact h
theorem r_X9_hasAll_13 {S : Shp} {M : Mem} {Q : Res → Prop} (hM : KM S) {x1 x2 x3 x4 x5 : Int} (h : En 193 16 [some (.inr (.inr 173)), some (.inl x1), some (.inl x2), some (.inl x3), some (.inl x4), some (.inl x5), none, none] [.inl (1 : Int)] S M Q) : En 193 13 [some (.inr (.inr 173)), some (.inl x1), some (.inl x2), some (.inl x3), some (.inl x4), some (.inl x5), none, none] [] S M Q := by
  have hP : PR 193 = (bc_193, 8) := rfl
  refine e_c hP rfl ?_
  refine e_go hP rfl ?_
  exact h
theorem r_X9_hasAll_16 {S : Shp} {M : Mem} {Q : Res → Prop} (hM : KM S) {x1 x2 x3 x4 x5 s0 : Int} (h : (∃ z1 : Int, bi_and x2 (2 : Int) = some z1 ∧ ((z1 = 0 → En 193 36 [some (.inr (.inr 173)), some (.inl x1), some (.inl x2), some (.inl x3), some (.inl x4), some (.inl x5), some (.inl s0), none] [] S M Q) ∧ (z1 ≠ 0 → ((s0 = 0 → En 193 34 [some (.inr (.inr 173)), some (.inl x1), some (.inl x2), some (.inl x3), some (.inl x4), some (.inl x5), some (.inl s0), none] [] S M Q) ∧ (s0 ≠ 0 → ((x1 = x3 → En 193 34 [some (.inr (.inr 173)), some (.inl x1), some (.inl x2), some (.inl x3), some (.inl x4), some (.inl x5), some (.inl s0), none] [] S M Q) ∧ (x1 ≠ x3 → Ca 162 [.inr (.inr 173), .inl (11 : Int), .inl x1, .inl x3] S M (fun r => ∃ (M3 : Mem) (v4 : Int), r = (S, M3, some (.inl v4)) ∧ ((v4 = 0 → En 193 34 [some (.inr (.inr 173)), some (.inl x1), some (.inl x2), some (.inl x3), some (.inl x4), some (.inl x5), some (.inl s0), none] [] S M3 Q) ∧ (v4 ≠ 0 → En 193 35 [some (.inr (.inr 173)), some (.inl x1), some (.inl x2), some (.inl x3), some (.inl x4), some (.inl x5), some (.inl s0), none] [.inl (1 : Int)] S M3 Q))))))))))) : En 193 16 [some (.inr (.inr 173)), some (.inl x1), some (.inl x2), some (.inl x3), some (.inl x4), some (.inl x5), none, none] [.inl s0] S M Q := by
  have hP : PR 193 = (bc_193, 8) := rfl
  refine e_st (L' := [some (.inr (.inr 173)), some (.inl x1), some (.inl x2), some (.inl x3), some (.inl x4), some (.inl x5), some (.inl s0), none]) hP rfl rfl ?_
  refine e_ld hP rfl rfl ?_
  refine e_c hP rfl ?_
  obtain ⟨z1, hs2, h⟩ := h
  refine e_and hP rfl hs2 ?_
  refine e_zeq hP rfl (fun hc => ?_) (fun hc => ?_)
  · have h := h.1 hc
    exact h
  · have h := h.2 hc
    refine e_ld hP rfl rfl ?_
    refine e_zeq hP rfl (fun hc => ?_) (fun hc => ?_)
    · have h := h.1 hc
      exact h
    · have h := h.2 hc
      refine e_ld hP rfl rfl ?_
      refine e_ld hP rfl rfl ?_
      refine e_ceq hP rfl (fun hc => ?_) (fun hc => ?_)
      · have h := h.1 hc
        exact h
      · have h := h.2 hc
        refine e_ld hP rfl rfl ?_
        refine e_c hP rfl ?_
        refine e_ld hP rfl rfl ?_
        refine e_ld hP rfl rfl ?_
        refine e_call hP rfl rfl rfl (Nat.le_of_ble_eq_true rfl) (Nat.le_of_ble_eq_true rfl) (rcv0 (sh_172 hM) (by decide)) ?_
        refine Ca.mono h (fun r hr => ?_)
        obtain ⟨M3, v4, rfl, h⟩ := hr
        show En 193 31 [some (.inr (.inr 173)), some (.inl x1), some (.inl x2), some (.inl x3), some (.inl x4), some (.inl x5), some (.inl s0), none] [.inl v4] S M3 Q
        refine e_zeq hP rfl (fun hc => ?_) (fun hc => ?_)
        · have h := h.1 hc
          exact h
        · have h := h.2 hc
          refine e_c hP rfl ?_
          refine e_go hP rfl ?_
          exact h
theorem r_X9_hasAll_34 {S : Shp} {M : Mem} {Q : Res → Prop} (hM : KM S) {x1 x2 x3 x4 x5 x6 : Int} (h : En 193 35 [some (.inr (.inr 173)), some (.inl x1), some (.inl x2), some (.inl x3), some (.inl x4), some (.inl x5), some (.inl x6), none] [.inl (0 : Int)] S M Q) : En 193 34 [some (.inr (.inr 173)), some (.inl x1), some (.inl x2), some (.inl x3), some (.inl x4), some (.inl x5), some (.inl x6), none] [] S M Q := by
  have hP : PR 193 = (bc_193, 8) := rfl
  refine e_c hP rfl ?_
  exact h
theorem r_X9_hasAll_35 {S : Shp} {M : Mem} {Q : Res → Prop} (hM : KM S) {x1 x2 x3 x4 x5 x6 s0 : Int} (h : En 193 36 [some (.inr (.inr 173)), some (.inl x1), some (.inl x2), some (.inl x3), some (.inl x4), some (.inl x5), some (.inl s0), none] [] S M Q) : En 193 35 [some (.inr (.inr 173)), some (.inl x1), some (.inl x2), some (.inl x3), some (.inl x4), some (.inl x5), some (.inl x6), none] [.inl s0] S M Q := by
  have hP : PR 193 = (bc_193, 8) := rfl
  refine e_st (L' := [some (.inr (.inr 173)), some (.inl x1), some (.inl x2), some (.inl x3), some (.inl x4), some (.inl x5), some (.inl s0), none]) hP rfl rfl ?_
  exact h
theorem r_X9_hasAll_36 {S : Shp} {M : Mem} {Q : Res → Prop} (hM : KM S) {x1 x2 x3 x4 x5 x6 : Int} (h : (∃ z1 : Int, bi_and x2 (4 : Int) = some z1 ∧ ((z1 = 0 → En 193 85 [some (.inr (.inr 173)), some (.inl x1), some (.inl x2), some (.inl x3), some (.inl x4), some (.inl x5), some (.inl x6), none] [] S M Q) ∧ (z1 ≠ 0 → Ca 158 [.inr (.inr 173), .inl (0 : Int), .inl x4] S M (fun r => ∃ (M3 : Mem) (v4 : Int), r = (S, M3, some (.inl v4)) ∧ ((x6 = 0 → En 193 83 [some (.inr (.inr 173)), some (.inl x1), some (.inl x2), some (.inl x3), some (.inl x4), some (.inl x5), some (.inl x6), some (.inl v4)] [] S M3 Q) ∧ (x6 ≠ 0 → ((v4 < 0 → En 193 81 [some (.inr (.inr 173)), some (.inl x1), some (.inl x2), some (.inl x3), some (.inl x4), some (.inl x5), some (.inl x6), some (.inl v4)] [] S M3 Q) ∧ (0 ≤ v4 → (inR ((144 : Int) + x5)) ∧ (0 ≤ ((144 : Int) + x5) ∧ ((144 : Int) + x5) < 2040) ∧ (inR ((144 : Int) + v4)) ∧ (0 ≤ ((144 : Int) + v4) ∧ ((144 : Int) + v4) < 2040) ∧ (inR ((M3 180 ((144 : Int) + x5).toNat) - (M3 180 ((144 : Int) + v4).toNat))) ∧ (0 ≤ (2 : Int) ∧ (2 : Int) < 12) ∧ (inR (-(M3 174 (2 : Int).toNat))) ∧ (0 ≤ (2 : Int) ∧ (2 : Int) < 12) ∧ Ca 140 [.inr (.inl ((M3 180 ((144 : Int) + x5).toNat) - (M3 180 ((144 : Int) + v4).toNat))), .inr (.inl (-(M3 174 (2 : Int).toNat))), .inr (.inl (M3 174 (2 : Int).toNat))] S M3 (fun r => ∃ (M13 : Mem) (v14 : Int), r = (S, M13, some (.inl v14)) ∧ ((v14 = 0 → En 193 83 [some (.inr (.inr 173)), some (.inl x1), some (.inl x2), some (.inl x3), some (.inl x4), some (.inl x5), some (.inl x6), some (.inl v4)] [] S M13 Q) ∧ (v14 ≠ 0 → Ca 159 [.inr (.inr 173), .inl x5, .inl v4] S M13 (fun r => ∃ (M15 : Mem) (v16 : Int), r = (S, M15, some (.inl v16)) ∧ ((v16 ≠ 0 → En 193 83 [some (.inr (.inr 173)), some (.inl x1), some (.inl x2), some (.inl x3), some (.inl x4), some (.inl x5), some (.inl x6), some (.inl v4)] [] S M15 Q) ∧ (v16 = 0 → En 193 81 [some (.inr (.inr 173)), some (.inl x1), some (.inl x2), some (.inl x3), some (.inl x4), some (.inl x5), some (.inl x6), some (.inl v4)] [] S M15 Q))))))))))))))) : En 193 36 [some (.inr (.inr 173)), some (.inl x1), some (.inl x2), some (.inl x3), some (.inl x4), some (.inl x5), some (.inl x6), none] [] S M Q := by
  have hP : PR 193 = (bc_193, 8) := rfl
  refine e_ld hP rfl rfl ?_
  refine e_c hP rfl ?_
  obtain ⟨z1, hs2, h⟩ := h
  refine e_and hP rfl hs2 ?_
  refine e_zeq hP rfl (fun hc => ?_) (fun hc => ?_)
  · have h := h.1 hc
    exact h
  · have h := h.2 hc
    refine e_ld hP rfl rfl ?_
    refine e_c hP rfl ?_
    refine e_ld hP rfl rfl ?_
    refine e_call hP rfl rfl rfl (Nat.le_of_ble_eq_true rfl) (Nat.le_of_ble_eq_true rfl) (rcv0 (sh_172 hM) (by decide)) ?_
    refine Ca.mono h (fun r hr => ?_)
    obtain ⟨M3, v4, rfl, h⟩ := hr
    show En 193 44 [some (.inr (.inr 173)), some (.inl x1), some (.inl x2), some (.inl x3), some (.inl x4), some (.inl x5), some (.inl x6), none] [.inl v4] S M3 Q
    refine e_st (L' := [some (.inr (.inr 173)), some (.inl x1), some (.inl x2), some (.inl x3), some (.inl x4), some (.inl x5), some (.inl x6), some (.inl v4)]) hP rfl rfl ?_
    refine e_ld hP rfl rfl ?_
    refine e_zeq hP rfl (fun hc => ?_) (fun hc => ?_)
    · have h := h.1 hc
      exact h
    · have h := h.2 hc
      refine e_ld hP rfl rfl ?_
      refine e_zlt hP rfl (fun hc => ?_) (fun hc => ?_)
      · have h := h.1 hc
        exact h
      · have h := h.2 hc
        refine e_ld hP rfl rfl ?_
        refine e_gR (a := 9) (w := 181) 172 (sh_172 hM) hP rfl (by decide) rfl ?_
        refine e_c hP rfl ?_
        refine e_ld hP rfl rfl ?_
        obtain ⟨hs5, h⟩ := h
        refine e_add hP rfl hs5 ?_
        obtain ⟨hs6, h⟩ := h
        refine e_al 180 (sh_180 hM) hP rfl hs6 ?_
        refine e_ld hP rfl rfl ?_
        refine e_gR (a := 9) (w := 181) 172 (sh_172 hM) hP rfl (by decide) rfl ?_
        refine e_c hP rfl ?_
        refine e_ld hP rfl rfl ?_
        obtain ⟨hs7, h⟩ := h
        refine e_add hP rfl hs7 ?_
        obtain ⟨hs8, h⟩ := h
        refine e_al 180 (sh_180 hM) hP rfl hs8 ?_
        obtain ⟨hs9, h⟩ := h
        refine e_sub hP rfl hs9 ?_
        refine e_i2l hP rfl ?_
        refine e_ld hP rfl rfl ?_
        refine e_gR (a := 9) (w := 175) 172 (sh_172 hM) hP rfl (by decide) rfl ?_
        refine e_c hP rfl ?_
        obtain ⟨hs10, h⟩ := h
        refine e_al 174 (sh_174 hM) hP rfl hs10 ?_
        obtain ⟨hs11, h⟩ := h
        refine e_un (z := -(M3 174 (2 : Int).toNat)) hP rfl (if_pos hs11) ?_
        refine e_i2l hP rfl ?_
        refine e_ld hP rfl rfl ?_
        refine e_gR (a := 9) (w := 175) 172 (sh_172 hM) hP rfl (by decide) rfl ?_
        refine e_c hP rfl ?_
        obtain ⟨hs12, h⟩ := h
        refine e_al 174 (sh_174 hM) hP rfl hs12 ?_
        refine e_i2l hP rfl ?_
        refine e_call hP rfl rfl rfl (Nat.le_of_ble_eq_true rfl) (Nat.le_of_ble_eq_true rfl) rcv1 ?_
        refine Ca.mono h (fun r hr => ?_)
        obtain ⟨M13, v14, rfl, h⟩ := hr
        show En 193 75 [some (.inr (.inr 173)), some (.inl x1), some (.inl x2), some (.inl x3), some (.inl x4), some (.inl x5), some (.inl x6), some (.inl v4)] [.inl v14] S M13 Q
        refine e_zeq hP rfl (fun hc => ?_) (fun hc => ?_)
        · have h := h.1 hc
          exact h
        · have h := h.2 hc
          refine e_ld hP rfl rfl ?_
          refine e_ld hP rfl rfl ?_
          refine e_ld hP rfl rfl ?_
          refine e_call hP rfl rfl rfl (Nat.le_of_ble_eq_true rfl) (Nat.le_of_ble_eq_true rfl) (rcv0 (sh_172 hM) (by decide)) ?_
          refine Ca.mono h (fun r hr => ?_)
          obtain ⟨M15, v16, rfl, h⟩ := hr
          show En 193 80 [some (.inr (.inr 173)), some (.inl x1), some (.inl x2), some (.inl x3), some (.inl x4), some (.inl x5), some (.inl x6), some (.inl v4)] [.inl v16] S M15 Q
          refine e_zne hP rfl (fun hc => ?_) (fun hc => ?_)
          · have h := h.1 hc
            exact h
          · have h := h.2 hc
            exact h
theorem r_X9_hasAll_81 {S : Shp} {M : Mem} {Q : Res → Prop} (hM : KM S) {x1 x2 x3 x4 x5 x6 x7 : Int} (h : En 193 84 [some (.inr (.inr 173)), some (.inl x1), some (.inl x2), some (.inl x3), some (.inl x4), some (.inl x5), some (.inl x6), some (.inl x7)] [.inl (1 : Int)] S M Q) : En 193 81 [some (.inr (.inr 173)), some (.inl x1), some (.inl x2), some (.inl x3), some (.inl x4), some (.inl x5), some (.inl x6), some (.inl x7)] [] S M Q := by
  have hP : PR 193 = (bc_193, 8) := rfl
  refine e_c hP rfl ?_
  refine e_go hP rfl ?_
  exact h
theorem r_X9_hasAll_83 {S : Shp} {M : Mem} {Q : Res → Prop} (hM : KM S) {x1 x2 x3 x4 x5 x6 x7 : Int} (h : En 193 84 [some (.inr (.inr 173)), some (.inl x1), some (.inl x2), some (.inl x3), some (.inl x4), some (.inl x5), some (.inl x6), some (.inl x7)] [.inl (0 : Int)] S M Q) : En 193 83 [some (.inr (.inr 173)), some (.inl x1), some (.inl x2), some (.inl x3), some (.inl x4), some (.inl x5), some (.inl x6), some (.inl x7)] [] S M Q := by
  have hP : PR 193 = (bc_193, 8) := rfl
  refine e_c hP rfl ?_
  exact h
theorem r_X9_hasAll_84 {S : Shp} {M : Mem} {Q : Res → Prop} (hM : KM S) {x1 x2 x3 x4 x5 x6 x7 s0 : Int} (h : En 193 85 [some (.inr (.inr 173)), some (.inl x1), some (.inl x2), some (.inl x3), some (.inl x4), some (.inl x5), some (.inl s0), none] [] S M Q) : En 193 84 [some (.inr (.inr 173)), some (.inl x1), some (.inl x2), some (.inl x3), some (.inl x4), some (.inl x5), some (.inl x6), some (.inl x7)] [.inl s0] S M Q := by
  have hP : PR 193 = (bc_193, 8) := rfl
  refine e_st (L' := [some (.inr (.inr 173)), some (.inl x1), some (.inl x2), some (.inl x3), some (.inl x4), some (.inl x5), some (.inl s0), some (.inl x7)]) hP rfl rfl ?_
  exact en_fg h ⟨Or.inr rfl, Or.inr rfl, Or.inr rfl, Or.inr rfl, Or.inr rfl, Or.inr rfl, Or.inr rfl, Or.inl rfl, trivial⟩
theorem r_X9_hasAll_85 {S : Shp} {M : Mem} {Q : Res → Prop} (hM : KM S) {x1 x2 x3 x4 x5 x6 : Int} (h : (x6 = 0 ∨ x6 = 1) ∧ Q (S, M, some (.inl x6))) : En 193 85 [some (.inr (.inr 173)), some (.inl x1), some (.inl x2), some (.inl x3), some (.inl x4), some (.inl x5), some (.inl x6), none] [] S M Q := by
  have hP : PR 193 = (bc_193, 8) := rfl
  refine e_ld hP rfl rfl ?_
  exact e_ret hP rfl (decide_eq_true h.1) h.2
theorem r_X9_shortest_0 {S : Shp} {M : Mem} {Q : Res → Prop} (hM : KM S) {p1 p2 p3 p4 p5 : Int} (h : Ca 156 [.inr (.inr 173), .inl p1] S M (fun r => ∃ (M1 : Mem) (v2 : Int), r = (S, M1, some (.inl v2)) ∧ ((v2 = 0 → Q (S, M1, some (.inl (-1 : Int)))) ∧ (v2 ≠ 0 → Ca 140 [.inr (.inl p2), .inr (.inl (0 : Int)), .inr (.inl (7 : Int))] S M1 (fun r => ∃ (M3 : Mem) (v4 : Int), r = (S, M3, some (.inl v4)) ∧ ((v4 = 0 → Q (S, M3, some (.inl (-1 : Int)))) ∧ (v4 ≠ 0 → Ca 156 [.inr (.inr 173), .inl p3] S M3 (fun r => ∃ (M5 : Mem) (v6 : Int), r = (S, M5, some (.inl v6)) ∧ ((v6 = 0 → Q (S, M5, some (.inl (-1 : Int)))) ∧ (v6 ≠ 0 → Ca 156 [.inr (.inr 173), .inl p4] S M5 (fun r => ∃ (M7 : Mem) (v8 : Int), r = (S, M7, some (.inl v8)) ∧ ((v8 = 0 → Q (S, M7, some (.inl (-1 : Int)))) ∧ (v8 ≠ 0 → Ca 140 [.inr (.inl p5), .inr (.inl (0 : Int)), .inr (.inl (3 : Int))] S M7 (fun r => ∃ (M9 : Mem) (v10 : Int), r = (S, M9, some (.inl v10)) ∧ ((v10 ≠ 0 → Ca 170 [.inr (.inr 173), .inl (0 : Int), .inl (11 : Int)] S M9 (fun r => ∃ M11 : Mem, r = (S, M11, none) ∧ En 194 34 [some (.inr (.inr 173)), some (.inl p1), some (.inl p2), some (.inl p3), some (.inl p4), some (.inl p5), some (.inl (1 : Int)), some (.inl (1 : Int)), none, none, none] [] S M11 Q)) ∧ (v10 = 0 → Q (S, M9, some (.inl (-1 : Int))))))))))))))))))) : Ca 194 [.inr (.inr 173), .inl p1, .inl p2, .inl p3, .inl p4, .inl p5] S M Q := by
  have hP : PR 194 = (bc_194, 11) := rfl
  refine ⟨Nat.le_of_ble_eq_true rfl, ?_⟩
  show En 194 0 [some (.inr (.inr 173)), some (.inl p1), some (.inl p2), some (.inl p3), some (.inl p4), some (.inl p5), none, none, none, none, none] [] S M Q
  refine e_ld hP rfl rfl ?_
  refine e_ld hP rfl rfl ?_
  refine e_call hP rfl rfl rfl (Nat.le_of_ble_eq_true rfl) (Nat.le_of_ble_eq_true rfl) (rcv0 (sh_172 hM) (by decide)) ?_
  refine Ca.mono h (fun r hr => ?_)
  obtain ⟨M1, v2, rfl, h⟩ := hr
  show En 194 3 [some (.inr (.inr 173)), some (.inl p1), some (.inl p2), some (.inl p3), some (.inl p4), some (.inl p5), none, none, none, none, none] [.inl v2] S M1 Q
  refine e_zeq hP rfl (fun hc => ?_) (fun hc => ?_)
  · have h := h.1 hc
    refine e_c hP rfl ?_
    exact e_ret hP rfl rfl h
  · have h := h.2 hc
    refine e_ld hP rfl rfl ?_
    refine e_i2l hP rfl ?_
    refine e_lc hP rfl ?_
    refine e_lc hP rfl ?_
    refine e_call hP rfl rfl rfl (Nat.le_of_ble_eq_true rfl) (Nat.le_of_ble_eq_true rfl) rcv1 ?_
    refine Ca.mono h (fun r hr => ?_)
    obtain ⟨M3, v4, rfl, h⟩ := hr
    show En 194 9 [some (.inr (.inr 173)), some (.inl p1), some (.inl p2), some (.inl p3), some (.inl p4), some (.inl p5), none, none, none, none, none] [.inl v4] S M3 Q
    refine e_zeq hP rfl (fun hc => ?_) (fun hc => ?_)
    · have h := h.1 hc
      refine e_c hP rfl ?_
      exact e_ret hP rfl rfl h
    · have h := h.2 hc
      refine e_ld hP rfl rfl ?_
      refine e_ld hP rfl rfl ?_
      refine e_call hP rfl rfl rfl (Nat.le_of_ble_eq_true rfl) (Nat.le_of_ble_eq_true rfl) (rcv0 (sh_172 hM) (by decide)) ?_
      refine Ca.mono h (fun r hr => ?_)
      obtain ⟨M5, v6, rfl, h⟩ := hr
      show En 194 13 [some (.inr (.inr 173)), some (.inl p1), some (.inl p2), some (.inl p3), some (.inl p4), some (.inl p5), none, none, none, none, none] [.inl v6] S M5 Q
      refine e_zeq hP rfl (fun hc => ?_) (fun hc => ?_)
      · have h := h.1 hc
        refine e_c hP rfl ?_
        exact e_ret hP rfl rfl h
      · have h := h.2 hc
        refine e_ld hP rfl rfl ?_
        refine e_ld hP rfl rfl ?_
        refine e_call hP rfl rfl rfl (Nat.le_of_ble_eq_true rfl) (Nat.le_of_ble_eq_true rfl) (rcv0 (sh_172 hM) (by decide)) ?_
        refine Ca.mono h (fun r hr => ?_)
        obtain ⟨M7, v8, rfl, h⟩ := hr
        show En 194 17 [some (.inr (.inr 173)), some (.inl p1), some (.inl p2), some (.inl p3), some (.inl p4), some (.inl p5), none, none, none, none, none] [.inl v8] S M7 Q
        refine e_zeq hP rfl (fun hc => ?_) (fun hc => ?_)
        · have h := h.1 hc
          refine e_c hP rfl ?_
          exact e_ret hP rfl rfl h
        · have h := h.2 hc
          refine e_ld hP rfl rfl ?_
          refine e_i2l hP rfl ?_
          refine e_lc hP rfl ?_
          refine e_lc hP rfl ?_
          refine e_call hP rfl rfl rfl (Nat.le_of_ble_eq_true rfl) (Nat.le_of_ble_eq_true rfl) rcv1 ?_
          refine Ca.mono h (fun r hr => ?_)
          obtain ⟨M9, v10, rfl, h⟩ := hr
          show En 194 23 [some (.inr (.inr 173)), some (.inl p1), some (.inl p2), some (.inl p3), some (.inl p4), some (.inl p5), none, none, none, none, none] [.inl v10] S M9 Q
          refine e_zne hP rfl (fun hc => ?_) (fun hc => ?_)
          · have h := h.1 hc
            refine e_ld hP rfl rfl ?_
            refine e_c hP rfl ?_
            refine e_c hP rfl ?_
            refine e_call hP rfl rfl rfl (Nat.le_of_ble_eq_true rfl) (Nat.le_of_ble_eq_true rfl) (rcv0 (sh_172 hM) (by decide)) ?_
            refine Ca.mono h (fun r hr => ?_)
            obtain ⟨M11, rfl, h⟩ := hr
            show En 194 30 [some (.inr (.inr 173)), some (.inl p1), some (.inl p2), some (.inl p3), some (.inl p4), some (.inl p5), none, none, none, none, none] [] S M11 Q
            refine e_c hP rfl ?_
            refine e_st (L' := [some (.inr (.inr 173)), some (.inl p1), some (.inl p2), some (.inl p3), some (.inl p4), some (.inl p5), some (.inl (1 : Int)), none, none, none, none]) hP rfl rfl ?_
            refine e_c hP rfl ?_
            refine e_st (L' := [some (.inr (.inr 173)), some (.inl p1), some (.inl p2), some (.inl p3), some (.inl p4), some (.inl p5), some (.inl (1 : Int)), some (.inl (1 : Int)), none, none, none]) hP rfl rfl ?_
            exact h
          · have h := h.2 hc
            refine e_c hP rfl ?_
            exact e_ret hP rfl rfl h
theorem r_X9_shortest_34 {S : Shp} {M : Mem} {Q : Res → Prop} (hM : KM S) {x1 x2 x3 x4 x5 x6 x7 : Int} (h : (((4 : Int) ≤ x7 → Q (S, M, some (.inl (-4 : Int)))) ∧ (x7 < (4 : Int) → (inR (x6 * (26 : Int))) ∧ (inR ((1870 : Int) + x1)) ∧ (0 ≤ ((1870 : Int) + x1) ∧ ((1870 : Int) + x1) < 2040) ∧ En 194 50 [some (.inr (.inr 173)), some (.inl x1), some (.inl x2), some (.inl x3), some (.inl x4), some (.inl x5), some (.inl (x6 * (26 : Int))), some (.inl x7), some (.inl (0 : Int)), none, none] [] S (up2 M 180 ((1870 : Int) + x1).toNat x7) Q))) : En 194 34 [some (.inr (.inr 173)), some (.inl x1), some (.inl x2), some (.inl x3), some (.inl x4), some (.inl x5), some (.inl x6), some (.inl x7), none, none, none] [] S M Q := by
  have hP : PR 194 = (bc_194, 11) := rfl
  refine e_ld hP rfl rfl ?_
  refine e_c hP rfl ?_
  refine e_cge hP rfl (fun hc => ?_) (fun hc => ?_)
  · have h := h.1 hc
    refine e_c hP rfl ?_
    exact e_ret hP rfl rfl h
  · have h := h.2 hc
    refine e_ld hP rfl rfl ?_
    refine e_c hP rfl ?_
    obtain ⟨hs1, h⟩ := h
    refine e_mul hP rfl hs1 ?_
    refine e_st (L' := [some (.inr (.inr 173)), some (.inl x1), some (.inl x2), some (.inl x3), some (.inl x4), some (.inl x5), some (.inl (x6 * (26 : Int))), some (.inl x7), none, none, none]) hP rfl rfl ?_
    refine e_ld hP rfl rfl ?_
    refine e_gR (a := 9) (w := 181) 172 (sh_172 hM) hP rfl (by decide) rfl ?_
    refine e_c hP rfl ?_
    refine e_ld hP rfl rfl ?_
    obtain ⟨hs2, h⟩ := h
    refine e_add hP rfl hs2 ?_
    refine e_ld hP rfl rfl ?_
    obtain ⟨hs3, h⟩ := h
    refine e_as 180 (sh_180 hM) (by decide) hP rfl hs3 ?_
    refine e_c hP rfl ?_
    refine e_st (L' := [some (.inr (.inr 173)), some (.inl x1), some (.inl x2), some (.inl x3), some (.inl x4), some (.inl x5), some (.inl (x6 * (26 : Int))), some (.inl x7), some (.inl (0 : Int)), none, none]) hP rfl rfl ?_
    exact h
theorem r_X9_shortest_50 {S : Shp} {M : Mem} {Q : Res → Prop} (hM : KM S) {x1 x2 x3 x4 x5 x6 x7 x8 : Int} (h : ((x6 ≤ x8 → (inR (x7 + 1)) ∧ En 194 34 [some (.inr (.inr 173)), some (.inl x1), some (.inl x2), some (.inl x3), some (.inl x4), some (.inl x5), some (.inl x6), some (.inl (x7 + 1)), none, none, none] [] S M Q) ∧ (x8 < x6 → (inR (x7 - (1 : Int))) ∧ En 194 59 [some (.inr (.inr 173)), some (.inl x1), some (.inl x2), some (.inl x3), some (.inl x4), some (.inl x5), some (.inl x6), some (.inl x7), some (.inl x8), some (.inl x8), some (.inl (x7 - (1 : Int)))] [] S M Q))) : En 194 50 [some (.inr (.inr 173)), some (.inl x1), some (.inl x2), some (.inl x3), some (.inl x4), some (.inl x5), some (.inl x6), some (.inl x7), some (.inl x8), none, none] [] S M Q := by
  have hP : PR 194 = (bc_194, 11) := rfl
  refine e_ld hP rfl rfl ?_
  refine e_ld hP rfl rfl ?_
  refine e_cge hP rfl (fun hc => ?_) (fun hc => ?_)
  · have h := h.1 hc
    obtain ⟨hs1, h⟩ := h
    refine e_inc (L' := [some (.inr (.inr 173)), some (.inl x1), some (.inl x2), some (.inl x3), some (.inl x4), some (.inl x5), some (.inl x6), some (.inl (x7 + 1)), some (.inl x8), none, none]) hP rfl rfl hs1 rfl ?_
    refine e_go hP rfl ?_
    exact en_fg h ⟨Or.inr rfl, Or.inr rfl, Or.inr rfl, Or.inr rfl, Or.inr rfl, Or.inr rfl, Or.inr rfl, Or.inr rfl, Or.inl rfl, Or.inr rfl, Or.inr rfl, trivial⟩
  · have h := h.2 hc
    refine e_ld hP rfl rfl ?_
    refine e_st (L' := [some (.inr (.inr 173)), some (.inl x1), some (.inl x2), some (.inl x3), some (.inl x4), some (.inl x5), some (.inl x6), some (.inl x7), some (.inl x8), some (.inl x8), none]) hP rfl rfl ?_
    refine e_ld hP rfl rfl ?_
    refine e_c hP rfl ?_
    obtain ⟨hs2, h⟩ := h
    refine e_sub hP rfl hs2 ?_
    refine e_st (L' := [some (.inr (.inr 173)), some (.inl x1), some (.inl x2), some (.inl x3), some (.inl x4), some (.inl x5), some (.inl x6), some (.inl x7), some (.inl x8), some (.inl x8), some (.inl (x7 - (1 : Int)))]) hP rfl rfl ?_
    exact h
theorem r_X9_shortest_59 {S : Shp} {M : Mem} {Q : Res → Prop} (hM : KM S) {x1 x2 x3 x4 x5 x6 x7 x8 x9 x10 : Int} (h : ((x10 < 0 → Ca 193 [.inr (.inr 173), .inl x1, .inl x2, .inl x3, .inl x4] S M (fun r => ∃ (M1 : Mem) (v2 : Int), r = (S, M1, some (.inl v2)) ∧ ((v2 = 0 → (inR (x8 + 1)) ∧ En 194 50 [some (.inr (.inr 173)), some (.inl x1), some (.inl x2), some (.inl x3), some (.inl x4), some (.inl x5), some (.inl x6), some (.inl x7), some (.inl (x8 + 1)), none, none] [] S M1 Q) ∧ (v2 ≠ 0 → ((x5 ≠ 0 → ((x5 ≤ x7 → (inR ((6 : Int) * x1)) ∧ (inR ((1878 : Int) + ((6 : Int) * x1))) ∧ (inR (((1878 : Int) + ((6 : Int) * x1)) + x5)) ∧ (inR ((((1878 : Int) + ((6 : Int) * x1)) + x5) - (1 : Int))) ∧ (0 ≤ ((((1878 : Int) + ((6 : Int) * x1)) + x5) - (1 : Int)) ∧ ((((1878 : Int) + ((6 : Int) * x1)) + x5) - (1 : Int)) < 2040) ∧ Q (S, M1, some (.inl (M1 180 ((((1878 : Int) + ((6 : Int) * x1)) + x5) - (1 : Int)).toNat)))) ∧ (x7 < x5 → Q (S, M1, some (.inl (-4 : Int)))))) ∧ (x5 = 0 → Q (S, M1, some (.inl x7)))))))) ∧ (0 ≤ x10 → (inR ((6 : Int) * x1)) ∧ (inR ((1878 : Int) + ((6 : Int) * x1))) ∧ (inR (((1878 : Int) + ((6 : Int) * x1)) + x10)) ∧ (0 ≤ x9 ∧ 0 < (26 : Int)) ∧ Ca 167 [.inr (.inr 173), .inl (0 : Int), .inl (x9 % (26 : Int))] S M (fun r => ∃ (M13 : Mem) (v14 : Int), r = (S, M13, some (.inl v14)) ∧ (0 ≤ (((1878 : Int) + ((6 : Int) * x1)) + x10) ∧ (((1878 : Int) + ((6 : Int) * x1)) + x10) < 2040) ∧ (0 ≤ x9 ∧ 0 < (26 : Int)) ∧ (inR (x10 + (-1))) ∧ En 194 59 [some (.inr (.inr 173)), some (.inl x1), some (.inl x2), some (.inl x3), some (.inl x4), some (.inl x5), some (.inl x6), some (.inl x7), some (.inl x8), some (.inl (x9 / (26 : Int))), some (.inl (x10 + (-1)))] [] S (up2 M13 180 (((1878 : Int) + ((6 : Int) * x1)) + x10).toNat v14) Q)))) : En 194 59 [some (.inr (.inr 173)), some (.inl x1), some (.inl x2), some (.inl x3), some (.inl x4), some (.inl x5), some (.inl x6), some (.inl x7), some (.inl x8), some (.inl x9), some (.inl x10)] [] S M Q := by
  have hP : PR 194 = (bc_194, 11) := rfl
  refine e_ld hP rfl rfl ?_
  refine e_zlt hP rfl (fun hc => ?_) (fun hc => ?_)
  · have h := h.1 hc
    refine e_ld hP rfl rfl ?_
    refine e_ld hP rfl rfl ?_
    refine e_ld hP rfl rfl ?_
    refine e_ld hP rfl rfl ?_
    refine e_ld hP rfl rfl ?_
    refine e_call hP rfl rfl rfl (Nat.le_of_ble_eq_true rfl) (Nat.le_of_ble_eq_true rfl) (rcv0 (sh_172 hM) (by decide)) ?_
    refine Ca.mono h (fun r hr => ?_)
    obtain ⟨M1, v2, rfl, h⟩ := hr
    show En 194 89 [some (.inr (.inr 173)), some (.inl x1), some (.inl x2), some (.inl x3), some (.inl x4), some (.inl x5), some (.inl x6), some (.inl x7), some (.inl x8), some (.inl x9), some (.inl x10)] [.inl v2] S M1 Q
    refine e_zeq hP rfl (fun hc => ?_) (fun hc => ?_)
    · have h := h.1 hc
      obtain ⟨hs3, h⟩ := h
      refine e_inc (L' := [some (.inr (.inr 173)), some (.inl x1), some (.inl x2), some (.inl x3), some (.inl x4), some (.inl x5), some (.inl x6), some (.inl x7), some (.inl (x8 + 1)), some (.inl x9), some (.inl x10)]) hP rfl rfl hs3 rfl ?_
      refine e_go hP rfl ?_
      exact en_fg h ⟨Or.inr rfl, Or.inr rfl, Or.inr rfl, Or.inr rfl, Or.inr rfl, Or.inr rfl, Or.inr rfl, Or.inr rfl, Or.inr rfl, Or.inl rfl, Or.inl rfl, trivial⟩
    · have h := h.2 hc
      refine e_ld hP rfl rfl ?_
      refine e_zne hP rfl (fun hc => ?_) (fun hc => ?_)
      · have h := h.1 hc
        refine e_ld hP rfl rfl ?_
        refine e_ld hP rfl rfl ?_
        refine e_cle hP rfl (fun hc => ?_) (fun hc => ?_)
        · have h := h.1 hc
          refine e_ld hP rfl rfl ?_
          refine e_gR (a := 9) (w := 181) 172 (sh_172 hM) hP rfl (by decide) rfl ?_
          refine e_c hP rfl ?_
          refine e_c hP rfl ?_
          refine e_ld hP rfl rfl ?_
          obtain ⟨hs4, h⟩ := h
          refine e_mul hP rfl hs4 ?_
          obtain ⟨hs5, h⟩ := h
          refine e_add hP rfl hs5 ?_
          refine e_ld hP rfl rfl ?_
          obtain ⟨hs6, h⟩ := h
          refine e_add hP rfl hs6 ?_
          refine e_c hP rfl ?_
          obtain ⟨hs7, h⟩ := h
          refine e_sub hP rfl hs7 ?_
          obtain ⟨hs8, h⟩ := h
          refine e_al 180 (sh_180 hM) hP rfl hs8 ?_
          exact e_ret hP rfl rfl h
        · have h := h.2 hc
          refine e_c hP rfl ?_
          refine e_go hP rfl ?_
          exact e_ret hP rfl rfl h
      · have h := h.2 hc
        refine e_ld hP rfl rfl ?_
        refine e_go hP rfl ?_
        exact e_ret hP rfl rfl h
  · have h := h.2 hc
    refine e_ld hP rfl rfl ?_
    refine e_gR (a := 9) (w := 181) 172 (sh_172 hM) hP rfl (by decide) rfl ?_
    refine e_c hP rfl ?_
    refine e_c hP rfl ?_
    refine e_ld hP rfl rfl ?_
    obtain ⟨hs9, h⟩ := h
    refine e_mul hP rfl hs9 ?_
    obtain ⟨hs10, h⟩ := h
    refine e_add hP rfl hs10 ?_
    refine e_ld hP rfl rfl ?_
    obtain ⟨hs11, h⟩ := h
    refine e_add hP rfl hs11 ?_
    refine e_ld hP rfl rfl ?_
    refine e_c hP rfl ?_
    refine e_ld hP rfl rfl ?_
    refine e_c hP rfl ?_
    obtain ⟨hs12, h⟩ := h
    refine e_rem hP rfl hs12 ?_
    refine e_call hP rfl rfl rfl (Nat.le_of_ble_eq_true rfl) (Nat.le_of_ble_eq_true rfl) (rcv0 (sh_172 hM) (by decide)) ?_
    refine Ca.mono h (fun r hr => ?_)
    obtain ⟨M13, v14, rfl, h⟩ := hr
    show En 194 76 [some (.inr (.inr 173)), some (.inl x1), some (.inl x2), some (.inl x3), some (.inl x4), some (.inl x5), some (.inl x6), some (.inl x7), some (.inl x8), some (.inl x9), some (.inl x10)] [.inl v14, .inl (((1878 : Int) + ((6 : Int) * x1)) + x10), .inr (.inr 181)] S M13 Q
    obtain ⟨hs15, h⟩ := h
    refine e_as 180 (sh_180 hM) (by decide) hP rfl hs15 ?_
    refine e_ld hP rfl rfl ?_
    refine e_c hP rfl ?_
    obtain ⟨hs16, h⟩ := h
    refine e_div hP rfl hs16 ?_
    refine e_st (L' := [some (.inr (.inr 173)), some (.inl x1), some (.inl x2), some (.inl x3), some (.inl x4), some (.inl x5), some (.inl x6), some (.inl x7), some (.inl x8), some (.inl (x9 / (26 : Int))), some (.inl x10)]) hP rfl rfl ?_
    obtain ⟨hs17, h⟩ := h
    refine e_inc (L' := [some (.inr (.inr 173)), some (.inl x1), some (.inl x2), some (.inl x3), some (.inl x4), some (.inl x5), some (.inl x6), some (.inl x7), some (.inl x8), some (.inl (x9 / (26 : Int))), some (.inl (x10 + (-1)))]) hP rfl rfl hs17 rfl ?_
    refine e_go hP rfl ?_
    exact h
theorem r_X9_weddings_0 {S : Shp} {M : Mem} {Q : Res → Prop} (hM : KM S) {p1 : Int} (h : En 195 2 [some (.inr (.inr 173)), some (.inl p1), some (.inl (0 : Int)), none, none, none, none, none] [] S M Q) : Ca 195 [.inr (.inr 173), .inl p1] S M Q := by
  have hP : PR 195 = (bc_195, 8) := rfl
  refine ⟨Nat.le_of_ble_eq_true rfl, ?_⟩
  show En 195 0 [some (.inr (.inr 173)), some (.inl p1), none, none, none, none, none, none] [] S M Q
  refine e_c hP rfl ?_
  refine e_st (L' := [some (.inr (.inr 173)), some (.inl p1), some (.inl (0 : Int)), none, none, none, none, none]) hP rfl rfl ?_
  exact h
theorem r_X9_weddings_2 {S : Shp} {M : Mem} {Q : Res → Prop} (hM : KM S) {x1 x2 : Int} (h : (0 ≤ (0 : Int) ∧ (0 : Int) < 12) ∧ (0 ≤ (1 : Int) ∧ 0 ≤ (M 174 (0 : Int).toNat) ∧ (M 174 (0 : Int).toNat) < 32 ∧ inR ((1 : Int) * 2 ^ (M 174 (0 : Int).toNat).toNat)) ∧ ((((1 : Int) * 2 ^ (M 174 (0 : Int).toNat).toNat) ≤ x2 → (0 ≤ (0 : Int) ∧ (0 : Int) < 12) ∧ (0 ≤ (1 : Int) ∧ 0 ≤ (M 174 (0 : Int).toNat) ∧ (M 174 (0 : Int).toNat) < 32 ∧ inR ((1 : Int) * 2 ^ (M 174 (0 : Int).toNat).toNat)) ∧ (inR (((1 : Int) * 2 ^ (M 174 (0 : Int).toNat).toNat) - (1 : Int))) ∧ (0 ≤ (((1 : Int) * 2 ^ (M 174 (0 : Int).toNat).toNat) - (1 : Int)) ∧ (((1 : Int) * 2 ^ (M 174 (0 : Int).toNat).toNat) - (1 : Int)) < 256) ∧ Q (S, M, some (.inl (M 186 (((1 : Int) * 2 ^ (M 174 (0 : Int).toNat).toNat) - (1 : Int)).toNat)))) ∧ (x2 < ((1 : Int) * 2 ^ (M 174 (0 : Int).toNat).toNat) → (0 ≤ x2 ∧ x2 < 256) ∧ En 195 17 [some (.inr (.inr 173)), some (.inl x1), some (.inl x2), some (.inl (0 : Int)), none, none, none, none] [] S (up2 M 186 x2.toNat (0 : Int)) Q))) : En 195 2 [some (.inr (.inr 173)), some (.inl x1), some (.inl x2), none, none, none, none, none] [] S M Q := by
  have hP : PR 195 = (bc_195, 8) := rfl
  refine e_ld hP rfl rfl ?_
  refine e_c hP rfl ?_
  refine e_ld hP rfl rfl ?_
  refine e_gR (a := 9) (w := 175) 172 (sh_172 hM) hP rfl (by decide) rfl ?_
  refine e_c hP rfl ?_
  obtain ⟨hs1, h⟩ := h
  refine e_al 174 (sh_174 hM) hP rfl hs1 ?_
  obtain ⟨hs2, h⟩ := h
  refine e_shl hP rfl hs2 ?_
  refine e_cge hP rfl (fun hc => ?_) (fun hc => ?_)
  · have h := h.1 hc
    refine e_ld hP rfl rfl ?_
    refine e_gR (a := 9) (w := 187) 172 (sh_172 hM) hP rfl (by decide) rfl ?_
    refine e_c hP rfl ?_
    refine e_ld hP rfl rfl ?_
    refine e_gR (a := 9) (w := 175) 172 (sh_172 hM) hP rfl (by decide) rfl ?_
    refine e_c hP rfl ?_
    obtain ⟨hs3, h⟩ := h
    refine e_al 174 (sh_174 hM) hP rfl hs3 ?_
    obtain ⟨hs4, h⟩ := h
    refine e_shl hP rfl hs4 ?_
    refine e_c hP rfl ?_
    obtain ⟨hs5, h⟩ := h
    refine e_sub hP rfl hs5 ?_
    obtain ⟨hs6, h⟩ := h
    refine e_al 186 (sh_186 hM) hP rfl hs6 ?_
    exact e_ret hP rfl rfl h
  · have h := h.2 hc
    refine e_ld hP rfl rfl ?_
    refine e_gR (a := 9) (w := 187) 172 (sh_172 hM) hP rfl (by decide) rfl ?_
    refine e_ld hP rfl rfl ?_
    refine e_c hP rfl ?_
    obtain ⟨hs7, h⟩ := h
    refine e_as 186 (sh_186 hM) (by decide) hP rfl hs7 ?_
    refine e_c hP rfl ?_
    refine e_st (L' := [some (.inr (.inr 173)), some (.inl x1), some (.inl x2), some (.inl (0 : Int)), none, none, none, none]) hP rfl rfl ?_
    exact h
theorem r_X9_weddings_17 {S : Shp} {M : Mem} {Q : Res → Prop} (hM : KM S) {x1 x2 x3 : Int} (h : (0 ≤ (0 : Int) ∧ (0 : Int) < 12) ∧ (((M 174 (0 : Int).toNat) ≤ x3 → En 195 31 [some (.inr (.inr 173)), some (.inl x1), some (.inl x2), some (.inl x3), none, none, none, none] [] S M Q) ∧ (x3 < (M 174 (0 : Int).toNat) → (0 ≤ x2 ∧ 0 ≤ x3 ∧ x3 < 32) ∧ (∃ z3 : Int, bi_and (x2 / 2 ^ x3.toNat) (1 : Int) = some z3 ∧ ((z3 ≠ 0 → En 195 31 [some (.inr (.inr 173)), some (.inl x1), some (.inl x2), some (.inl x3), none, none, none, none] [] S M Q) ∧ (z3 = 0 → (inR (x3 + 1)) ∧ En 195 17 [some (.inr (.inr 173)), some (.inl x1), some (.inl x2), some (.inl (x3 + 1)), none, none, none, none] [] S M Q)))))) : En 195 17 [some (.inr (.inr 173)), some (.inl x1), some (.inl x2), some (.inl x3), none, none, none, none] [] S M Q := by
  have hP : PR 195 = (bc_195, 8) := rfl
  refine e_ld hP rfl rfl ?_
  refine e_ld hP rfl rfl ?_
  refine e_gR (a := 9) (w := 175) 172 (sh_172 hM) hP rfl (by decide) rfl ?_
  refine e_c hP rfl ?_
  obtain ⟨hs1, h⟩ := h
  refine e_al 174 (sh_174 hM) hP rfl hs1 ?_
  refine e_cge hP rfl (fun hc => ?_) (fun hc => ?_)
  · have h := h.1 hc
    exact h
  · have h := h.2 hc
    refine e_ld hP rfl rfl ?_
    refine e_ld hP rfl rfl ?_
    obtain ⟨hs2, h⟩ := h
    refine e_shr hP rfl hs2 ?_
    refine e_c hP rfl ?_
    obtain ⟨z3, hs4, h⟩ := h
    refine e_and hP rfl hs4 ?_
    refine e_zne hP rfl (fun hc => ?_) (fun hc => ?_)
    · have h := h.1 hc
      exact h
    · have h := h.2 hc
      obtain ⟨hs5, h⟩ := h
      refine e_inc (L' := [some (.inr (.inr 173)), some (.inl x1), some (.inl x2), some (.inl (x3 + 1)), none, none, none, none]) hP rfl rfl hs5 rfl ?_
      refine e_go hP rfl ?_
      exact h
theorem r_X9_weddings_31 {S : Shp} {M : Mem} {Q : Res → Prop} (hM : KM S) {x1 x2 x3 : Int} (h : (0 ≤ (0 : Int) ∧ (0 : Int) < 12) ∧ (((M 174 (0 : Int).toNat) ≤ x3 → En 195 115 [some (.inr (.inr 173)), some (.inl x1), some (.inl x2), some (.inl x3), none, none, none, none] [] S M Q) ∧ (x3 < (M 174 (0 : Int).toNat) → (0 ≤ (1 : Int) ∧ 0 ≤ x3 ∧ x3 < 32 ∧ inR ((1 : Int) * 2 ^ x3.toNat)) ∧ (∃ z3 : Int, bi_bin 10 ((1 : Int) * 2 ^ x3.toNat) (-1 : Int) = some z3 ∧ (∃ z5 : Int, bi_and x2 z3 = some z5 ∧ (0 ≤ z5 ∧ z5 < 256) ∧ (0 ≤ x2 ∧ x2 < 256) ∧ (inR (x3 + (1 : Int))) ∧ En 195 57 [some (.inr (.inr 173)), some (.inl x1), some (.inl x2), some (.inl x3), some (.inl z5), some (.inl (x3 + (1 : Int))), none, none] [] S (up2 M 186 x2.toNat (M 186 z5.toNat)) Q))))) : En 195 31 [some (.inr (.inr 173)), some (.inl x1), some (.inl x2), some (.inl x3), none, none, none, none] [] S M Q := by
  have hP : PR 195 = (bc_195, 8) := rfl
  refine e_ld hP rfl rfl ?_
  refine e_ld hP rfl rfl ?_
  refine e_gR (a := 9) (w := 175) 172 (sh_172 hM) hP rfl (by decide) rfl ?_
  refine e_c hP rfl ?_
  obtain ⟨hs1, h⟩ := h
  refine e_al 174 (sh_174 hM) hP rfl hs1 ?_
  refine e_cge hP rfl (fun hc => ?_) (fun hc => ?_)
  · have h := h.1 hc
    exact h
  · have h := h.2 hc
    refine e_ld hP rfl rfl ?_
    refine e_c hP rfl ?_
    refine e_ld hP rfl rfl ?_
    obtain ⟨hs2, h⟩ := h
    refine e_shl hP rfl hs2 ?_
    refine e_c hP rfl ?_
    obtain ⟨z3, hs4, h⟩ := h
    refine e_xor hP rfl hs4 ?_
    obtain ⟨z5, hs6, h⟩ := h
    refine e_and hP rfl hs6 ?_
    refine e_st (L' := [some (.inr (.inr 173)), some (.inl x1), some (.inl x2), some (.inl x3), some (.inl z5), none, none, none]) hP rfl rfl ?_
    refine e_ld hP rfl rfl ?_
    refine e_gR (a := 9) (w := 187) 172 (sh_172 hM) hP rfl (by decide) rfl ?_
    refine e_ld hP rfl rfl ?_
    refine e_ld hP rfl rfl ?_
    refine e_gR (a := 9) (w := 187) 172 (sh_172 hM) hP rfl (by decide) rfl ?_
    refine e_ld hP rfl rfl ?_
    obtain ⟨hs7, h⟩ := h
    refine e_al 186 (sh_186 hM) hP rfl hs7 ?_
    obtain ⟨hs8, h⟩ := h
    refine e_as 186 (sh_186 hM) (by decide) hP rfl hs8 ?_
    refine e_ld hP rfl rfl ?_
    refine e_c hP rfl ?_
    obtain ⟨hs9, h⟩ := h
    refine e_add hP rfl hs9 ?_
    refine e_st (L' := [some (.inr (.inr 173)), some (.inl x1), some (.inl x2), some (.inl x3), some (.inl z5), some (.inl (x3 + (1 : Int))), none, none]) hP rfl rfl ?_
    exact h
theorem r_X9_weddings_57 {S : Shp} {M : Mem} {Q : Res → Prop} (hM : KM S) {x1 x2 x3 x4 x5 : Int} (h : (0 ≤ (0 : Int) ∧ (0 : Int) < 12) ∧ (((M 174 (0 : Int).toNat) ≤ x5 → En 195 115 [some (.inr (.inr 173)), some (.inl x1), some (.inl x2), some (.inl x3), none, none, none, none] [] S M Q) ∧ (x5 < (M 174 (0 : Int).toNat) → (0 ≤ x2 ∧ 0 ≤ x5 ∧ x5 < 32) ∧ (∃ z3 : Int, bi_and (x2 / 2 ^ x5.toNat) (1 : Int) = some z3 ∧ ((z3 ≠ (1 : Int) → En 195 78 [some (.inr (.inr 173)), some (.inl x1), some (.inl x2), some (.inl x3), some (.inl x4), some (.inl x5), none, none] [] S M Q) ∧ (z3 = (1 : Int) → Ca 177 [.inr (.inr 173), .inl x3, .inl x5, .inl x1] S M (fun r => ∃ (M5 : Mem) (v6 : Int), r = (S, M5, some (.inl v6)) ∧ ((v6 = 0 → En 195 78 [some (.inr (.inr 173)), some (.inl x1), some (.inl x2), some (.inl x3), some (.inl x4), some (.inl x5), none, none] [] S M5 Q) ∧ (v6 ≠ 0 → En 195 79 [some (.inr (.inr 173)), some (.inl x1), some (.inl x2), some (.inl x3), some (.inl x4), some (.inl x5), none, none] [.inl (1 : Int)] S M5 Q))))))))) : En 195 57 [some (.inr (.inr 173)), some (.inl x1), some (.inl x2), some (.inl x3), some (.inl x4), some (.inl x5), none, none] [] S M Q := by
  have hP : PR 195 = (bc_195, 8) := rfl
  refine e_ld hP rfl rfl ?_
  refine e_ld hP rfl rfl ?_
  refine e_gR (a := 9) (w := 175) 172 (sh_172 hM) hP rfl (by decide) rfl ?_
  refine e_c hP rfl ?_
  obtain ⟨hs1, h⟩ := h
  refine e_al 174 (sh_174 hM) hP rfl hs1 ?_
  refine e_cge hP rfl (fun hc => ?_) (fun hc => ?_)
  · have h := h.1 hc
    exact en_fg h ⟨Or.inr rfl, Or.inr rfl, Or.inr rfl, Or.inr rfl, Or.inl rfl, Or.inl rfl, Or.inr rfl, Or.inr rfl, trivial⟩
  · have h := h.2 hc
    refine e_ld hP rfl rfl ?_
    refine e_ld hP rfl rfl ?_
    obtain ⟨hs2, h⟩ := h
    refine e_shr hP rfl hs2 ?_
    refine e_c hP rfl ?_
    obtain ⟨z3, hs4, h⟩ := h
    refine e_and hP rfl hs4 ?_
    refine e_c hP rfl ?_
    refine e_cne hP rfl (fun hc => ?_) (fun hc => ?_)
    · have h := h.1 hc
      exact h
    · have h := h.2 hc
      refine e_ld hP rfl rfl ?_
      refine e_ld hP rfl rfl ?_
      refine e_ld hP rfl rfl ?_
      refine e_ld hP rfl rfl ?_
      refine e_call hP rfl rfl rfl (Nat.le_of_ble_eq_true rfl) (Nat.le_of_ble_eq_true rfl) (rcv0 (sh_172 hM) (by decide)) ?_
      refine Ca.mono h (fun r hr => ?_)
      obtain ⟨M5, v6, rfl, h⟩ := hr
      show En 195 75 [some (.inr (.inr 173)), some (.inl x1), some (.inl x2), some (.inl x3), some (.inl x4), some (.inl x5), none, none] [.inl v6] S M5 Q
      refine e_zeq hP rfl (fun hc => ?_) (fun hc => ?_)
      · have h := h.1 hc
        exact h
      · have h := h.2 hc
        refine e_c hP rfl ?_
        refine e_go hP rfl ?_
        exact h
theorem r_X9_weddings_78 {S : Shp} {M : Mem} {Q : Res → Prop} (hM : KM S) {x1 x2 x3 x4 x5 : Int} (h : En 195 79 [some (.inr (.inr 173)), some (.inl x1), some (.inl x2), some (.inl x3), some (.inl x4), some (.inl x5), none, none] [.inl (0 : Int)] S M Q) : En 195 78 [some (.inr (.inr 173)), some (.inl x1), some (.inl x2), some (.inl x3), some (.inl x4), some (.inl x5), none, none] [] S M Q := by
  have hP : PR 195 = (bc_195, 8) := rfl
  refine e_c hP rfl ?_
  exact h
theorem r_X9_weddings_79 {S : Shp} {M : Mem} {Q : Res → Prop} (hM : KM S) {x1 x2 x3 x4 x5 s0 : Int} (h : ((s0 = 0 → En 195 96 [some (.inr (.inr 173)), some (.inl x1), some (.inl x2), some (.inl x3), some (.inl x4), some (.inl x5), some (.inl s0), none] [.inl (0 : Int)] S M Q) ∧ (s0 ≠ 0 → (0 ≤ (1 : Int) ∧ 0 ≤ x5 ∧ x5 < 32 ∧ inR ((1 : Int) * 2 ^ x5.toNat)) ∧ (∃ z2 : Int, bi_bin 10 ((1 : Int) * 2 ^ x5.toNat) (-1 : Int) = some z2 ∧ (∃ z4 : Int, bi_and x4 z2 = some z4 ∧ (0 ≤ z4 ∧ z4 < 256) ∧ (inR ((M 186 z4.toNat) + (1 : Int))) ∧ En 195 96 [some (.inr (.inr 173)), some (.inl x1), some (.inl x2), some (.inl x3), some (.inl x4), some (.inl x5), some (.inl s0), none] [.inl ((M 186 z4.toNat) + (1 : Int))] S M Q))))) : En 195 79 [some (.inr (.inr 173)), some (.inl x1), some (.inl x2), some (.inl x3), some (.inl x4), some (.inl x5), none, none] [.inl s0] S M Q := by
  have hP : PR 195 = (bc_195, 8) := rfl
  refine e_st (L' := [some (.inr (.inr 173)), some (.inl x1), some (.inl x2), some (.inl x3), some (.inl x4), some (.inl x5), some (.inl s0), none]) hP rfl rfl ?_
  refine e_ld hP rfl rfl ?_
  refine e_zeq hP rfl (fun hc => ?_) (fun hc => ?_)
  · have h := h.1 hc
    refine e_c hP rfl ?_
    exact h
  · have h := h.2 hc
    refine e_ld hP rfl rfl ?_
    refine e_gR (a := 9) (w := 187) 172 (sh_172 hM) hP rfl (by decide) rfl ?_
    refine e_ld hP rfl rfl ?_
    refine e_c hP rfl ?_
    refine e_ld hP rfl rfl ?_
    obtain ⟨hs1, h⟩ := h
    refine e_shl hP rfl hs1 ?_
    refine e_c hP rfl ?_
    obtain ⟨z2, hs3, h⟩ := h
    refine e_xor hP rfl hs3 ?_
    obtain ⟨z4, hs5, h⟩ := h
    refine e_and hP rfl hs5 ?_
    obtain ⟨hs6, h⟩ := h
    refine e_al 186 (sh_186 hM) hP rfl hs6 ?_
    refine e_c hP rfl ?_
    obtain ⟨hs7, h⟩ := h
    refine e_add hP rfl hs7 ?_
    refine e_go hP rfl ?_
    exact h
theorem r_X9_weddings_96 {S : Shp} {M : Mem} {Q : Res → Prop} (hM : KM S) {x1 x2 x3 x4 x5 x6 s0 : Int} (h : (0 ≤ x2 ∧ x2 < 256) ∧ ((s0 ≤ (M 186 x2.toNat) → (0 ≤ x2 ∧ x2 < 256) ∧ En 195 112 [some (.inr (.inr 173)), some (.inl x1), some (.inl x2), some (.inl x3), some (.inl x4), some (.inl x5), some (.inl x6), some (.inl s0)] [.inl (M 186 x2.toNat), .inl x2, .inr (.inr 187)] S M Q) ∧ ((M 186 x2.toNat) < s0 → En 195 112 [some (.inr (.inr 173)), some (.inl x1), some (.inl x2), some (.inl x3), some (.inl x4), some (.inl x5), some (.inl x6), some (.inl s0)] [.inl s0, .inl x2, .inr (.inr 187)] S M Q))) : En 195 96 [some (.inr (.inr 173)), some (.inl x1), some (.inl x2), some (.inl x3), some (.inl x4), some (.inl x5), some (.inl x6), none] [.inl s0] S M Q := by
  have hP : PR 195 = (bc_195, 8) := rfl
  refine e_st (L' := [some (.inr (.inr 173)), some (.inl x1), some (.inl x2), some (.inl x3), some (.inl x4), some (.inl x5), some (.inl x6), some (.inl s0)]) hP rfl rfl ?_
  refine e_ld hP rfl rfl ?_
  refine e_gR (a := 9) (w := 187) 172 (sh_172 hM) hP rfl (by decide) rfl ?_
  refine e_ld hP rfl rfl ?_
  refine e_ld hP rfl rfl ?_
  refine e_ld hP rfl rfl ?_
  refine e_gR (a := 9) (w := 187) 172 (sh_172 hM) hP rfl (by decide) rfl ?_
  refine e_ld hP rfl rfl ?_
  obtain ⟨hs1, h⟩ := h
  refine e_al 186 (sh_186 hM) hP rfl hs1 ?_
  refine e_cle hP rfl (fun hc => ?_) (fun hc => ?_)
  · have h := h.1 hc
    refine e_ld hP rfl rfl ?_
    refine e_gR (a := 9) (w := 187) 172 (sh_172 hM) hP rfl (by decide) rfl ?_
    refine e_ld hP rfl rfl ?_
    obtain ⟨hs2, h⟩ := h
    refine e_al 186 (sh_186 hM) hP rfl hs2 ?_
    exact h
  · have h := h.2 hc
    refine e_ld hP rfl rfl ?_
    refine e_go hP rfl ?_
    exact h
theorem r_X9_weddings_112 {S : Shp} {M : Mem} {Q : Res → Prop} (hM : KM S) {x1 x2 x3 x4 x5 x6 x7 s0 s1 : Int} (h : (0 ≤ s1 ∧ s1 < 256) ∧ (inR (x5 + 1)) ∧ En 195 57 [some (.inr (.inr 173)), some (.inl x1), some (.inl x2), some (.inl x3), some (.inl x4), some (.inl (x5 + 1)), none, none] [] S (up2 M 186 s1.toNat s0) Q) : En 195 112 [some (.inr (.inr 173)), some (.inl x1), some (.inl x2), some (.inl x3), some (.inl x4), some (.inl x5), some (.inl x6), some (.inl x7)] [.inl s0, .inl s1, .inr (.inr 187)] S M Q := by
  have hP : PR 195 = (bc_195, 8) := rfl
  obtain ⟨hs1, h⟩ := h
  refine e_as 186 (sh_186 hM) (by decide) hP rfl hs1 ?_
  obtain ⟨hs2, h⟩ := h
  refine e_inc (L' := [some (.inr (.inr 173)), some (.inl x1), some (.inl x2), some (.inl x3), some (.inl x4), some (.inl (x5 + 1)), some (.inl x6), some (.inl x7)]) hP rfl rfl hs2 rfl ?_
  refine e_go hP rfl ?_
  exact en_fg h ⟨Or.inr rfl, Or.inr rfl, Or.inr rfl, Or.inr rfl, Or.inr rfl, Or.inr rfl, Or.inl rfl, Or.inl rfl, trivial⟩
theorem r_X9_weddings_115 {S : Shp} {M : Mem} {Q : Res → Prop} (hM : KM S) {x1 x2 x3 : Int} (h : (inR (x2 + 1)) ∧ En 195 2 [some (.inr (.inr 173)), some (.inl x1), some (.inl (x2 + 1)), none, none, none, none, none] [] S M Q) : En 195 115 [some (.inr (.inr 173)), some (.inl x1), some (.inl x2), some (.inl x3), none, none, none, none] [] S M Q := by
  have hP : PR 195 = (bc_195, 8) := rfl
  obtain ⟨hs1, h⟩ := h
  refine e_inc (L' := [some (.inr (.inr 173)), some (.inl x1), some (.inl (x2 + 1)), some (.inl x3), none, none, none, none]) hP rfl rfl hs1 rfl ?_
  refine e_go hP rfl ?_
  exact en_fg h ⟨Or.inr rfl, Or.inr rfl, Or.inr rfl, Or.inl rfl, Or.inr rfl, Or.inr rfl, Or.inr rfl, Or.inr rfl, trivial⟩
theorem r_X9_match_0 {S : Shp} {M : Mem} {Q : Res → Prop} (hM : KM S) {p1 : Int} (h : (0 ≤ (0 : Int) ∧ (0 : Int) < 12) ∧ (inR ((M 174 (0 : Int).toNat) - (1 : Int))) ∧ Ca 140 [.inr (.inl p1), .inr (.inl (-1 : Int)), .inr (.inl ((M 174 (0 : Int).toNat) - (1 : Int)))] S M (fun r => ∃ (M3 : Mem) (v4 : Int), r = (S, M3, some (.inl v4)) ∧ ((v4 ≠ 0 → (0 ≤ (2 : Int) ∧ (2 : Int) < 12) ∧ Ca 195 [.inr (.inr 173), .inl (M3 174 (2 : Int).toNat)] S M3 (fun r => ∃ (M6 : Mem) (v7 : Int), r = (S, M6, some (.inl v7)) ∧ (0 ≤ (0 : Int) ∧ (0 : Int) < 12) ∧ (0 ≤ (1 : Int) ∧ 0 ≤ (M6 174 (0 : Int).toNat) ∧ (M6 174 (0 : Int).toNat) < 32 ∧ inR ((1 : Int) * 2 ^ (M6 174 (0 : Int).toNat).toNat)) ∧ (inR (((1 : Int) * 2 ^ (M6 174 (0 : Int).toNat).toNat) - (1 : Int))) ∧ En 196 32 [some (.inr (.inr 173)), some (.inl p1), some (.inl v7), some (.inl (((1 : Int) * 2 ^ (M6 174 (0 : Int).toNat).toNat) - (1 : Int))), some (.inl (0 : Int)), none, none, none, none] [] S M6 Q)) ∧ (v4 = 0 → Q (S, M3, some (.inl (-1 : Int))))))) : Ca 196 [.inr (.inr 173), .inl p1] S M Q := by
  have hP : PR 196 = (bc_196, 9) := rfl
  refine ⟨Nat.le_of_ble_eq_true rfl, ?_⟩
  show En 196 0 [some (.inr (.inr 173)), some (.inl p1), none, none, none, none, none, none, none] [] S M Q
  refine e_ld hP rfl rfl ?_
  refine e_i2l hP rfl ?_
  refine e_lc hP rfl ?_
  refine e_ld hP rfl rfl ?_
  refine e_gR (a := 9) (w := 175) 172 (sh_172 hM) hP rfl (by decide) rfl ?_
  refine e_c hP rfl ?_
  obtain ⟨hs1, h⟩ := h
  refine e_al 174 (sh_174 hM) hP rfl hs1 ?_
  refine e_c hP rfl ?_
  obtain ⟨hs2, h⟩ := h
  refine e_sub hP rfl hs2 ?_
  refine e_i2l hP rfl ?_
  refine e_call hP rfl rfl rfl (Nat.le_of_ble_eq_true rfl) (Nat.le_of_ble_eq_true rfl) rcv1 ?_
  refine Ca.mono h (fun r hr => ?_)
  obtain ⟨M3, v4, rfl, h⟩ := hr
  show En 196 11 [some (.inr (.inr 173)), some (.inl p1), none, none, none, none, none, none, none] [.inl v4] S M3 Q
  refine e_zne hP rfl (fun hc => ?_) (fun hc => ?_)
  · have h := h.1 hc
    refine e_ld hP rfl rfl ?_
    refine e_ld hP rfl rfl ?_
    refine e_gR (a := 9) (w := 175) 172 (sh_172 hM) hP rfl (by decide) rfl ?_
    refine e_c hP rfl ?_
    obtain ⟨hs5, h⟩ := h
    refine e_al 174 (sh_174 hM) hP rfl hs5 ?_
    refine e_call hP rfl rfl rfl (Nat.le_of_ble_eq_true rfl) (Nat.le_of_ble_eq_true rfl) (rcv0 (sh_172 hM) (by decide)) ?_
    refine Ca.mono h (fun r hr => ?_)
    obtain ⟨M6, v7, rfl, h⟩ := hr
    show En 196 20 [some (.inr (.inr 173)), some (.inl p1), none, none, none, none, none, none, none] [.inl v7] S M6 Q
    refine e_st (L' := [some (.inr (.inr 173)), some (.inl p1), some (.inl v7), none, none, none, none, none, none]) hP rfl rfl ?_
    refine e_c hP rfl ?_
    refine e_ld hP rfl rfl ?_
    refine e_gR (a := 9) (w := 175) 172 (sh_172 hM) hP rfl (by decide) rfl ?_
    refine e_c hP rfl ?_
    obtain ⟨hs8, h⟩ := h
    refine e_al 174 (sh_174 hM) hP rfl hs8 ?_
    obtain ⟨hs9, h⟩ := h
    refine e_shl hP rfl hs9 ?_
    refine e_c hP rfl ?_
    obtain ⟨hs10, h⟩ := h
    refine e_sub hP rfl hs10 ?_
    refine e_st (L' := [some (.inr (.inr 173)), some (.inl p1), some (.inl v7), some (.inl (((1 : Int) * 2 ^ (M6 174 (0 : Int).toNat).toNat) - (1 : Int))), none, none, none, none, none]) hP rfl rfl ?_
    refine e_c hP rfl ?_
    refine e_st (L' := [some (.inr (.inr 173)), some (.inl p1), some (.inl v7), some (.inl (((1 : Int) * 2 ^ (M6 174 (0 : Int).toNat).toNat) - (1 : Int))), some (.inl (0 : Int)), none, none, none, none]) hP rfl rfl ?_
    exact h
  · have h := h.2 hc
    refine e_c hP rfl ?_
    exact e_ret hP rfl rfl h
theorem r_X9_match_32 {S : Shp} {M : Mem} {Q : Res → Prop} (hM : KM S) {x1 x2 x3 x4 : Int} (h : (((8 : Int) ≤ x4 → En 196 44 [some (.inr (.inr 173)), some (.inl x1), some (.inl x2), some (.inl x3), some (.inl (0 : Int)), none, none, none, none] [] S M Q) ∧ (x4 < (8 : Int) → (0 ≤ x4 ∧ x4 < 8) ∧ (inR (x4 + 1)) ∧ En 196 32 [some (.inr (.inr 173)), some (.inl x1), some (.inl x2), some (.inl x3), some (.inl (x4 + 1)), none, none, none, none] [] S (up2 M 184 x4.toNat (-4 : Int)) Q))) : En 196 32 [some (.inr (.inr 173)), some (.inl x1), some (.inl x2), some (.inl x3), some (.inl x4), none, none, none, none] [] S M Q := by
  have hP : PR 196 = (bc_196, 9) := rfl
  refine e_ld hP rfl rfl ?_
  refine e_c hP rfl ?_
  refine e_cge hP rfl (fun hc => ?_) (fun hc => ?_)
  · have h := h.1 hc
    refine e_c hP rfl ?_
    refine e_st (L' := [some (.inr (.inr 173)), some (.inl x1), some (.inl x2), some (.inl x3), some (.inl (0 : Int)), none, none, none, none]) hP rfl rfl ?_
    exact h
  · have h := h.2 hc
    refine e_ld hP rfl rfl ?_
    refine e_gR (a := 9) (w := 185) 172 (sh_172 hM) hP rfl (by decide) rfl ?_
    refine e_ld hP rfl rfl ?_
    refine e_c hP rfl ?_
    obtain ⟨hs1, h⟩ := h
    refine e_as 184 (sh_184 hM) (by decide) hP rfl hs1 ?_
    obtain ⟨hs2, h⟩ := h
    refine e_inc (L' := [some (.inr (.inr 173)), some (.inl x1), some (.inl x2), some (.inl x3), some (.inl (x4 + 1)), none, none, none, none]) hP rfl rfl hs2 rfl ?_
    refine e_go hP rfl ?_
    exact h
theorem r_X9_match_44 {S : Shp} {M : Mem} {Q : Res → Prop} (hM : KM S) {x1 x2 x3 x4 : Int} (h : (0 ≤ (0 : Int) ∧ (0 : Int) < 12) ∧ (((M 174 (0 : Int).toNat) ≤ x4 → ((0 ≤ x1 → (0 ≤ x1 ∧ x1 < 8) ∧ En 196 150 [some (.inr (.inr 173)), some (.inl x1), some (.inl x2), some (.inl x3), some (.inl x4), none, none, none, none] [.inl (M 184 x1.toNat)] S M Q) ∧ (x1 < 0 → En 196 150 [some (.inr (.inr 173)), some (.inl x1), some (.inl x2), some (.inl x3), some (.inl x4), none, none, none, none] [.inl x2] S M Q))) ∧ (x4 < (M 174 (0 : Int).toNat) → (0 ≤ x3 ∧ 0 ≤ x4 ∧ x4 < 32) ∧ (∃ z4 : Int, bi_and (x3 / 2 ^ x4.toNat) (1 : Int) = some z4 ∧ ((z4 ≠ (1 : Int) → En 196 60 [some (.inr (.inr 173)), some (.inl x1), some (.inl x2), some (.inl x3), some (.inl x4), none, none, none, none] [.inl (0 : Int)] S M Q) ∧ (z4 = (1 : Int) → En 196 60 [some (.inr (.inr 173)), some (.inl x1), some (.inl x2), some (.inl x3), some (.inl x4), none, none, none, none] [.inl (1 : Int)] S M Q)))))) : En 196 44 [some (.inr (.inr 173)), some (.inl x1), some (.inl x2), some (.inl x3), some (.inl x4), none, none, none, none] [] S M Q := by
  have hP : PR 196 = (bc_196, 9) := rfl
  refine e_ld hP rfl rfl ?_
  refine e_ld hP rfl rfl ?_
  refine e_gR (a := 9) (w := 175) 172 (sh_172 hM) hP rfl (by decide) rfl ?_
  refine e_c hP rfl ?_
  obtain ⟨hs1, h⟩ := h
  refine e_al 174 (sh_174 hM) hP rfl hs1 ?_
  refine e_cge hP rfl (fun hc => ?_) (fun hc => ?_)
  · have h := h.1 hc
    refine e_ld hP rfl rfl ?_
    refine e_zge hP rfl (fun hc => ?_) (fun hc => ?_)
    · have h := h.1 hc
      refine e_ld hP rfl rfl ?_
      refine e_gR (a := 9) (w := 185) 172 (sh_172 hM) hP rfl (by decide) rfl ?_
      refine e_ld hP rfl rfl ?_
      obtain ⟨hs2, h⟩ := h
      refine e_al 184 (sh_184 hM) hP rfl hs2 ?_
      exact h
    · have h := h.2 hc
      refine e_ld hP rfl rfl ?_
      refine e_go hP rfl ?_
      exact h
  · have h := h.2 hc
    refine e_ld hP rfl rfl ?_
    refine e_ld hP rfl rfl ?_
    obtain ⟨hs3, h⟩ := h
    refine e_shr hP rfl hs3 ?_
    refine e_c hP rfl ?_
    obtain ⟨z4, hs5, h⟩ := h
    refine e_and hP rfl hs5 ?_
    refine e_c hP rfl ?_
    refine e_cne hP rfl (fun hc => ?_) (fun hc => ?_)
    · have h := h.1 hc
      refine e_c hP rfl ?_
      exact h
    · have h := h.2 hc
      refine e_c hP rfl ?_
      refine e_go hP rfl ?_
      exact h
theorem r_X9_match_60 {S : Shp} {M : Mem} {Q : Res → Prop} (hM : KM S) {x1 x2 x3 x4 s0 : Int} (h : (0 ≤ x3 ∧ x3 < 256) ∧ (inR (x4 + (1 : Int))) ∧ En 196 70 [some (.inr (.inr 173)), some (.inl x1), some (.inl x2), some (.inl x3), some (.inl x4), some (.inl s0), some (.inl (M 186 x3.toNat)), some (.inl (x4 + (1 : Int))), none] [] S M Q) : En 196 60 [some (.inr (.inr 173)), some (.inl x1), some (.inl x2), some (.inl x3), some (.inl x4), none, none, none, none] [.inl s0] S M Q := by
  have hP : PR 196 = (bc_196, 9) := rfl
  refine e_st (L' := [some (.inr (.inr 173)), some (.inl x1), some (.inl x2), some (.inl x3), some (.inl x4), some (.inl s0), none, none, none]) hP rfl rfl ?_
  refine e_ld hP rfl rfl ?_
  refine e_gR (a := 9) (w := 187) 172 (sh_172 hM) hP rfl (by decide) rfl ?_
  refine e_ld hP rfl rfl ?_
  obtain ⟨hs1, h⟩ := h
  refine e_al 186 (sh_186 hM) hP rfl hs1 ?_
  refine e_st (L' := [some (.inr (.inr 173)), some (.inl x1), some (.inl x2), some (.inl x3), some (.inl x4), some (.inl s0), some (.inl (M 186 x3.toNat)), none, none]) hP rfl rfl ?_
  refine e_ld hP rfl rfl ?_
  refine e_c hP rfl ?_
  obtain ⟨hs2, h⟩ := h
  refine e_add hP rfl hs2 ?_
  refine e_st (L' := [some (.inr (.inr 173)), some (.inl x1), some (.inl x2), some (.inl x3), some (.inl x4), some (.inl s0), some (.inl (M 186 x3.toNat)), some (.inl (x4 + (1 : Int))), none]) hP rfl rfl ?_
  exact h
theorem r_X9_match_70 {S : Shp} {M : Mem} {Q : Res → Prop} (hM : KM S) {x1 x2 x3 x4 x5 x6 x7 : Int} (h : (0 ≤ (0 : Int) ∧ (0 : Int) < 12) ∧ (((M 174 (0 : Int).toNat) ≤ x7 → En 196 132 [some (.inr (.inr 173)), some (.inl x1), some (.inl x2), some (.inl x3), some (.inl x4), some (.inl x5), some (.inl x6), some (.inl x7), none] [] S M Q) ∧ (x7 < (M 174 (0 : Int).toNat) → ((x5 = 0 → En 196 132 [some (.inr (.inr 173)), some (.inl x1), some (.inl x2), some (.inl x3), some (.inl x4), some (.inl x5), some (.inl x6), some (.inl x7), none] [] S M Q) ∧ (x5 ≠ 0 → (0 ≤ (1 : Int) ∧ 0 ≤ x4 ∧ x4 < 32 ∧ inR ((1 : Int) * 2 ^ x4.toNat)) ∧ (∃ z3 : Int, bi_bin 10 ((1 : Int) * 2 ^ x4.toNat) (-1 : Int) = some z3 ∧ (∃ z5 : Int, bi_and x3 z3 = some z5 ∧ (0 ≤ (1 : Int) ∧ 0 ≤ x7 ∧ x7 < 32 ∧ inR ((1 : Int) * 2 ^ x7.toNat)) ∧ (∃ z8 : Int, bi_bin 10 ((1 : Int) * 2 ^ x7.toNat) (-1 : Int) = some z8 ∧ (∃ z10 : Int, bi_and z5 z8 = some z10 ∧ (0 ≤ x3 ∧ 0 ≤ x7 ∧ x7 < 32) ∧ (∃ z13 : Int, bi_and (x3 / 2 ^ x7.toNat) (1 : Int) = some z13 ∧ ((z13 ≠ (1 : Int) → En 196 130 [some (.inr (.inr 173)), some (.inl x1), some (.inl x2), some (.inl x3), some (.inl x4), some (.inl x5), some (.inl x6), some (.inl x7), some (.inl z10)] [] S M Q) ∧ (z13 = (1 : Int) → (0 ≤ (2 : Int) ∧ (2 : Int) < 12) ∧ Ca 177 [.inr (.inr 173), .inl x4, .inl x7, .inl (M 174 (2 : Int).toNat)] S M (fun r => ∃ (M16 : Mem) (v17 : Int), r = (S, M16, some (.inl v17)) ∧ ((v17 = 0 → En 196 130 [some (.inr (.inr 173)), some (.inl x1), some (.inl x2), some (.inl x3), some (.inl x4), some (.inl x5), some (.inl x6), some (.inl x7), some (.inl z10)] [] S M16 Q) ∧ (v17 ≠ 0 → (0 ≤ z10 ∧ z10 < 256) ∧ (inR ((M16 186 z10.toNat) + (1 : Int))) ∧ ((((M16 186 z10.toNat) + (1 : Int)) ≠ x6 → En 196 130 [some (.inr (.inr 173)), some (.inl x1), some (.inl x2), some (.inl x3), some (.inl x4), some (.inl x5), some (.inl x6), some (.inl x7), some (.inl z10)] [] S M16 Q) ∧ (((M16 186 z10.toNat) + (1 : Int)) = x6 → (0 ≤ x4 ∧ x4 < 8) ∧ (0 ≤ x7 ∧ x7 < 8) ∧ En 196 130 [some (.inr (.inr 173)), some (.inl x1), some (.inl x2), some (.inl z10), some (.inl x4), some (.inl (0 : Int)), some (.inl x6), some (.inl x7), some (.inl z10)] [] S (up2 (up2 M16 184 x4.toNat x7) 184 x7.toNat x4) Q))))))))))))))))) : En 196 70 [some (.inr (.inr 173)), some (.inl x1), some (.inl x2), some (.inl x3), some (.inl x4), some (.inl x5), some (.inl x6), some (.inl x7), none] [] S M Q := by
  have hP : PR 196 = (bc_196, 9) := rfl
  refine e_ld hP rfl rfl ?_
  refine e_ld hP rfl rfl ?_
  refine e_gR (a := 9) (w := 175) 172 (sh_172 hM) hP rfl (by decide) rfl ?_
  refine e_c hP rfl ?_
  obtain ⟨hs1, h⟩ := h
  refine e_al 174 (sh_174 hM) hP rfl hs1 ?_
  refine e_cge hP rfl (fun hc => ?_) (fun hc => ?_)
  · have h := h.1 hc
    exact h
  · have h := h.2 hc
    refine e_ld hP rfl rfl ?_
    refine e_zeq hP rfl (fun hc => ?_) (fun hc => ?_)
    · have h := h.1 hc
      exact h
    · have h := h.2 hc
      refine e_ld hP rfl rfl ?_
      refine e_c hP rfl ?_
      refine e_ld hP rfl rfl ?_
      obtain ⟨hs2, h⟩ := h
      refine e_shl hP rfl hs2 ?_
      refine e_c hP rfl ?_
      obtain ⟨z3, hs4, h⟩ := h
      refine e_xor hP rfl hs4 ?_
      obtain ⟨z5, hs6, h⟩ := h
      refine e_and hP rfl hs6 ?_
      refine e_c hP rfl ?_
      refine e_ld hP rfl rfl ?_
      obtain ⟨hs7, h⟩ := h
      refine e_shl hP rfl hs7 ?_
      refine e_c hP rfl ?_
      obtain ⟨z8, hs9, h⟩ := h
      refine e_xor hP rfl hs9 ?_
      obtain ⟨z10, hs11, h⟩ := h
      refine e_and hP rfl hs11 ?_
      refine e_st (L' := [some (.inr (.inr 173)), some (.inl x1), some (.inl x2), some (.inl x3), some (.inl x4), some (.inl x5), some (.inl x6), some (.inl x7), some (.inl z10)]) hP rfl rfl ?_
      refine e_ld hP rfl rfl ?_
      refine e_ld hP rfl rfl ?_
      obtain ⟨hs12, h⟩ := h
      refine e_shr hP rfl hs12 ?_
      refine e_c hP rfl ?_
      obtain ⟨z13, hs14, h⟩ := h
      refine e_and hP rfl hs14 ?_
      refine e_c hP rfl ?_
      refine e_cne hP rfl (fun hc => ?_) (fun hc => ?_)
      · have h := h.1 hc
        exact h
      · have h := h.2 hc
        refine e_ld hP rfl rfl ?_
        refine e_ld hP rfl rfl ?_
        refine e_ld hP rfl rfl ?_
        refine e_ld hP rfl rfl ?_
        refine e_gR (a := 9) (w := 175) 172 (sh_172 hM) hP rfl (by decide) rfl ?_
        refine e_c hP rfl ?_
        obtain ⟨hs15, h⟩ := h
        refine e_al 174 (sh_174 hM) hP rfl hs15 ?_
        refine e_call hP rfl rfl rfl (Nat.le_of_ble_eq_true rfl) (Nat.le_of_ble_eq_true rfl) (rcv0 (sh_172 hM) (by decide)) ?_
        refine Ca.mono h (fun r hr => ?_)
        obtain ⟨M16, v17, rfl, h⟩ := hr
        show En 196 107 [some (.inr (.inr 173)), some (.inl x1), some (.inl x2), some (.inl x3), some (.inl x4), some (.inl x5), some (.inl x6), some (.inl x7), some (.inl z10)] [.inl v17] S M16 Q
        refine e_zeq hP rfl (fun hc => ?_) (fun hc => ?_)
        · have h := h.1 hc
          exact h
        · have h := h.2 hc
          refine e_ld hP rfl rfl ?_
          refine e_gR (a := 9) (w := 187) 172 (sh_172 hM) hP rfl (by decide) rfl ?_
          refine e_ld hP rfl rfl ?_
          obtain ⟨hs18, h⟩ := h
          refine e_al 186 (sh_186 hM) hP rfl hs18 ?_
          refine e_c hP rfl ?_
          obtain ⟨hs19, h⟩ := h
          refine e_add hP rfl hs19 ?_
          refine e_ld hP rfl rfl ?_
          refine e_cne hP rfl (fun hc => ?_) (fun hc => ?_)
          · have h := h.1 hc
            exact h
          · have h := h.2 hc
            refine e_ld hP rfl rfl ?_
            refine e_gR (a := 9) (w := 185) 172 (sh_172 hM) hP rfl (by decide) rfl ?_
            refine e_ld hP rfl rfl ?_
            refine e_ld hP rfl rfl ?_
            obtain ⟨hs20, h⟩ := h
            refine e_as 184 (sh_184 hM) (by decide) hP rfl hs20 ?_
            refine e_ld hP rfl rfl ?_
            refine e_gR (a := 9) (w := 185) 172 (sh_172 hM) hP rfl (by decide) rfl ?_
            refine e_ld hP rfl rfl ?_
            refine e_ld hP rfl rfl ?_
            obtain ⟨hs21, h⟩ := h
            refine e_as 184 (sh_184 hM) (by decide) hP rfl hs21 ?_
            refine e_ld hP rfl rfl ?_
            refine e_st (L' := [some (.inr (.inr 173)), some (.inl x1), some (.inl x2), some (.inl z10), some (.inl x4), some (.inl x5), some (.inl x6), some (.inl x7), some (.inl z10)]) hP rfl rfl ?_
            refine e_c hP rfl ?_
            refine e_st (L' := [some (.inr (.inr 173)), some (.inl x1), some (.inl x2), some (.inl z10), some (.inl x4), some (.inl (0 : Int)), some (.inl x6), some (.inl x7), some (.inl z10)]) hP rfl rfl ?_
            exact h
theorem r_X9_match_130 {S : Shp} {M : Mem} {Q : Res → Prop} (hM : KM S) {x1 x2 x3 x4 x5 x6 x7 x8 : Int} (h : (inR (x7 + 1)) ∧ En 196 70 [some (.inr (.inr 173)), some (.inl x1), some (.inl x2), some (.inl x3), some (.inl x4), some (.inl x5), some (.inl x6), some (.inl (x7 + 1)), none] [] S M Q) : En 196 130 [some (.inr (.inr 173)), some (.inl x1), some (.inl x2), some (.inl x3), some (.inl x4), some (.inl x5), some (.inl x6), some (.inl x7), some (.inl x8)] [] S M Q := by
  have hP : PR 196 = (bc_196, 9) := rfl
  obtain ⟨hs1, h⟩ := h
  refine e_inc (L' := [some (.inr (.inr 173)), some (.inl x1), some (.inl x2), some (.inl x3), some (.inl x4), some (.inl x5), some (.inl x6), some (.inl (x7 + 1)), some (.inl x8)]) hP rfl rfl hs1 rfl ?_
  refine e_go hP rfl ?_
  exact en_fg h ⟨Or.inr rfl, Or.inr rfl, Or.inr rfl, Or.inr rfl, Or.inr rfl, Or.inr rfl, Or.inr rfl, Or.inr rfl, Or.inl rfl, trivial⟩
theorem r_X9_match_132 {S : Shp} {M : Mem} {Q : Res → Prop} (hM : KM S) {x1 x2 x3 x4 x5 x6 x7 : Int} (h : (0 ≤ (1 : Int) ∧ 0 ≤ x4 ∧ x4 < 32 ∧ inR ((1 : Int) * 2 ^ x4.toNat)) ∧ (∃ z2 : Int, bi_bin 10 ((1 : Int) * 2 ^ x4.toNat) (-1 : Int) = some z2 ∧ (∃ z4 : Int, bi_and x3 z2 = some z4 ∧ (inR (x4 + 1)) ∧ En 196 44 [some (.inr (.inr 173)), some (.inl x1), some (.inl x2), some (.inl z4), some (.inl (x4 + 1)), none, none, none, none] [] S M Q))) : En 196 132 [some (.inr (.inr 173)), some (.inl x1), some (.inl x2), some (.inl x3), some (.inl x4), some (.inl x5), some (.inl x6), some (.inl x7), none] [] S M Q := by
  have hP : PR 196 = (bc_196, 9) := rfl
  refine e_ld hP rfl rfl ?_
  refine e_c hP rfl ?_
  refine e_ld hP rfl rfl ?_
  obtain ⟨hs1, h⟩ := h
  refine e_shl hP rfl hs1 ?_
  refine e_c hP rfl ?_
  obtain ⟨z2, hs3, h⟩ := h
  refine e_xor hP rfl hs3 ?_
  obtain ⟨z4, hs5, h⟩ := h
  refine e_and hP rfl hs5 ?_
  refine e_st (L' := [some (.inr (.inr 173)), some (.inl x1), some (.inl x2), some (.inl z4), some (.inl x4), some (.inl x5), some (.inl x6), some (.inl x7), none]) hP rfl rfl ?_
  obtain ⟨hs6, h⟩ := h
  refine e_inc (L' := [some (.inr (.inr 173)), some (.inl x1), some (.inl x2), some (.inl z4), some (.inl (x4 + 1)), some (.inl x5), some (.inl x6), some (.inl x7), none]) hP rfl rfl hs6 rfl ?_
  refine e_go hP rfl ?_
  exact en_fg h ⟨Or.inr rfl, Or.inr rfl, Or.inr rfl, Or.inr rfl, Or.inr rfl, Or.inl rfl, Or.inl rfl, Or.inl rfl, Or.inr rfl, trivial⟩
theorem r_X9_match_150 {S : Shp} {M : Mem} {Q : Res → Prop} (hM : KM S) {x1 x2 x3 x4 s0 : Int} (h : Q (S, M, some (.inl s0))) : En 196 150 [some (.inr (.inr 173)), some (.inl x1), some (.inl x2), some (.inl x3), some (.inl x4), none, none, none, none] [.inl s0] S M Q := by
  have hP : PR 196 = (bc_196, 9) := rfl
  exact e_ret hP rfl rfl h
theorem r_X9_wide_0 {S : Shp} {M : Mem} {Q : Res → Prop} (hM : KM S) {p1 : Int} (h : Ca 140 [.inr (.inl p1), .inr (.inl (1 : Int)), .inr (.inl (4 : Int))] S M (fun r => ∃ (M1 : Mem) (v2 : Int), r = (S, M1, some (.inl v2)) ∧ ((v2 ≠ 0 → En 197 10 [some (.inr (.inr 173)), some (.inl p1), some (.inl (0 : Int))] [] S M1 Q) ∧ (v2 = 0 → Q (S, M1, some (.inl (-1 : Int))))))) : Ca 197 [.inr (.inr 173), .inl p1] S M Q := by
  have hP : PR 197 = (bc_197, 3) := rfl
  refine ⟨Nat.le_of_ble_eq_true rfl, ?_⟩
  show En 197 0 [some (.inr (.inr 173)), some (.inl p1), none] [] S M Q
  refine e_ld hP rfl rfl ?_
  refine e_i2l hP rfl ?_
  refine e_lc hP rfl ?_
  refine e_lc hP rfl ?_
  refine e_call hP rfl rfl rfl (Nat.le_of_ble_eq_true rfl) (Nat.le_of_ble_eq_true rfl) rcv1 ?_
  refine Ca.mono h (fun r hr => ?_)
  obtain ⟨M1, v2, rfl, h⟩ := hr
  show En 197 5 [some (.inr (.inr 173)), some (.inl p1), none] [.inl v2] S M1 Q
  refine e_zne hP rfl (fun hc => ?_) (fun hc => ?_)
  · have h := h.1 hc
    refine e_c hP rfl ?_
    refine e_st (L' := [some (.inr (.inr 173)), some (.inl p1), some (.inl (0 : Int))]) hP rfl rfl ?_
    exact h
  · have h := h.2 hc
    refine e_c hP rfl ?_
    exact e_ret hP rfl rfl h
theorem r_X9_wide_10 {S : Shp} {M : Mem} {Q : Res → Prop} (hM : KM S) {x1 x2 : Int} (h : (((26 : Int) ≤ x2 → Q (S, M, some (.inl (-4 : Int)))) ∧ (x2 < (26 : Int) → Ca 195 [.inr (.inr 173), .inl x2] S M (fun r => ∃ (M1 : Mem) (v2 : Int), r = (S, M1, some (.inl v2)) ∧ ((v2 < x1 → (inR (x2 + 1)) ∧ En 197 10 [some (.inr (.inr 173)), some (.inl x1), some (.inl (x2 + 1))] [] S M1 Q) ∧ (x1 ≤ v2 → Q (S, M1, some (.inl x2)))))))) : En 197 10 [some (.inr (.inr 173)), some (.inl x1), some (.inl x2)] [] S M Q := by
  have hP : PR 197 = (bc_197, 3) := rfl
  refine e_ld hP rfl rfl ?_
  refine e_c hP rfl ?_
  refine e_cge hP rfl (fun hc => ?_) (fun hc => ?_)
  · have h := h.1 hc
    refine e_c hP rfl ?_
    exact e_ret hP rfl rfl h
  · have h := h.2 hc
    refine e_ld hP rfl rfl ?_
    refine e_ld hP rfl rfl ?_
    refine e_call hP rfl rfl rfl (Nat.le_of_ble_eq_true rfl) (Nat.le_of_ble_eq_true rfl) (rcv0 (sh_172 hM) (by decide)) ?_
    refine Ca.mono h (fun r hr => ?_)
    obtain ⟨M1, v2, rfl, h⟩ := hr
    show En 197 16 [some (.inr (.inr 173)), some (.inl x1), some (.inl x2)] [.inl v2] S M1 Q
    refine e_ld hP rfl rfl ?_
    refine e_clt hP rfl (fun hc => ?_) (fun hc => ?_)
    · have h := h.1 hc
      obtain ⟨hs3, h⟩ := h
      refine e_inc (L' := [some (.inr (.inr 173)), some (.inl x1), some (.inl (x2 + 1))]) hP rfl rfl hs3 rfl ?_
      refine e_go hP rfl ?_
      exact h
    · have h := h.2 hc
      refine e_ld hP rfl rfl ?_
      exact e_ret hP rfl rfl h
theorem r_X9_owed_0 {S : Shp} {M : Mem} {Q : Res → Prop} (hM : KM S) {p1 p2 : Int} (h : Ca 156 [.inr (.inr 173), .inl p1] S M (fun r => ∃ (M1 : Mem) (v2 : Int), r = (S, M1, some (.inl v2)) ∧ ((v2 = 0 → Q (S, M1, some (.inl (-1 : Int)))) ∧ (v2 ≠ 0 → Ca 156 [.inr (.inr 173), .inl p2] S M1 (fun r => ∃ (M3 : Mem) (v4 : Int), r = (S, M3, some (.inl v4)) ∧ ((v4 = 0 → Q (S, M3, some (.inl (-1 : Int)))) ∧ (v4 ≠ 0 → Ca 182 [.inr (.inr 173), .inl p2, .inl p1] S M3 (fun r => ∃ (M5 : Mem) (v6 : Int), r = (S, M5, some (.inl v6)) ∧ Q (S, M5, some (.inl v6)))))))))) : Ca 198 [.inr (.inr 173), .inl p1, .inl p2] S M Q := by
  have hP : PR 198 = (bc_198, 3) := rfl
  refine ⟨Nat.le_of_ble_eq_true rfl, ?_⟩
  show En 198 0 [some (.inr (.inr 173)), some (.inl p1), some (.inl p2)] [] S M Q
  refine e_ld hP rfl rfl ?_
  refine e_ld hP rfl rfl ?_
  refine e_call hP rfl rfl rfl (Nat.le_of_ble_eq_true rfl) (Nat.le_of_ble_eq_true rfl) (rcv0 (sh_172 hM) (by decide)) ?_
  refine Ca.mono h (fun r hr => ?_)
  obtain ⟨M1, v2, rfl, h⟩ := hr
  show En 198 3 [some (.inr (.inr 173)), some (.inl p1), some (.inl p2)] [.inl v2] S M1 Q
  refine e_zeq hP rfl (fun hc => ?_) (fun hc => ?_)
  · have h := h.1 hc
    refine e_c hP rfl ?_
    exact e_ret hP rfl rfl h
  · have h := h.2 hc
    refine e_ld hP rfl rfl ?_
    refine e_ld hP rfl rfl ?_
    refine e_call hP rfl rfl rfl (Nat.le_of_ble_eq_true rfl) (Nat.le_of_ble_eq_true rfl) (rcv0 (sh_172 hM) (by decide)) ?_
    refine Ca.mono h (fun r hr => ?_)
    obtain ⟨M3, v4, rfl, h⟩ := hr
    show En 198 7 [some (.inr (.inr 173)), some (.inl p1), some (.inl p2)] [.inl v4] S M3 Q
    refine e_zeq hP rfl (fun hc => ?_) (fun hc => ?_)
    · have h := h.1 hc
      refine e_c hP rfl ?_
      exact e_ret hP rfl rfl h
    · have h := h.2 hc
      refine e_ld hP rfl rfl ?_
      refine e_ld hP rfl rfl ?_
      refine e_ld hP rfl rfl ?_
      refine e_call hP rfl rfl rfl (Nat.le_of_ble_eq_true rfl) (Nat.le_of_ble_eq_true rfl) (rcv0 (sh_172 hM) (by decide)) ?_
      refine Ca.mono h (fun r hr => ?_)
      obtain ⟨M5, v6, rfl, h⟩ := hr
      show En 198 12 [some (.inr (.inr 173)), some (.inl p1), some (.inl p2)] [.inl v6] S M5 Q
      refine e_go hP rfl ?_
      exact e_ret hP rfl rfl h
theorem r_X9_netOf_0 {S : Shp} {M : Mem} {Q : Res → Prop} (hM : KM S) {p1 : Int} (h : En 199 4 [some (.inr (.inr 173)), some (.inl p1), some (.inl (0 : Int)), some (.inl (0 : Int))] [] S M Q) : Ca 199 [.inr (.inr 173), .inl p1] S M Q := by
  have hP : PR 199 = (bc_199, 4) := rfl
  refine ⟨Nat.le_of_ble_eq_true rfl, ?_⟩
  show En 199 0 [some (.inr (.inr 173)), some (.inl p1), none, none] [] S M Q
  refine e_c hP rfl ?_
  refine e_st (L' := [some (.inr (.inr 173)), some (.inl p1), some (.inl (0 : Int)), none]) hP rfl rfl ?_
  refine e_c hP rfl ?_
  refine e_st (L' := [some (.inr (.inr 173)), some (.inl p1), some (.inl (0 : Int)), some (.inl (0 : Int))]) hP rfl rfl ?_
  exact h
theorem r_X9_netOf_4 {S : Shp} {M : Mem} {Q : Res → Prop} (hM : KM S) {x1 x2 x3 : Int} (h : (0 ≤ (0 : Int) ∧ (0 : Int) < 12) ∧ (((M 174 (0 : Int).toNat) ≤ x3 → Q (S, M, some (.inl x2))) ∧ (x3 < (M 174 (0 : Int).toNat) → Ca 182 [.inr (.inr 173), .inl x3, .inl x1] S M (fun r => ∃ (M2 : Mem) (v3 : Int), r = (S, M2, some (.inl v3)) ∧ Ca 182 [.inr (.inr 173), .inl x1, .inl x3] S M2 (fun r => ∃ (M4 : Mem) (v5 : Int), r = (S, M4, some (.inl v5)) ∧ (inR (v3 - v5)) ∧ (inR (x2 + (v3 - v5))) ∧ (inR (x3 + 1)) ∧ En 199 4 [some (.inr (.inr 173)), some (.inl x1), some (.inl (x2 + (v3 - v5))), some (.inl (x3 + 1))] [] S M4 Q))))) : En 199 4 [some (.inr (.inr 173)), some (.inl x1), some (.inl x2), some (.inl x3)] [] S M Q := by
  have hP : PR 199 = (bc_199, 4) := rfl
  refine e_ld hP rfl rfl ?_
  refine e_ld hP rfl rfl ?_
  refine e_gR (a := 9) (w := 175) 172 (sh_172 hM) hP rfl (by decide) rfl ?_
  refine e_c hP rfl ?_
  obtain ⟨hs1, h⟩ := h
  refine e_al 174 (sh_174 hM) hP rfl hs1 ?_
  refine e_cge hP rfl (fun hc => ?_) (fun hc => ?_)
  · have h := h.1 hc
    refine e_ld hP rfl rfl ?_
    exact e_ret hP rfl rfl h
  · have h := h.2 hc
    refine e_ld hP rfl rfl ?_
    refine e_ld hP rfl rfl ?_
    refine e_ld hP rfl rfl ?_
    refine e_ld hP rfl rfl ?_
    refine e_call hP rfl rfl rfl (Nat.le_of_ble_eq_true rfl) (Nat.le_of_ble_eq_true rfl) (rcv0 (sh_172 hM) (by decide)) ?_
    refine Ca.mono h (fun r hr => ?_)
    obtain ⟨M2, v3, rfl, h⟩ := hr
    show En 199 15 [some (.inr (.inr 173)), some (.inl x1), some (.inl x2), some (.inl x3)] [.inl v3, .inl x2] S M2 Q
    refine e_ld hP rfl rfl ?_
    refine e_ld hP rfl rfl ?_
    refine e_ld hP rfl rfl ?_
    refine e_call hP rfl rfl rfl (Nat.le_of_ble_eq_true rfl) (Nat.le_of_ble_eq_true rfl) (rcv0 (sh_172 hM) (by decide)) ?_
    refine Ca.mono h (fun r hr => ?_)
    obtain ⟨M4, v5, rfl, h⟩ := hr
    show En 199 19 [some (.inr (.inr 173)), some (.inl x1), some (.inl x2), some (.inl x3)] [.inl v5, .inl v3, .inl x2] S M4 Q
    obtain ⟨hs6, h⟩ := h
    refine e_sub hP rfl hs6 ?_
    obtain ⟨hs7, h⟩ := h
    refine e_add hP rfl hs7 ?_
    refine e_st (L' := [some (.inr (.inr 173)), some (.inl x1), some (.inl (x2 + (v3 - v5))), some (.inl x3)]) hP rfl rfl ?_
    obtain ⟨hs8, h⟩ := h
    refine e_inc (L' := [some (.inr (.inr 173)), some (.inl x1), some (.inl (x2 + (v3 - v5))), some (.inl (x3 + 1))]) hP rfl rfl hs8 rfl ?_
    refine e_go hP rfl ?_
    exact h
theorem r_X9_net_0 {S : Shp} {M : Mem} {Q : Res → Prop} (hM : KM S) {p1 : Int} (h : Ca 156 [.inr (.inr 173), .inl p1] S M (fun r => ∃ (M1 : Mem) (v2 : Int), r = (S, M1, some (.inl v2)) ∧ ((v2 = 0 → Q (S, M1, some (.inl (-1 : Int)))) ∧ (v2 ≠ 0 → Ca 199 [.inr (.inr 173), .inl p1] S M1 (fun r => ∃ (M3 : Mem) (v4 : Int), r = (S, M3, some (.inl v4)) ∧ (inR (v4 + (10000 : Int))) ∧ Q (S, M3, some (.inl (v4 + (10000 : Int))))))))) : Ca 200 [.inr (.inr 173), .inl p1] S M Q := by
  have hP : PR 200 = (bc_200, 2) := rfl
  refine ⟨Nat.le_of_ble_eq_true rfl, ?_⟩
  show En 200 0 [some (.inr (.inr 173)), some (.inl p1)] [] S M Q
  refine e_ld hP rfl rfl ?_
  refine e_ld hP rfl rfl ?_
  refine e_call hP rfl rfl rfl (Nat.le_of_ble_eq_true rfl) (Nat.le_of_ble_eq_true rfl) (rcv0 (sh_172 hM) (by decide)) ?_
  refine Ca.mono h (fun r hr => ?_)
  obtain ⟨M1, v2, rfl, h⟩ := hr
  show En 200 3 [some (.inr (.inr 173)), some (.inl p1)] [.inl v2] S M1 Q
  refine e_zeq hP rfl (fun hc => ?_) (fun hc => ?_)
  · have h := h.1 hc
    refine e_c hP rfl ?_
    exact e_ret hP rfl rfl h
  · have h := h.2 hc
    refine e_ld hP rfl rfl ?_
    refine e_ld hP rfl rfl ?_
    refine e_call hP rfl rfl rfl (Nat.le_of_ble_eq_true rfl) (Nat.le_of_ble_eq_true rfl) (rcv0 (sh_172 hM) (by decide)) ?_
    refine Ca.mono h (fun r hr => ?_)
    obtain ⟨M3, v4, rfl, h⟩ := hr
    show En 200 7 [some (.inr (.inr 173)), some (.inl p1)] [.inl v4] S M3 Q
    refine e_c hP rfl ?_
    obtain ⟨hs5, h⟩ := h
    refine e_add hP rfl hs5 ?_
    refine e_go hP rfl ?_
    exact e_ret hP rfl rfl h
theorem r_X9_chain_0 {S : Shp} {M : Mem} {Q : Res → Prop} (hM : KM S) (h : En 201 2 [some (.inr (.inr 173)), some (.inl (0 : Int)), none, none, none, none] [] S M Q) : Ca 201 [.inr (.inr 173)] S M Q := by
  have hP : PR 201 = (bc_201, 6) := rfl
  refine ⟨Nat.le_of_ble_eq_true rfl, ?_⟩
  show En 201 0 [some (.inr (.inr 173)), none, none, none, none, none] [] S M Q
  refine e_c hP rfl ?_
  refine e_st (L' := [some (.inr (.inr 173)), some (.inl (0 : Int)), none, none, none, none]) hP rfl rfl ?_
  exact h
theorem r_X9_chain_2 {S : Shp} {M : Mem} {Q : Res → Prop} (hM : KM S) {x1 : Int} (h : (((8 : Int) ≤ x1 → En 201 16 [some (.inr (.inr 173)), some (.inl (0 : Int)), some (.inl (0 : Int)), none, none, none] [] S M Q) ∧ (x1 < (8 : Int) → (0 ≤ x1 ∧ x1 < 8) ∧ (inR (x1 + 1)) ∧ En 201 2 [some (.inr (.inr 173)), some (.inl (x1 + 1)), none, none, none, none] [] S (up2 M 184 x1.toNat (0 : Int)) Q))) : En 201 2 [some (.inr (.inr 173)), some (.inl x1), none, none, none, none] [] S M Q := by
  have hP : PR 201 = (bc_201, 6) := rfl
  refine e_ld hP rfl rfl ?_
  refine e_c hP rfl ?_
  refine e_cge hP rfl (fun hc => ?_) (fun hc => ?_)
  · have h := h.1 hc
    refine e_c hP rfl ?_
    refine e_st (L' := [some (.inr (.inr 173)), some (.inl (0 : Int)), none, none, none, none]) hP rfl rfl ?_
    refine e_c hP rfl ?_
    refine e_st (L' := [some (.inr (.inr 173)), some (.inl (0 : Int)), some (.inl (0 : Int)), none, none, none]) hP rfl rfl ?_
    exact h
  · have h := h.2 hc
    refine e_ld hP rfl rfl ?_
    refine e_gR (a := 9) (w := 185) 172 (sh_172 hM) hP rfl (by decide) rfl ?_
    refine e_ld hP rfl rfl ?_
    refine e_c hP rfl ?_
    obtain ⟨hs1, h⟩ := h
    refine e_as 184 (sh_184 hM) (by decide) hP rfl hs1 ?_
    obtain ⟨hs2, h⟩ := h
    refine e_inc (L' := [some (.inr (.inr 173)), some (.inl (x1 + 1)), none, none, none, none]) hP rfl rfl hs2 rfl ?_
    refine e_go hP rfl ?_
    exact h
theorem r_X9_chain_16 {S : Shp} {M : Mem} {Q : Res → Prop} (hM : KM S) {x1 x2 : Int} (h : (0 ≤ (0 : Int) ∧ (0 : Int) < 12) ∧ (((M 174 (0 : Int).toNat) < x2 → (0 ≤ (0 : Int) ∧ (0 : Int) < 12) ∧ ((x1 < (M 174 (0 : Int).toNat) → Q (S, M, some (.inl x1))) ∧ ((M 174 (0 : Int).toNat) ≤ x1 → Q (S, M, some (.inl (-4 : Int)))))) ∧ (x2 ≤ (M 174 (0 : Int).toNat) → En 201 26 [some (.inr (.inr 173)), some (.inl (0 : Int)), some (.inl x2), some (.inl (0 : Int)), none, none] [] S M Q))) : En 201 16 [some (.inr (.inr 173)), some (.inl x1), some (.inl x2), none, none, none] [] S M Q := by
  have hP : PR 201 = (bc_201, 6) := rfl
  refine e_ld hP rfl rfl ?_
  refine e_ld hP rfl rfl ?_
  refine e_gR (a := 9) (w := 175) 172 (sh_172 hM) hP rfl (by decide) rfl ?_
  refine e_c hP rfl ?_
  obtain ⟨hs1, h⟩ := h
  refine e_al 174 (sh_174 hM) hP rfl hs1 ?_
  refine e_cgt hP rfl (fun hc => ?_) (fun hc => ?_)
  · have h := h.1 hc
    refine e_ld hP rfl rfl ?_
    refine e_ld hP rfl rfl ?_
    refine e_gR (a := 9) (w := 175) 172 (sh_172 hM) hP rfl (by decide) rfl ?_
    refine e_c hP rfl ?_
    obtain ⟨hs2, h⟩ := h
    refine e_al 174 (sh_174 hM) hP rfl hs2 ?_
    refine e_clt hP rfl (fun hc => ?_) (fun hc => ?_)
    · have h := h.1 hc
      refine e_ld hP rfl rfl ?_
      exact e_ret hP rfl rfl h
    · have h := h.2 hc
      refine e_c hP rfl ?_
      refine e_go hP rfl ?_
      exact e_ret hP rfl rfl h
  · have h := h.2 hc
    refine e_c hP rfl ?_
    refine e_st (L' := [some (.inr (.inr 173)), some (.inl (0 : Int)), some (.inl x2), none, none, none]) hP rfl rfl ?_
    refine e_c hP rfl ?_
    refine e_st (L' := [some (.inr (.inr 173)), some (.inl (0 : Int)), some (.inl x2), some (.inl (0 : Int)), none, none]) hP rfl rfl ?_
    exact h
theorem r_X9_chain_26 {S : Shp} {M : Mem} {Q : Res → Prop} (hM : KM S) {x1 x2 x3 : Int} (h : (0 ≤ (0 : Int) ∧ (0 : Int) < 12) ∧ (((M 174 (0 : Int).toNat) ≤ x3 → En 201 82 [some (.inr (.inr 173)), some (.inl x1), some (.inl x2), some (.inl (0 : Int)), none, none] [] S M Q) ∧ (x3 < (M 174 (0 : Int).toNat) → En 201 36 [some (.inr (.inr 173)), some (.inl x1), some (.inl x2), some (.inl x3), some (.inl (0 : Int)), some (.inl (0 : Int))] [] S M Q))) : En 201 26 [some (.inr (.inr 173)), some (.inl x1), some (.inl x2), some (.inl x3), none, none] [] S M Q := by
  have hP : PR 201 = (bc_201, 6) := rfl
  refine e_ld hP rfl rfl ?_
  refine e_ld hP rfl rfl ?_
  refine e_gR (a := 9) (w := 175) 172 (sh_172 hM) hP rfl (by decide) rfl ?_
  refine e_c hP rfl ?_
  obtain ⟨hs1, h⟩ := h
  refine e_al 174 (sh_174 hM) hP rfl hs1 ?_
  refine e_cge hP rfl (fun hc => ?_) (fun hc => ?_)
  · have h := h.1 hc
    refine e_c hP rfl ?_
    refine e_st (L' := [some (.inr (.inr 173)), some (.inl x1), some (.inl x2), some (.inl (0 : Int)), none, none]) hP rfl rfl ?_
    exact h
  · have h := h.2 hc
    refine e_c hP rfl ?_
    refine e_st (L' := [some (.inr (.inr 173)), some (.inl x1), some (.inl x2), some (.inl x3), some (.inl (0 : Int)), none]) hP rfl rfl ?_
    refine e_c hP rfl ?_
    refine e_st (L' := [some (.inr (.inr 173)), some (.inl x1), some (.inl x2), some (.inl x3), some (.inl (0 : Int)), some (.inl (0 : Int))]) hP rfl rfl ?_
    exact h
theorem r_X9_chain_36 {S : Shp} {M : Mem} {Q : Res → Prop} (hM : KM S) {x1 x2 x3 x4 x5 : Int} (h : (0 ≤ (0 : Int) ∧ (0 : Int) < 12) ∧ (((M 174 (0 : Int).toNat) ≤ x5 → (0 ≤ x3 ∧ x3 < 8) ∧ ((x4 ≤ x1 → (inR (x3 + 1)) ∧ En 201 26 [some (.inr (.inr 173)), some (.inl x1), some (.inl x2), some (.inl (x3 + 1)), none, none] [] S (up2 M 185 x3.toNat x4) Q) ∧ (x1 < x4 → (inR (x3 + 1)) ∧ En 201 26 [some (.inr (.inr 173)), some (.inl x4), some (.inl x2), some (.inl (x3 + 1)), none, none] [] S (up2 M 185 x3.toNat x4) Q))) ∧ (x5 < (M 174 (0 : Int).toNat) → Ca 182 [.inr (.inr 173), .inl x3, .inl x5] S M (fun r => ∃ (M5 : Mem) (v6 : Int), r = (S, M5, some (.inl v6)) ∧ ((v6 ≤ 0 → (inR (x5 + 1)) ∧ En 201 36 [some (.inr (.inr 173)), some (.inl x1), some (.inl x2), some (.inl x3), some (.inl x4), some (.inl (x5 + 1))] [] S M5 Q) ∧ (0 < v6 → (0 ≤ x5 ∧ x5 < 8) ∧ (inR ((M5 184 x5.toNat) + (1 : Int))) ∧ ((((M5 184 x5.toNat) + (1 : Int)) ≤ x4 → (inR (x5 + 1)) ∧ En 201 36 [some (.inr (.inr 173)), some (.inl x1), some (.inl x2), some (.inl x3), some (.inl x4), some (.inl (x5 + 1))] [] S M5 Q) ∧ (x4 < ((M5 184 x5.toNat) + (1 : Int)) → (0 ≤ x5 ∧ x5 < 8) ∧ (inR ((M5 184 x5.toNat) + (1 : Int))) ∧ (inR (x5 + 1)) ∧ En 201 36 [some (.inr (.inr 173)), some (.inl x1), some (.inl x2), some (.inl x3), some (.inl ((M5 184 x5.toNat) + (1 : Int))), some (.inl (x5 + 1))] [] S M5 Q)))))))) : En 201 36 [some (.inr (.inr 173)), some (.inl x1), some (.inl x2), some (.inl x3), some (.inl x4), some (.inl x5)] [] S M Q := by
  have hP : PR 201 = (bc_201, 6) := rfl
  refine e_ld hP rfl rfl ?_
  refine e_ld hP rfl rfl ?_
  refine e_gR (a := 9) (w := 175) 172 (sh_172 hM) hP rfl (by decide) rfl ?_
  refine e_c hP rfl ?_
  obtain ⟨hs1, h⟩ := h
  refine e_al 174 (sh_174 hM) hP rfl hs1 ?_
  refine e_cge hP rfl (fun hc => ?_) (fun hc => ?_)
  · have h := h.1 hc
    refine e_ld hP rfl rfl ?_
    refine e_gR (a := 9) (w := 186) 172 (sh_172 hM) hP rfl (by decide) rfl ?_
    refine e_ld hP rfl rfl ?_
    refine e_ld hP rfl rfl ?_
    obtain ⟨hs2, h⟩ := h
    refine e_as 185 (sh_185 hM) (by decide) hP rfl hs2 ?_
    refine e_ld hP rfl rfl ?_
    refine e_ld hP rfl rfl ?_
    refine e_cle hP rfl (fun hc => ?_) (fun hc => ?_)
    · have h := h.1 hc
      refine e_ld hP rfl rfl ?_
      refine e_st (L' := [some (.inr (.inr 173)), some (.inl x1), some (.inl x2), some (.inl x3), some (.inl x4), some (.inl x5)]) hP rfl rfl ?_
      obtain ⟨hs3, h⟩ := h
      refine e_inc (L' := [some (.inr (.inr 173)), some (.inl x1), some (.inl x2), some (.inl (x3 + 1)), some (.inl x4), some (.inl x5)]) hP rfl rfl hs3 rfl ?_
      refine e_go hP rfl ?_
      exact en_fg h ⟨Or.inr rfl, Or.inr rfl, Or.inr rfl, Or.inr rfl, Or.inl rfl, Or.inl rfl, trivial⟩
    · have h := h.2 hc
      refine e_ld hP rfl rfl ?_
      refine e_go hP rfl ?_
      refine e_st (L' := [some (.inr (.inr 173)), some (.inl x4), some (.inl x2), some (.inl x3), some (.inl x4), some (.inl x5)]) hP rfl rfl ?_
      obtain ⟨hs4, h⟩ := h
      refine e_inc (L' := [some (.inr (.inr 173)), some (.inl x4), some (.inl x2), some (.inl (x3 + 1)), some (.inl x4), some (.inl x5)]) hP rfl rfl hs4 rfl ?_
      refine e_go hP rfl ?_
      exact en_fg h ⟨Or.inr rfl, Or.inr rfl, Or.inr rfl, Or.inr rfl, Or.inl rfl, Or.inl rfl, trivial⟩
  · have h := h.2 hc
    refine e_ld hP rfl rfl ?_
    refine e_ld hP rfl rfl ?_
    refine e_ld hP rfl rfl ?_
    refine e_call hP rfl rfl rfl (Nat.le_of_ble_eq_true rfl) (Nat.le_of_ble_eq_true rfl) (rcv0 (sh_172 hM) (by decide)) ?_
    refine Ca.mono h (fun r hr => ?_)
    obtain ⟨M5, v6, rfl, h⟩ := hr
    show En 201 46 [some (.inr (.inr 173)), some (.inl x1), some (.inl x2), some (.inl x3), some (.inl x4), some (.inl x5)] [.inl v6] S M5 Q
    refine e_zle hP rfl (fun hc => ?_) (fun hc => ?_)
    · have h := h.1 hc
      refine e_ld hP rfl rfl ?_
      refine e_st (L' := [some (.inr (.inr 173)), some (.inl x1), some (.inl x2), some (.inl x3), some (.inl x4), some (.inl x5)]) hP rfl rfl ?_
      obtain ⟨hs7, h⟩ := h
      refine e_inc (L' := [some (.inr (.inr 173)), some (.inl x1), some (.inl x2), some (.inl x3), some (.inl x4), some (.inl (x5 + 1))]) hP rfl rfl hs7 rfl ?_
      refine e_go hP rfl ?_
      exact h
    · have h := h.2 hc
      refine e_ld hP rfl rfl ?_
      refine e_gR (a := 9) (w := 185) 172 (sh_172 hM) hP rfl (by decide) rfl ?_
      refine e_ld hP rfl rfl ?_
      obtain ⟨hs8, h⟩ := h
      refine e_al 184 (sh_184 hM) hP rfl hs8 ?_
      refine e_c hP rfl ?_
      obtain ⟨hs9, h⟩ := h
      refine e_add hP rfl hs9 ?_
      refine e_ld hP rfl rfl ?_
      refine e_cle hP rfl (fun hc => ?_) (fun hc => ?_)
      · have h := h.1 hc
        refine e_ld hP rfl rfl ?_
        refine e_st (L' := [some (.inr (.inr 173)), some (.inl x1), some (.inl x2), some (.inl x3), some (.inl x4), some (.inl x5)]) hP rfl rfl ?_
        obtain ⟨hs10, h⟩ := h
        refine e_inc (L' := [some (.inr (.inr 173)), some (.inl x1), some (.inl x2), some (.inl x3), some (.inl x4), some (.inl (x5 + 1))]) hP rfl rfl hs10 rfl ?_
        refine e_go hP rfl ?_
        exact h
      · have h := h.2 hc
        refine e_ld hP rfl rfl ?_
        refine e_gR (a := 9) (w := 185) 172 (sh_172 hM) hP rfl (by decide) rfl ?_
        refine e_ld hP rfl rfl ?_
        obtain ⟨hs11, h⟩ := h
        refine e_al 184 (sh_184 hM) hP rfl hs11 ?_
        refine e_c hP rfl ?_
        obtain ⟨hs12, h⟩ := h
        refine e_add hP rfl hs12 ?_
        refine e_go hP rfl ?_
        refine e_st (L' := [some (.inr (.inr 173)), some (.inl x1), some (.inl x2), some (.inl x3), some (.inl ((M5 184 x5.toNat) + (1 : Int))), some (.inl x5)]) hP rfl rfl ?_
        obtain ⟨hs13, h⟩ := h
        refine e_inc (L' := [some (.inr (.inr 173)), some (.inl x1), some (.inl x2), some (.inl x3), some (.inl ((M5 184 x5.toNat) + (1 : Int))), some (.inl (x5 + 1))]) hP rfl rfl hs13 rfl ?_
        refine e_go hP rfl ?_
        exact h
theorem r_X9_chain_82 {S : Shp} {M : Mem} {Q : Res → Prop} (hM : KM S) {x1 x2 x3 : Int} (h : (0 ≤ (0 : Int) ∧ (0 : Int) < 12) ∧ (((M 174 (0 : Int).toNat) ≤ x3 → (inR (x2 + 1)) ∧ En 201 16 [some (.inr (.inr 173)), some (.inl x1), some (.inl (x2 + 1)), none, none, none] [] S M Q) ∧ (x3 < (M 174 (0 : Int).toNat) → (0 ≤ x3 ∧ x3 < 8) ∧ (0 ≤ x3 ∧ x3 < 8) ∧ (inR (x3 + 1)) ∧ En 201 82 [some (.inr (.inr 173)), some (.inl x1), some (.inl x2), some (.inl (x3 + 1)), none, none] [] S (up2 M 184 x3.toNat (M 185 x3.toNat)) Q))) : En 201 82 [some (.inr (.inr 173)), some (.inl x1), some (.inl x2), some (.inl x3), none, none] [] S M Q := by
  have hP : PR 201 = (bc_201, 6) := rfl
  refine e_ld hP rfl rfl ?_
  refine e_ld hP rfl rfl ?_
  refine e_gR (a := 9) (w := 175) 172 (sh_172 hM) hP rfl (by decide) rfl ?_
  refine e_c hP rfl ?_
  obtain ⟨hs1, h⟩ := h
  refine e_al 174 (sh_174 hM) hP rfl hs1 ?_
  refine e_cge hP rfl (fun hc => ?_) (fun hc => ?_)
  · have h := h.1 hc
    obtain ⟨hs2, h⟩ := h
    refine e_inc (L' := [some (.inr (.inr 173)), some (.inl x1), some (.inl (x2 + 1)), some (.inl x3), none, none]) hP rfl rfl hs2 rfl ?_
    refine e_go hP rfl ?_
    exact en_fg h ⟨Or.inr rfl, Or.inr rfl, Or.inr rfl, Or.inl rfl, Or.inr rfl, Or.inr rfl, trivial⟩
  · have h := h.2 hc
    refine e_ld hP rfl rfl ?_
    refine e_gR (a := 9) (w := 185) 172 (sh_172 hM) hP rfl (by decide) rfl ?_
    refine e_ld hP rfl rfl ?_
    refine e_ld hP rfl rfl ?_
    refine e_gR (a := 9) (w := 186) 172 (sh_172 hM) hP rfl (by decide) rfl ?_
    refine e_ld hP rfl rfl ?_
    obtain ⟨hs3, h⟩ := h
    refine e_al 185 (sh_185 hM) hP rfl hs3 ?_
    obtain ⟨hs4, h⟩ := h
    refine e_as 184 (sh_184 hM) (by decide) hP rfl hs4 ?_
    obtain ⟨hs5, h⟩ := h
    refine e_inc (L' := [some (.inr (.inr 173)), some (.inl x1), some (.inl x2), some (.inl (x3 + 1)), none, none]) hP rfl rfl hs5 rfl ?_
    refine e_go hP rfl ?_
    exact h
theorem r_X9_payments_0 {S : Shp} {M : Mem} {Q : Res → Prop} (hM : KM S) (h : En 202 6 [some (.inr (.inr 173)), some (.inl (0 : Int)), some (.inl (0 : Int)), some (.inl (0 : Int)), none, none, none] [] S M Q) : Ca 202 [.inr (.inr 173)] S M Q := by
  have hP : PR 202 = (bc_202, 7) := rfl
  refine ⟨Nat.le_of_ble_eq_true rfl, ?_⟩
  show En 202 0 [some (.inr (.inr 173)), none, none, none, none, none, none] [] S M Q
  refine e_c hP rfl ?_
  refine e_st (L' := [some (.inr (.inr 173)), some (.inl (0 : Int)), none, none, none, none, none]) hP rfl rfl ?_
  refine e_c hP rfl ?_
  refine e_st (L' := [some (.inr (.inr 173)), some (.inl (0 : Int)), some (.inl (0 : Int)), none, none, none, none]) hP rfl rfl ?_
  refine e_c hP rfl ?_
  refine e_st (L' := [some (.inr (.inr 173)), some (.inl (0 : Int)), some (.inl (0 : Int)), some (.inl (0 : Int)), none, none, none]) hP rfl rfl ?_
  exact h
theorem r_X9_payments_6 {S : Shp} {M : Mem} {Q : Res → Prop} (hM : KM S) {x1 x2 x3 : Int} (h : (0 ≤ (0 : Int) ∧ (0 : Int) < 12) ∧ (((M 174 (0 : Int).toNat) ≤ x3 → (0 ≤ (0 : Int) ∧ (0 : Int) < 256) ∧ En 202 43 [some (.inr (.inr 173)), some (.inl x1), some (.inl x2), some (.inl (1 : Int)), none, none, none] [] S (up2 M 186 (0 : Int).toNat (0 : Int)) Q) ∧ (x3 < (M 174 (0 : Int).toNat) → Ca 199 [.inr (.inr 173), .inl x3] S M (fun r => ∃ (M3 : Mem) (v4 : Int), r = (S, M3, some (.inl v4)) ∧ ((v4 = 0 → En 202 22 [some (.inr (.inr 173)), some (.inl x1), some (.inl x2), some (.inl x3), none, none, none] [.inl (0 : Int), .inl x1] S M3 Q) ∧ (v4 ≠ 0 → (0 ≤ (1 : Int) ∧ 0 ≤ x3 ∧ x3 < 32 ∧ inR ((1 : Int) * 2 ^ x3.toNat)) ∧ En 202 22 [some (.inr (.inr 173)), some (.inl x1), some (.inl x2), some (.inl x3), none, none, none] [.inl ((1 : Int) * 2 ^ x3.toNat), .inl x1] S M3 Q)))))) : En 202 6 [some (.inr (.inr 173)), some (.inl x1), some (.inl x2), some (.inl x3), none, none, none] [] S M Q := by
  have hP : PR 202 = (bc_202, 7) := rfl
  refine e_ld hP rfl rfl ?_
  refine e_ld hP rfl rfl ?_
  refine e_gR (a := 9) (w := 175) 172 (sh_172 hM) hP rfl (by decide) rfl ?_
  refine e_c hP rfl ?_
  obtain ⟨hs1, h⟩ := h
  refine e_al 174 (sh_174 hM) hP rfl hs1 ?_
  refine e_cge hP rfl (fun hc => ?_) (fun hc => ?_)
  · have h := h.1 hc
    refine e_ld hP rfl rfl ?_
    refine e_gR (a := 9) (w := 187) 172 (sh_172 hM) hP rfl (by decide) rfl ?_
    refine e_c hP rfl ?_
    refine e_c hP rfl ?_
    obtain ⟨hs2, h⟩ := h
    refine e_as 186 (sh_186 hM) (by decide) hP rfl hs2 ?_
    refine e_c hP rfl ?_
    refine e_st (L' := [some (.inr (.inr 173)), some (.inl x1), some (.inl x2), some (.inl (1 : Int)), none, none, none]) hP rfl rfl ?_
    exact h
  · have h := h.2 hc
    refine e_ld hP rfl rfl ?_
    refine e_ld hP rfl rfl ?_
    refine e_ld hP rfl rfl ?_
    refine e_call hP rfl rfl rfl (Nat.le_of_ble_eq_true rfl) (Nat.le_of_ble_eq_true rfl) (rcv0 (sh_172 hM) (by decide)) ?_
    refine Ca.mono h (fun r hr => ?_)
    obtain ⟨M3, v4, rfl, h⟩ := hr
    show En 202 16 [some (.inr (.inr 173)), some (.inl x1), some (.inl x2), some (.inl x3), none, none, none] [.inl v4, .inl x1] S M3 Q
    refine e_zeq hP rfl (fun hc => ?_) (fun hc => ?_)
    · have h := h.1 hc
      refine e_c hP rfl ?_
      exact h
    · have h := h.2 hc
      refine e_c hP rfl ?_
      refine e_ld hP rfl rfl ?_
      obtain ⟨hs5, h⟩ := h
      refine e_shl hP rfl hs5 ?_
      refine e_go hP rfl ?_
      exact h
theorem r_X9_payments_22 {S : Shp} {M : Mem} {Q : Res → Prop} (hM : KM S) {x1 x2 x3 s0 s1 : Int} (h : (0 ≤ s1 ∧ 0 ≤ s0) ∧ Ca 199 [.inr (.inr 173), .inl x3] S M (fun r => ∃ (M2 : Mem) (v3 : Int), r = (S, M2, some (.inl v3)) ∧ ((v3 = 0 → En 202 32 [some (.inr (.inr 173)), some (.inl (((s1.toNat ||| s0.toNat : Nat) : Int))), some (.inl x2), some (.inl x3), none, none, none] [.inl (0 : Int), .inl x2] S M2 Q) ∧ (v3 ≠ 0 → En 202 32 [some (.inr (.inr 173)), some (.inl (((s1.toNat ||| s0.toNat : Nat) : Int))), some (.inl x2), some (.inl x3), none, none, none] [.inl (1 : Int), .inl x2] S M2 Q)))) : En 202 22 [some (.inr (.inr 173)), some (.inl x1), some (.inl x2), some (.inl x3), none, none, none] [.inl s0, .inl s1] S M Q := by
  have hP : PR 202 = (bc_202, 7) := rfl
  obtain ⟨hs1, h⟩ := h
  refine e_or hP rfl hs1 ?_
  refine e_st (L' := [some (.inr (.inr 173)), some (.inl (((s1.toNat ||| s0.toNat : Nat) : Int))), some (.inl x2), some (.inl x3), none, none, none]) hP rfl rfl ?_
  refine e_ld hP rfl rfl ?_
  refine e_ld hP rfl rfl ?_
  refine e_ld hP rfl rfl ?_
  refine e_call hP rfl rfl rfl (Nat.le_of_ble_eq_true rfl) (Nat.le_of_ble_eq_true rfl) (rcv0 (sh_172 hM) (by decide)) ?_
  refine Ca.mono h (fun r hr => ?_)
  obtain ⟨M2, v3, rfl, h⟩ := hr
  show En 202 28 [some (.inr (.inr 173)), some (.inl (((s1.toNat ||| s0.toNat : Nat) : Int))), some (.inl x2), some (.inl x3), none, none, none] [.inl v3, .inl x2] S M2 Q
  refine e_zeq hP rfl (fun hc => ?_) (fun hc => ?_)
  · have h := h.1 hc
    refine e_c hP rfl ?_
    exact h
  · have h := h.2 hc
    refine e_c hP rfl ?_
    refine e_go hP rfl ?_
    exact h
theorem r_X9_payments_32 {S : Shp} {M : Mem} {Q : Res → Prop} (hM : KM S) {x1 x2 x3 s0 s1 : Int} (h : (inR (s1 + s0)) ∧ (inR (x3 + 1)) ∧ En 202 6 [some (.inr (.inr 173)), some (.inl x1), some (.inl (s1 + s0)), some (.inl (x3 + 1)), none, none, none] [] S M Q) : En 202 32 [some (.inr (.inr 173)), some (.inl x1), some (.inl x2), some (.inl x3), none, none, none] [.inl s0, .inl s1] S M Q := by
  have hP : PR 202 = (bc_202, 7) := rfl
  obtain ⟨hs1, h⟩ := h
  refine e_add hP rfl hs1 ?_
  refine e_st (L' := [some (.inr (.inr 173)), some (.inl x1), some (.inl (s1 + s0)), some (.inl x3), none, none, none]) hP rfl rfl ?_
  obtain ⟨hs2, h⟩ := h
  refine e_inc (L' := [some (.inr (.inr 173)), some (.inl x1), some (.inl (s1 + s0)), some (.inl (x3 + 1)), none, none, none]) hP rfl rfl hs2 rfl ?_
  refine e_go hP rfl ?_
  exact h
theorem r_X9_payments_43 {S : Shp} {M : Mem} {Q : Res → Prop} (hM : KM S) {x1 x2 x3 : Int} (h : (0 ≤ (0 : Int) ∧ (0 : Int) < 12) ∧ (0 ≤ (1 : Int) ∧ 0 ≤ (M 174 (0 : Int).toNat) ∧ (M 174 (0 : Int).toNat) < 32 ∧ inR ((1 : Int) * 2 ^ (M 174 (0 : Int).toNat).toNat)) ∧ ((((1 : Int) * 2 ^ (M 174 (0 : Int).toNat).toNat) ≤ x3 → (0 ≤ x1 ∧ x1 < 256) ∧ (inR (x2 - (M 186 x1.toNat))) ∧ Q (S, M, some (.inl (x2 - (M 186 x1.toNat))))) ∧ (x3 < ((1 : Int) * 2 ^ (M 174 (0 : Int).toNat).toNat) → (0 ≤ x3 ∧ x3 < 256) ∧ En 202 60 [some (.inr (.inr 173)), some (.inl x1), some (.inl x2), some (.inl x3), some (.inl (0 : Int)), some (.inl (0 : Int)), none] [] S (up2 M 186 x3.toNat (0 : Int)) Q))) : En 202 43 [some (.inr (.inr 173)), some (.inl x1), some (.inl x2), some (.inl x3), none, none, none] [] S M Q := by
  have hP : PR 202 = (bc_202, 7) := rfl
  refine e_ld hP rfl rfl ?_
  refine e_c hP rfl ?_
  refine e_ld hP rfl rfl ?_
  refine e_gR (a := 9) (w := 175) 172 (sh_172 hM) hP rfl (by decide) rfl ?_
  refine e_c hP rfl ?_
  obtain ⟨hs1, h⟩ := h
  refine e_al 174 (sh_174 hM) hP rfl hs1 ?_
  obtain ⟨hs2, h⟩ := h
  refine e_shl hP rfl hs2 ?_
  refine e_cge hP rfl (fun hc => ?_) (fun hc => ?_)
  · have h := h.1 hc
    refine e_ld hP rfl rfl ?_
    refine e_ld hP rfl rfl ?_
    refine e_gR (a := 9) (w := 187) 172 (sh_172 hM) hP rfl (by decide) rfl ?_
    refine e_ld hP rfl rfl ?_
    obtain ⟨hs3, h⟩ := h
    refine e_al 186 (sh_186 hM) hP rfl hs3 ?_
    obtain ⟨hs4, h⟩ := h
    refine e_sub hP rfl hs4 ?_
    exact e_ret hP rfl rfl h
  · have h := h.2 hc
    refine e_c hP rfl ?_
    refine e_st (L' := [some (.inr (.inr 173)), some (.inl x1), some (.inl x2), some (.inl x3), some (.inl (0 : Int)), none, none]) hP rfl rfl ?_
    refine e_ld hP rfl rfl ?_
    refine e_gR (a := 9) (w := 187) 172 (sh_172 hM) hP rfl (by decide) rfl ?_
    refine e_ld hP rfl rfl ?_
    refine e_c hP rfl ?_
    obtain ⟨hs5, h⟩ := h
    refine e_as 186 (sh_186 hM) (by decide) hP rfl hs5 ?_
    refine e_c hP rfl ?_
    refine e_st (L' := [some (.inr (.inr 173)), some (.inl x1), some (.inl x2), some (.inl x3), some (.inl (0 : Int)), some (.inl (0 : Int)), none]) hP rfl rfl ?_
    exact h
theorem r_X9_payments_60 {S : Shp} {M : Mem} {Q : Res → Prop} (hM : KM S) {x1 x2 x3 x4 x5 : Int} (h : (0 ≤ (0 : Int) ∧ (0 : Int) < 12) ∧ (((M 174 (0 : Int).toNat) ≤ x5 → (0 ≤ x3 ∧ x3 < 256) ∧ ((x4 ≠ 0 → En 202 123 [some (.inr (.inr 173)), some (.inl x1), some (.inl x2), some (.inl x3), some (.inl x4), some (.inl x5), none] [.inl (M 186 x3.toNat), .inl x3, .inr (.inr 187)] S M Q) ∧ (x4 = 0 → (∃ z3 : Int, bi_bin 10 x1 (-1 : Int) = some z3 ∧ (∃ z5 : Int, bi_and x3 z3 = some z5 ∧ ((z5 ≠ 0 → En 202 123 [some (.inr (.inr 173)), some (.inl x1), some (.inl x2), some (.inl x3), some (.inl x4), some (.inl x5), none] [.inl (M 186 x3.toNat), .inl x3, .inr (.inr 187)] S M Q) ∧ (z5 = 0 → En 202 124 [some (.inr (.inr 173)), some (.inl x1), some (.inl x2), some (.inl x3), some (.inl x4), some (.inl x5), none] [.inl (1 : Int), .inl (M 186 x3.toNat), .inl x3, .inr (.inr 187)] S M Q))))))) ∧ (x5 < (M 174 (0 : Int).toNat) → (0 ≤ x3 ∧ 0 ≤ x5 ∧ x5 < 32) ∧ (∃ z8 : Int, bi_and (x3 / 2 ^ x5.toNat) (1 : Int) = some z8 ∧ ((z8 ≠ (1 : Int) → En 202 106 [some (.inr (.inr 173)), some (.inl x1), some (.inl x2), some (.inl x3), some (.inl x4), some (.inl x5), none] [] S M Q) ∧ (z8 = (1 : Int) → Ca 199 [.inr (.inr 173), .inl x5] S M (fun r => ∃ (M10 : Mem) (v11 : Int), r = (S, M10, some (.inl v11)) ∧ (inR (x4 + v11)) ∧ (0 ≤ (1 : Int) ∧ 0 ≤ x5 ∧ x5 < 32 ∧ inR ((1 : Int) * 2 ^ x5.toNat)) ∧ (∃ z14 : Int, bi_bin 10 ((1 : Int) * 2 ^ x5.toNat) (-1 : Int) = some z14 ∧ (∃ z16 : Int, bi_and x3 z14 = some z16 ∧ (0 ≤ z16 ∧ z16 < 256) ∧ (0 ≤ x3 ∧ x3 < 256) ∧ (((M10 186 z16.toNat) ≤ (M10 186 x3.toNat) → (0 ≤ x3 ∧ x3 < 256) ∧ En 202 105 [some (.inr (.inr 173)), some (.inl x1), some (.inl x2), some (.inl x3), some (.inl (x4 + v11)), some (.inl x5), some (.inl (M10 186 z16.toNat))] [.inl (M10 186 x3.toNat), .inl x3, .inr (.inr 187)] S M10 Q) ∧ ((M10 186 x3.toNat) < (M10 186 z16.toNat) → En 202 105 [some (.inr (.inr 173)), some (.inl x1), some (.inl x2), some (.inl x3), some (.inl (x4 + v11)), some (.inl x5), some (.inl (M10 186 z16.toNat))] [.inl (M10 186 z16.toNat), .inl x3, .inr (.inr 187)] S M10 Q))))))))))) : En 202 60 [some (.inr (.inr 173)), some (.inl x1), some (.inl x2), some (.inl x3), some (.inl x4), some (.inl x5), none] [] S M Q := by
  have hP : PR 202 = (bc_202, 7) := rfl
  refine e_ld hP rfl rfl ?_
  refine e_ld hP rfl rfl ?_
  refine e_gR (a := 9) (w := 175) 172 (sh_172 hM) hP rfl (by decide) rfl ?_
  refine e_c hP rfl ?_
  obtain ⟨hs1, h⟩ := h
  refine e_al 174 (sh_174 hM) hP rfl hs1 ?_
  refine e_cge hP rfl (fun hc => ?_) (fun hc => ?_)
  · have h := h.1 hc
    refine e_ld hP rfl rfl ?_
    refine e_gR (a := 9) (w := 187) 172 (sh_172 hM) hP rfl (by decide) rfl ?_
    refine e_ld hP rfl rfl ?_
    refine e_dup2 hP rfl ?_
    obtain ⟨hs2, h⟩ := h
    refine e_al 186 (sh_186 hM) hP rfl hs2 ?_
    refine e_ld hP rfl rfl ?_
    refine e_zne hP rfl (fun hc => ?_) (fun hc => ?_)
    · have h := h.1 hc
      exact h
    · have h := h.2 hc
      refine e_ld hP rfl rfl ?_
      refine e_ld hP rfl rfl ?_
      refine e_c hP rfl ?_
      obtain ⟨z3, hs4, h⟩ := h
      refine e_xor hP rfl hs4 ?_
      obtain ⟨z5, hs6, h⟩ := h
      refine e_and hP rfl hs6 ?_
      refine e_zne hP rfl (fun hc => ?_) (fun hc => ?_)
      · have h := h.1 hc
        exact h
      · have h := h.2 hc
        refine e_c hP rfl ?_
        refine e_go hP rfl ?_
        exact h
  · have h := h.2 hc
    refine e_ld hP rfl rfl ?_
    refine e_ld hP rfl rfl ?_
    obtain ⟨hs7, h⟩ := h
    refine e_shr hP rfl hs7 ?_
    refine e_c hP rfl ?_
    obtain ⟨z8, hs9, h⟩ := h
    refine e_and hP rfl hs9 ?_
    refine e_c hP rfl ?_
    refine e_cne hP rfl (fun hc => ?_) (fun hc => ?_)
    · have h := h.1 hc
      exact h
    · have h := h.2 hc
      refine e_ld hP rfl rfl ?_
      refine e_ld hP rfl rfl ?_
      refine e_ld hP rfl rfl ?_
      refine e_call hP rfl rfl rfl (Nat.le_of_ble_eq_true rfl) (Nat.le_of_ble_eq_true rfl) (rcv0 (sh_172 hM) (by decide)) ?_
      refine Ca.mono h (fun r hr => ?_)
      obtain ⟨M10, v11, rfl, h⟩ := hr
      show En 202 77 [some (.inr (.inr 173)), some (.inl x1), some (.inl x2), some (.inl x3), some (.inl x4), some (.inl x5), none] [.inl v11, .inl x4] S M10 Q
      obtain ⟨hs12, h⟩ := h
      refine e_add hP rfl hs12 ?_
      refine e_st (L' := [some (.inr (.inr 173)), some (.inl x1), some (.inl x2), some (.inl x3), some (.inl (x4 + v11)), some (.inl x5), none]) hP rfl rfl ?_
      refine e_ld hP rfl rfl ?_
      refine e_gR (a := 9) (w := 187) 172 (sh_172 hM) hP rfl (by decide) rfl ?_
      refine e_ld hP rfl rfl ?_
      refine e_c hP rfl ?_
      refine e_ld hP rfl rfl ?_
      obtain ⟨hs13, h⟩ := h
      refine e_shl hP rfl hs13 ?_
      refine e_c hP rfl ?_
      obtain ⟨z14, hs15, h⟩ := h
      refine e_xor hP rfl hs15 ?_
      obtain ⟨z16, hs17, h⟩ := h
      refine e_and hP rfl hs17 ?_
      obtain ⟨hs18, h⟩ := h
      refine e_al 186 (sh_186 hM) hP rfl hs18 ?_
      refine e_st (L' := [some (.inr (.inr 173)), some (.inl x1), some (.inl x2), some (.inl x3), some (.inl (x4 + v11)), some (.inl x5), some (.inl (M10 186 z16.toNat))]) hP rfl rfl ?_
      refine e_ld hP rfl rfl ?_
      refine e_gR (a := 9) (w := 187) 172 (sh_172 hM) hP rfl (by decide) rfl ?_
      refine e_ld hP rfl rfl ?_
      refine e_ld hP rfl rfl ?_
      refine e_ld hP rfl rfl ?_
      refine e_gR (a := 9) (w := 187) 172 (sh_172 hM) hP rfl (by decide) rfl ?_
      refine e_ld hP rfl rfl ?_
      obtain ⟨hs19, h⟩ := h
      refine e_al 186 (sh_186 hM) hP rfl hs19 ?_
      refine e_cle hP rfl (fun hc => ?_) (fun hc => ?_)
      · have h := h.1 hc
        refine e_ld hP rfl rfl ?_
        refine e_gR (a := 9) (w := 187) 172 (sh_172 hM) hP rfl (by decide) rfl ?_
        refine e_ld hP rfl rfl ?_
        obtain ⟨hs20, h⟩ := h
        refine e_al 186 (sh_186 hM) hP rfl hs20 ?_
        exact h
      · have h := h.2 hc
        refine e_ld hP rfl rfl ?_
        refine e_go hP rfl ?_
        exact h
theorem r_X9_payments_105 {S : Shp} {M : Mem} {Q : Res → Prop} (hM : KM S) {x1 x2 x3 x4 x5 x6 s0 s1 : Int} (h : (0 ≤ s1 ∧ s1 < 256) ∧ En 202 106 [some (.inr (.inr 173)), some (.inl x1), some (.inl x2), some (.inl x3), some (.inl x4), some (.inl x5), none] [] S (up2 M 186 s1.toNat s0) Q) : En 202 105 [some (.inr (.inr 173)), some (.inl x1), some (.inl x2), some (.inl x3), some (.inl x4), some (.inl x5), some (.inl x6)] [.inl s0, .inl s1, .inr (.inr 187)] S M Q := by
  have hP : PR 202 = (bc_202, 7) := rfl
  obtain ⟨hs1, h⟩ := h
  refine e_as 186 (sh_186 hM) (by decide) hP rfl hs1 ?_
  exact en_fg h ⟨Or.inr rfl, Or.inr rfl, Or.inr rfl, Or.inr rfl, Or.inr rfl, Or.inr rfl, Or.inl rfl, trivial⟩
theorem r_X9_payments_106 {S : Shp} {M : Mem} {Q : Res → Prop} (hM : KM S) {x1 x2 x3 x4 x5 : Int} (h : (inR (x5 + 1)) ∧ En 202 60 [some (.inr (.inr 173)), some (.inl x1), some (.inl x2), some (.inl x3), some (.inl x4), some (.inl (x5 + 1)), none] [] S M Q) : En 202 106 [some (.inr (.inr 173)), some (.inl x1), some (.inl x2), some (.inl x3), some (.inl x4), some (.inl x5), none] [] S M Q := by
  have hP : PR 202 = (bc_202, 7) := rfl
  obtain ⟨hs1, h⟩ := h
  refine e_inc (L' := [some (.inr (.inr 173)), some (.inl x1), some (.inl x2), some (.inl x3), some (.inl x4), some (.inl (x5 + 1)), none]) hP rfl rfl hs1 rfl ?_
  refine e_go hP rfl ?_
  exact h
theorem r_X9_payments_123 {S : Shp} {M : Mem} {Q : Res → Prop} (hM : KM S) {x1 x2 x3 x4 x5 s0 s1 : Int} (h : En 202 124 [some (.inr (.inr 173)), some (.inl x1), some (.inl x2), some (.inl x3), some (.inl x4), some (.inl x5), none] [.inl (0 : Int), .inl s0, .inl s1, .inr (.inr 187)] S M Q) : En 202 123 [some (.inr (.inr 173)), some (.inl x1), some (.inl x2), some (.inl x3), some (.inl x4), some (.inl x5), none] [.inl s0, .inl s1, .inr (.inr 187)] S M Q := by
  have hP : PR 202 = (bc_202, 7) := rfl
  refine e_c hP rfl ?_
  exact h
theorem r_X9_payments_124 {S : Shp} {M : Mem} {Q : Res → Prop} (hM : KM S) {x1 x2 x3 x4 x5 s0 s1 s2 : Int} (h : (inR (s1 + s0)) ∧ (0 ≤ s2 ∧ s2 < 256) ∧ (inR (x3 + 1)) ∧ En 202 43 [some (.inr (.inr 173)), some (.inl x1), some (.inl x2), some (.inl (x3 + 1)), none, none, none] [] S (up2 M 186 s2.toNat (s1 + s0)) Q) : En 202 124 [some (.inr (.inr 173)), some (.inl x1), some (.inl x2), some (.inl x3), some (.inl x4), some (.inl x5), none] [.inl s0, .inl s1, .inl s2, .inr (.inr 187)] S M Q := by
  have hP : PR 202 = (bc_202, 7) := rfl
  obtain ⟨hs1, h⟩ := h
  refine e_add hP rfl hs1 ?_
  obtain ⟨hs2, h⟩ := h
  refine e_as 186 (sh_186 hM) (by decide) hP rfl hs2 ?_
  obtain ⟨hs3, h⟩ := h
  refine e_inc (L' := [some (.inr (.inr 173)), some (.inl x1), some (.inl x2), some (.inl (x3 + 1)), some (.inl x4), some (.inl x5), none]) hP rfl rfl hs3 rfl ?_
  refine e_go hP rfl ?_
  exact en_fg h ⟨Or.inr rfl, Or.inr rfl, Or.inr rfl, Or.inr rfl, Or.inl rfl, Or.inl rfl, Or.inr rfl, trivial⟩
theorem r_X9_isFoe_0 {S : Shp} {M : Mem} {Q : Res → Prop} (hM : KM S) {p1 p2 : Int} (h : Ca 158 [.inr (.inr 173), .inl (0 : Int), .inl p1] S M (fun r => ∃ (M1 : Mem) (v2 : Int), r = (S, M1, some (.inl v2)) ∧ Ca 158 [.inr (.inr 173), .inl (0 : Int), .inl p2] S M1 (fun r => ∃ (M3 : Mem) (v4 : Int), r = (S, M3, some (.inl v4)) ∧ ((p1 = p2 → Q (S, M3, some (.inl (0 : Int)))) ∧ (p1 ≠ p2 → ((v2 < 0 → Q (S, M3, some (.inl (0 : Int)))) ∧ (0 ≤ v2 → ((v4 < 0 → Q (S, M3, some (.inl (0 : Int)))) ∧ (0 ≤ v4 → Ca 159 [.inr (.inr 173), .inl v2, .inl v4] S M3 (fun r => ∃ (M5 : Mem) (v6 : Int), r = (S, M5, some (.inl v6)) ∧ ((v6 = 0 → Q (S, M5, some (.inl (0 : Int)))) ∧ (v6 ≠ 0 → Q (S, M5, some (.inl (1 : Int))))))))))))))) : Ca 203 [.inr (.inr 173), .inl p1, .inl p2] S M Q := by
  have hP : PR 203 = (bc_203, 5) := rfl
  refine ⟨Nat.le_of_ble_eq_true rfl, ?_⟩
  show En 203 0 [some (.inr (.inr 173)), some (.inl p1), some (.inl p2), none, none] [] S M Q
  refine e_ld hP rfl rfl ?_
  refine e_c hP rfl ?_
  refine e_ld hP rfl rfl ?_
  refine e_call hP rfl rfl rfl (Nat.le_of_ble_eq_true rfl) (Nat.le_of_ble_eq_true rfl) (rcv0 (sh_172 hM) (by decide)) ?_
  refine Ca.mono h (fun r hr => ?_)
  obtain ⟨M1, v2, rfl, h⟩ := hr
  show En 203 4 [some (.inr (.inr 173)), some (.inl p1), some (.inl p2), none, none] [.inl v2] S M1 Q
  refine e_st (L' := [some (.inr (.inr 173)), some (.inl p1), some (.inl p2), some (.inl v2), none]) hP rfl rfl ?_
  refine e_ld hP rfl rfl ?_
  refine e_c hP rfl ?_
  refine e_ld hP rfl rfl ?_
  refine e_call hP rfl rfl rfl (Nat.le_of_ble_eq_true rfl) (Nat.le_of_ble_eq_true rfl) (rcv0 (sh_172 hM) (by decide)) ?_
  refine Ca.mono h (fun r hr => ?_)
  obtain ⟨M3, v4, rfl, h⟩ := hr
  show En 203 9 [some (.inr (.inr 173)), some (.inl p1), some (.inl p2), some (.inl v2), none] [.inl v4] S M3 Q
  refine e_st (L' := [some (.inr (.inr 173)), some (.inl p1), some (.inl p2), some (.inl v2), some (.inl v4)]) hP rfl rfl ?_
  refine e_ld hP rfl rfl ?_
  refine e_ld hP rfl rfl ?_
  refine e_ceq hP rfl (fun hc => ?_) (fun hc => ?_)
  · have h := h.1 hc
    refine e_c hP rfl ?_
    exact e_ret hP rfl rfl h
  · have h := h.2 hc
    refine e_ld hP rfl rfl ?_
    refine e_zlt hP rfl (fun hc => ?_) (fun hc => ?_)
    · have h := h.1 hc
      refine e_c hP rfl ?_
      exact e_ret hP rfl rfl h
    · have h := h.2 hc
      refine e_ld hP rfl rfl ?_
      refine e_zlt hP rfl (fun hc => ?_) (fun hc => ?_)
      · have h := h.1 hc
        refine e_c hP rfl ?_
        exact e_ret hP rfl rfl h
      · have h := h.2 hc
        refine e_ld hP rfl rfl ?_
        refine e_ld hP rfl rfl ?_
        refine e_ld hP rfl rfl ?_
        refine e_call hP rfl rfl rfl (Nat.le_of_ble_eq_true rfl) (Nat.le_of_ble_eq_true rfl) (rcv0 (sh_172 hM) (by decide)) ?_
        refine Ca.mono h (fun r hr => ?_)
        obtain ⟨M5, v6, rfl, h⟩ := hr
        show En 203 21 [some (.inr (.inr 173)), some (.inl p1), some (.inl p2), some (.inl v2), some (.inl v4)] [.inl v6] S M5 Q
        refine e_zeq hP rfl (fun hc => ?_) (fun hc => ?_)
        · have h := h.1 hc
          refine e_c hP rfl ?_
          exact e_ret hP rfl rfl h
        · have h := h.2 hc
          refine e_c hP rfl ?_
          refine e_go hP rfl ?_
          exact e_ret hP rfl rfl h
theorem r_X9_foes_0 {S : Shp} {M : Mem} {Q : Res → Prop} (hM : KM S) (h : (0 ≤ (0 : Int) ∧ (0 : Int) < 12) ∧ En 204 9 [some (.inr (.inr 173)), some (.inl (M 174 (0 : Int).toNat)), some (.inl (0 : Int)), some (.inl (0 : Int))] [] S M Q) : Ca 204 [.inr (.inr 173)] S M Q := by
  have hP : PR 204 = (bc_204, 4) := rfl
  refine ⟨Nat.le_of_ble_eq_true rfl, ?_⟩
  show En 204 0 [some (.inr (.inr 173)), none, none, none] [] S M Q
  refine e_ld hP rfl rfl ?_
  refine e_gR (a := 9) (w := 175) 172 (sh_172 hM) hP rfl (by decide) rfl ?_
  refine e_c hP rfl ?_
  obtain ⟨hs1, h⟩ := h
  refine e_al 174 (sh_174 hM) hP rfl hs1 ?_
  refine e_st (L' := [some (.inr (.inr 173)), some (.inl (M 174 (0 : Int).toNat)), none, none]) hP rfl rfl ?_
  refine e_c hP rfl ?_
  refine e_st (L' := [some (.inr (.inr 173)), some (.inl (M 174 (0 : Int).toNat)), some (.inl (0 : Int)), none]) hP rfl rfl ?_
  refine e_c hP rfl ?_
  refine e_st (L' := [some (.inr (.inr 173)), some (.inl (M 174 (0 : Int).toNat)), some (.inl (0 : Int)), some (.inl (0 : Int))]) hP rfl rfl ?_
  exact h
theorem r_X9_foes_9 {S : Shp} {M : Mem} {Q : Res → Prop} (hM : KM S) {x1 x2 x3 : Int} (h : (inR (x3 + (1 : Int))) ∧ ((x1 ≤ (x3 + (1 : Int)) → ((x1 ≤ (2 : Int) → (inR (x2 + (0 : Int))) ∧ Q (S, M, some (.inl (x2 + (0 : Int))))) ∧ ((2 : Int) < x1 → (inR (x1 - (1 : Int))) ∧ (0 ≤ (x1 - (1 : Int)) ∧ (x1 - (1 : Int)) < 8) ∧ (0 ≤ (0 : Int) ∧ (0 : Int) < 8) ∧ Ca 203 [.inr (.inr 173), .inl (M 185 (x1 - (1 : Int)).toNat), .inl (M 185 (0 : Int).toNat)] S M (fun r => ∃ (M6 : Mem) (v7 : Int), r = (S, M6, some (.inl v7)) ∧ ((v7 = 0 → (inR (x2 + (0 : Int))) ∧ Q (S, M6, some (.inl (x2 + (0 : Int))))) ∧ (v7 ≠ 0 → (inR (x2 + (1 : Int))) ∧ Q (S, M6, some (.inl (x2 + (1 : Int)))))))))) ∧ ((x3 + (1 : Int)) < x1 → (0 ≤ x3 ∧ x3 < 8) ∧ (inR (x3 + (1 : Int))) ∧ (0 ≤ (x3 + (1 : Int)) ∧ (x3 + (1 : Int)) < 8) ∧ Ca 203 [.inr (.inr 173), .inl (M 185 x3.toNat), .inl (M 185 (x3 + (1 : Int)).toNat)] S M (fun r => ∃ (M13 : Mem) (v14 : Int), r = (S, M13, some (.inl v14)) ∧ ((v14 = 0 → (inR (x2 + (0 : Int))) ∧ (inR (x3 + 1)) ∧ En 204 9 [some (.inr (.inr 173)), some (.inl x1), some (.inl (x2 + (0 : Int))), some (.inl (x3 + 1))] [] S M13 Q) ∧ (v14 ≠ 0 → (inR (x2 + (1 : Int))) ∧ (inR (x3 + 1)) ∧ En 204 9 [some (.inr (.inr 173)), some (.inl x1), some (.inl (x2 + (1 : Int))), some (.inl (x3 + 1))] [] S M13 Q)))))) : En 204 9 [some (.inr (.inr 173)), some (.inl x1), some (.inl x2), some (.inl x3)] [] S M Q := by
  have hP : PR 204 = (bc_204, 4) := rfl
  refine e_ld hP rfl rfl ?_
  refine e_c hP rfl ?_
  obtain ⟨hs1, h⟩ := h
  refine e_add hP rfl hs1 ?_
  refine e_ld hP rfl rfl ?_
  refine e_cge hP rfl (fun hc => ?_) (fun hc => ?_)
  · have h := h.1 hc
    refine e_ld hP rfl rfl ?_
    refine e_ld hP rfl rfl ?_
    refine e_c hP rfl ?_
    refine e_cle hP rfl (fun hc => ?_) (fun hc => ?_)
    · have h := h.1 hc
      refine e_c hP rfl ?_
      obtain ⟨hs2, h⟩ := h
      refine e_add hP rfl hs2 ?_
      exact e_ret hP rfl rfl h
    · have h := h.2 hc
      refine e_ld hP rfl rfl ?_
      refine e_ld hP rfl rfl ?_
      refine e_gR (a := 9) (w := 186) 172 (sh_172 hM) hP rfl (by decide) rfl ?_
      refine e_ld hP rfl rfl ?_
      refine e_c hP rfl ?_
      obtain ⟨hs3, h⟩ := h
      refine e_sub hP rfl hs3 ?_
      obtain ⟨hs4, h⟩ := h
      refine e_al 185 (sh_185 hM) hP rfl hs4 ?_
      refine e_ld hP rfl rfl ?_
      refine e_gR (a := 9) (w := 186) 172 (sh_172 hM) hP rfl (by decide) rfl ?_
      refine e_c hP rfl ?_
      obtain ⟨hs5, h⟩ := h
      refine e_al 185 (sh_185 hM) hP rfl hs5 ?_
      refine e_call hP rfl rfl rfl (Nat.le_of_ble_eq_true rfl) (Nat.le_of_ble_eq_true rfl) (rcv0 (sh_172 hM) (by decide)) ?_
      refine Ca.mono h (fun r hr => ?_)
      obtain ⟨M6, v7, rfl, h⟩ := hr
      show En 204 51 [some (.inr (.inr 173)), some (.inl x1), some (.inl x2), some (.inl x3)] [.inl v7, .inl x2] S M6 Q
      refine e_zeq hP rfl (fun hc => ?_) (fun hc => ?_)
      · have h := h.1 hc
        refine e_c hP rfl ?_
        obtain ⟨hs8, h⟩ := h
        refine e_add hP rfl hs8 ?_
        exact e_ret hP rfl rfl h
      · have h := h.2 hc
        refine e_c hP rfl ?_
        refine e_go hP rfl ?_
        obtain ⟨hs9, h⟩ := h
        refine e_add hP rfl hs9 ?_
        exact e_ret hP rfl rfl h
  · have h := h.2 hc
    refine e_ld hP rfl rfl ?_
    refine e_ld hP rfl rfl ?_
    refine e_ld hP rfl rfl ?_
    refine e_gR (a := 9) (w := 186) 172 (sh_172 hM) hP rfl (by decide) rfl ?_
    refine e_ld hP rfl rfl ?_
    obtain ⟨hs10, h⟩ := h
    refine e_al 185 (sh_185 hM) hP rfl hs10 ?_
    refine e_ld hP rfl rfl ?_
    refine e_gR (a := 9) (w := 186) 172 (sh_172 hM) hP rfl (by decide) rfl ?_
    refine e_ld hP rfl rfl ?_
    refine e_c hP rfl ?_
    obtain ⟨hs11, h⟩ := h
    refine e_add hP rfl hs11 ?_
    obtain ⟨hs12, h⟩ := h
    refine e_al 185 (sh_185 hM) hP rfl hs12 ?_
    refine e_call hP rfl rfl rfl (Nat.le_of_ble_eq_true rfl) (Nat.le_of_ble_eq_true rfl) (rcv0 (sh_172 hM) (by decide)) ?_
    refine Ca.mono h (fun r hr => ?_)
    obtain ⟨M13, v14, rfl, h⟩ := hr
    show En 204 27 [some (.inr (.inr 173)), some (.inl x1), some (.inl x2), some (.inl x3)] [.inl v14, .inl x2] S M13 Q
    refine e_zeq hP rfl (fun hc => ?_) (fun hc => ?_)
    · have h := h.1 hc
      refine e_c hP rfl ?_
      obtain ⟨hs15, h⟩ := h
      refine e_add hP rfl hs15 ?_
      refine e_st (L' := [some (.inr (.inr 173)), some (.inl x1), some (.inl (x2 + (0 : Int))), some (.inl x3)]) hP rfl rfl ?_
      obtain ⟨hs16, h⟩ := h
      refine e_inc (L' := [some (.inr (.inr 173)), some (.inl x1), some (.inl (x2 + (0 : Int))), some (.inl (x3 + 1))]) hP rfl rfl hs16 rfl ?_
      refine e_go hP rfl ?_
      exact h
    · have h := h.2 hc
      refine e_c hP rfl ?_
      refine e_go hP rfl ?_
      obtain ⟨hs17, h⟩ := h
      refine e_add hP rfl hs17 ?_
      refine e_st (L' := [some (.inr (.inr 173)), some (.inl x1), some (.inl (x2 + (1 : Int))), some (.inl x3)]) hP rfl rfl ?_
      obtain ⟨hs18, h⟩ := h
      refine e_inc (L' := [some (.inr (.inr 173)), some (.inl x1), some (.inl (x2 + (1 : Int))), some (.inl (x3 + 1))]) hP rfl rfl hs18 rfl ?_
      refine e_go hP rfl ?_
      exact h
theorem r_X9_follows_0 {S : Shp} {M : Mem} {Q : Res → Prop} (hM : KM S) (h : (0 ≤ (0 : Int) ∧ (0 : Int) < 12) ∧ (inR ((M 174 (0 : Int).toNat) - (2 : Int))) ∧ En 205 9 [some (.inr (.inr 173)), some (.inl (M 174 (0 : Int).toNat)), some (.inl ((M 174 (0 : Int).toNat) - (2 : Int))), none, none] [] S M Q) : Ca 205 [.inr (.inr 173)] S M Q := by
  have hP : PR 205 = (bc_205, 5) := rfl
  refine ⟨Nat.le_of_ble_eq_true rfl, ?_⟩
  show En 205 0 [some (.inr (.inr 173)), none, none, none, none] [] S M Q
  refine e_ld hP rfl rfl ?_
  refine e_gR (a := 9) (w := 175) 172 (sh_172 hM) hP rfl (by decide) rfl ?_
  refine e_c hP rfl ?_
  obtain ⟨hs1, h⟩ := h
  refine e_al 174 (sh_174 hM) hP rfl hs1 ?_
  refine e_st (L' := [some (.inr (.inr 173)), some (.inl (M 174 (0 : Int).toNat)), none, none, none]) hP rfl rfl ?_
  refine e_ld hP rfl rfl ?_
  refine e_c hP rfl ?_
  obtain ⟨hs2, h⟩ := h
  refine e_sub hP rfl hs2 ?_
  refine e_st (L' := [some (.inr (.inr 173)), some (.inl (M 174 (0 : Int).toNat)), some (.inl ((M 174 (0 : Int).toNat) - (2 : Int))), none, none]) hP rfl rfl ?_
  exact h
theorem r_X9_follows_9 {S : Shp} {M : Mem} {Q : Res → Prop} (hM : KM S) {x1 x2 : Int} (h : ((x2 ≤ 0 → (((1 : Int) ≤ x2 → (inR (x1 - (1 : Int))) ∧ En 205 33 [some (.inr (.inr 173)), some (.inl x1), some (.inl x2), some (.inl (x1 - (1 : Int))), none] [] S M Q) ∧ (x2 < (1 : Int) → Q (S, M, some (.inl (0 : Int)))))) ∧ (0 < x2 → (0 ≤ x2 ∧ x2 < 8) ∧ (inR (x2 + (1 : Int))) ∧ (0 ≤ (x2 + (1 : Int)) ∧ (x2 + (1 : Int)) < 8) ∧ (((M 185 x2.toNat) ≤ (M 185 (x2 + (1 : Int)).toNat) → (((1 : Int) ≤ x2 → (inR (x1 - (1 : Int))) ∧ En 205 33 [some (.inr (.inr 173)), some (.inl x1), some (.inl x2), some (.inl (x1 - (1 : Int))), none] [] S M Q) ∧ (x2 < (1 : Int) → Q (S, M, some (.inl (0 : Int)))))) ∧ ((M 185 (x2 + (1 : Int)).toNat) < (M 185 x2.toNat) → (inR (x2 + (-1))) ∧ En 205 9 [some (.inr (.inr 173)), some (.inl x1), some (.inl (x2 + (-1))), none, none] [] S M Q))))) : En 205 9 [some (.inr (.inr 173)), some (.inl x1), some (.inl x2), none, none] [] S M Q := by
  have hP : PR 205 = (bc_205, 5) := rfl
  refine e_ld hP rfl rfl ?_
  refine e_zle hP rfl (fun hc => ?_) (fun hc => ?_)
  · have h := h.1 hc
    refine e_ld hP rfl rfl ?_
    refine e_c hP rfl ?_
    refine e_cge hP rfl (fun hc => ?_) (fun hc => ?_)
    · have h := h.1 hc
      refine e_ld hP rfl rfl ?_
      refine e_c hP rfl ?_
      obtain ⟨hs1, h⟩ := h
      refine e_sub hP rfl hs1 ?_
      refine e_st (L' := [some (.inr (.inr 173)), some (.inl x1), some (.inl x2), some (.inl (x1 - (1 : Int))), none]) hP rfl rfl ?_
      exact h
    · have h := h.2 hc
      refine e_c hP rfl ?_
      exact e_ret hP rfl rfl h
  · have h := h.2 hc
    refine e_ld hP rfl rfl ?_
    refine e_gR (a := 9) (w := 186) 172 (sh_172 hM) hP rfl (by decide) rfl ?_
    refine e_ld hP rfl rfl ?_
    obtain ⟨hs2, h⟩ := h
    refine e_al 185 (sh_185 hM) hP rfl hs2 ?_
    refine e_ld hP rfl rfl ?_
    refine e_gR (a := 9) (w := 186) 172 (sh_172 hM) hP rfl (by decide) rfl ?_
    refine e_ld hP rfl rfl ?_
    refine e_c hP rfl ?_
    obtain ⟨hs3, h⟩ := h
    refine e_add hP rfl hs3 ?_
    obtain ⟨hs4, h⟩ := h
    refine e_al 185 (sh_185 hM) hP rfl hs4 ?_
    refine e_cle hP rfl (fun hc => ?_) (fun hc => ?_)
    · have h := h.1 hc
      refine e_ld hP rfl rfl ?_
      refine e_c hP rfl ?_
      refine e_cge hP rfl (fun hc => ?_) (fun hc => ?_)
      · have h := h.1 hc
        refine e_ld hP rfl rfl ?_
        refine e_c hP rfl ?_
        obtain ⟨hs5, h⟩ := h
        refine e_sub hP rfl hs5 ?_
        refine e_st (L' := [some (.inr (.inr 173)), some (.inl x1), some (.inl x2), some (.inl (x1 - (1 : Int))), none]) hP rfl rfl ?_
        exact h
      · have h := h.2 hc
        refine e_c hP rfl ?_
        exact e_ret hP rfl rfl h
    · have h := h.2 hc
      obtain ⟨hs6, h⟩ := h
      refine e_inc (L' := [some (.inr (.inr 173)), some (.inl x1), some (.inl (x2 + (-1))), none, none]) hP rfl rfl hs6 rfl ?_
      refine e_go hP rfl ?_
      exact h
theorem r_X9_follows_33 {S : Shp} {M : Mem} {Q : Res → Prop} (hM : KM S) {x1 x2 x3 : Int} (h : (0 ≤ x3 ∧ x3 < 8) ∧ (0 ≤ x2 ∧ x2 < 8) ∧ (((M 185 x2.toNat) ≤ (M 185 x3.toNat) → Ca 206 [.inr (.inr 173), .inl x2, .inl x3] S M (fun r => ∃ M3 : Mem, r = (S, M3, none) ∧ (inR (x2 + (1 : Int))) ∧ En 205 52 [some (.inr (.inr 173)), some (.inl x1), some (.inl x2), some (.inl x3), some (.inl (x2 + (1 : Int)))] [] S M3 Q)) ∧ ((M 185 x3.toNat) < (M 185 x2.toNat) → (inR (x3 + (-1))) ∧ En 205 33 [some (.inr (.inr 173)), some (.inl x1), some (.inl x2), some (.inl (x3 + (-1))), none] [] S M Q))) : En 205 33 [some (.inr (.inr 173)), some (.inl x1), some (.inl x2), some (.inl x3), none] [] S M Q := by
  have hP : PR 205 = (bc_205, 5) := rfl
  refine e_ld hP rfl rfl ?_
  refine e_gR (a := 9) (w := 186) 172 (sh_172 hM) hP rfl (by decide) rfl ?_
  refine e_ld hP rfl rfl ?_
  obtain ⟨hs1, h⟩ := h
  refine e_al 185 (sh_185 hM) hP rfl hs1 ?_
  refine e_ld hP rfl rfl ?_
  refine e_gR (a := 9) (w := 186) 172 (sh_172 hM) hP rfl (by decide) rfl ?_
  refine e_ld hP rfl rfl ?_
  obtain ⟨hs2, h⟩ := h
  refine e_al 185 (sh_185 hM) hP rfl hs2 ?_
  refine e_cge hP rfl (fun hc => ?_) (fun hc => ?_)
  · have h := h.1 hc
    refine e_ld hP rfl rfl ?_
    refine e_ld hP rfl rfl ?_
    refine e_ld hP rfl rfl ?_
    refine e_call hP rfl rfl rfl (Nat.le_of_ble_eq_true rfl) (Nat.le_of_ble_eq_true rfl) (rcv0 (sh_172 hM) (by decide)) ?_
    refine Ca.mono h (fun r hr => ?_)
    obtain ⟨M3, rfl, h⟩ := hr
    show En 205 48 [some (.inr (.inr 173)), some (.inl x1), some (.inl x2), some (.inl x3), none] [] S M3 Q
    refine e_ld hP rfl rfl ?_
    refine e_c hP rfl ?_
    obtain ⟨hs4, h⟩ := h
    refine e_add hP rfl hs4 ?_
    refine e_st (L' := [some (.inr (.inr 173)), some (.inl x1), some (.inl x2), some (.inl x3), some (.inl (x2 + (1 : Int)))]) hP rfl rfl ?_
    exact h
  · have h := h.2 hc
    obtain ⟨hs5, h⟩ := h
    refine e_inc (L' := [some (.inr (.inr 173)), some (.inl x1), some (.inl x2), some (.inl (x3 + (-1))), none]) hP rfl rfl hs5 rfl ?_
    refine e_go hP rfl ?_
    exact h
theorem r_X9_follows_52 {S : Shp} {M : Mem} {Q : Res → Prop} (hM : KM S) {x1 x2 x3 x4 : Int} (h : (inR (x1 + x2)) ∧ (inR ((x1 + x2) - x4)) ∧ ((((x1 + x2) - x4) ≤ x4 → Q (S, M, some (.inl (1 : Int)))) ∧ (x4 < ((x1 + x2) - x4) → (inR (x1 + x2)) ∧ (inR ((x1 + x2) - x4)) ∧ Ca 206 [.inr (.inr 173), .inl x4, .inl ((x1 + x2) - x4)] S M (fun r => ∃ M5 : Mem, r = (S, M5, none) ∧ (inR (x4 + 1)) ∧ En 205 52 [some (.inr (.inr 173)), some (.inl x1), some (.inl x2), some (.inl x3), some (.inl (x4 + 1))] [] S M5 Q)))) : En 205 52 [some (.inr (.inr 173)), some (.inl x1), some (.inl x2), some (.inl x3), some (.inl x4)] [] S M Q := by
  have hP : PR 205 = (bc_205, 5) := rfl
  refine e_ld hP rfl rfl ?_
  refine e_ld hP rfl rfl ?_
  refine e_ld hP rfl rfl ?_
  obtain ⟨hs1, h⟩ := h
  refine e_add hP rfl hs1 ?_
  refine e_ld hP rfl rfl ?_
  obtain ⟨hs2, h⟩ := h
  refine e_sub hP rfl hs2 ?_
  refine e_cge hP rfl (fun hc => ?_) (fun hc => ?_)
  · have h := h.1 hc
    refine e_c hP rfl ?_
    exact e_ret hP rfl rfl h
  · have h := h.2 hc
    refine e_ld hP rfl rfl ?_
    refine e_ld hP rfl rfl ?_
    refine e_ld hP rfl rfl ?_
    refine e_ld hP rfl rfl ?_
    obtain ⟨hs3, h⟩ := h
    refine e_add hP rfl hs3 ?_
    refine e_ld hP rfl rfl ?_
    obtain ⟨hs4, h⟩ := h
    refine e_sub hP rfl hs4 ?_
    refine e_call hP rfl rfl rfl (Nat.le_of_ble_eq_true rfl) (Nat.le_of_ble_eq_true rfl) (rcv0 (sh_172 hM) (by decide)) ?_
    refine Ca.mono h (fun r hr => ?_)
    obtain ⟨M5, rfl, h⟩ := hr
    show En 205 67 [some (.inr (.inr 173)), some (.inl x1), some (.inl x2), some (.inl x3), some (.inl x4)] [] S M5 Q
    obtain ⟨hs6, h⟩ := h
    refine e_inc (L' := [some (.inr (.inr 173)), some (.inl x1), some (.inl x2), some (.inl x3), some (.inl (x4 + 1))]) hP rfl rfl hs6 rfl ?_
    refine e_go hP rfl ?_
    exact h
theorem r_X9_swapsRow_0 {S : Shp} {M : Mem} {Q : Res → Prop} (hM : KM S) {p1 p2 : Int} (h : (0 ≤ p1 ∧ p1 < 8) ∧ (0 ≤ p2 ∧ p2 < 8) ∧ (0 ≤ p1 ∧ p1 < 8) ∧ (0 ≤ p2 ∧ p2 < 8) ∧ Q (S, up2 (up2 M 185 p1.toNat (M 185 p2.toNat)) 185 p2.toNat (M 185 p1.toNat), none)) : Ca 206 [.inr (.inr 173), .inl p1, .inl p2] S M Q := by
  have hP : PR 206 = (bc_206, 4) := rfl
  refine ⟨Nat.le_of_ble_eq_true rfl, ?_⟩
  show En 206 0 [some (.inr (.inr 173)), some (.inl p1), some (.inl p2), none] [] S M Q
  refine e_ld hP rfl rfl ?_
  refine e_gR (a := 9) (w := 186) 172 (sh_172 hM) hP rfl (by decide) rfl ?_
  refine e_ld hP rfl rfl ?_
  obtain ⟨hs1, h⟩ := h
  refine e_al 185 (sh_185 hM) hP rfl hs1 ?_
  refine e_st (L' := [some (.inr (.inr 173)), some (.inl p1), some (.inl p2), some (.inl (M 185 p1.toNat))]) hP rfl rfl ?_
  refine e_ld hP rfl rfl ?_
  refine e_gR (a := 9) (w := 186) 172 (sh_172 hM) hP rfl (by decide) rfl ?_
  refine e_ld hP rfl rfl ?_
  refine e_ld hP rfl rfl ?_
  refine e_gR (a := 9) (w := 186) 172 (sh_172 hM) hP rfl (by decide) rfl ?_
  refine e_ld hP rfl rfl ?_
  obtain ⟨hs2, h⟩ := h
  refine e_al 185 (sh_185 hM) hP rfl hs2 ?_
  obtain ⟨hs3, h⟩ := h
  refine e_as 185 (sh_185 hM) (by decide) hP rfl hs3 ?_
  refine e_ld hP rfl rfl ?_
  refine e_gR (a := 9) (w := 186) 172 (sh_172 hM) hP rfl (by decide) rfl ?_
  refine e_ld hP rfl rfl ?_
  refine e_ld hP rfl rfl ?_
  obtain ⟨hs4, h⟩ := h
  refine e_as 185 (sh_185 hM) (by decide) hP rfl hs4 ?_
  exact e_retv hP rfl h
theorem r_X9_seats_0 {S : Shp} {M : Mem} {Q : Res → Prop} (hM : KM S) {p1 : Int} (h : (0 ≤ (0 : Int) ∧ (0 : Int) < 12) ∧ (inR ((M 174 (0 : Int).toNat) - (1 : Int))) ∧ Ca 140 [.inr (.inl p1), .inr (.inl (-2 : Int)), .inr (.inl ((M 174 (0 : Int).toNat) - (1 : Int)))] S M (fun r => ∃ (M3 : Mem) (v4 : Int), r = (S, M3, some (.inl v4)) ∧ ((v4 ≠ 0 → En 207 16 [some (.inr (.inr 173)), some (.inl p1), some (.inl (0 : Int)), none, none, none, none] [] S M3 Q) ∧ (v4 = 0 → Q (S, M3, some (.inl (-1 : Int))))))) : Ca 207 [.inr (.inr 173), .inl p1] S M Q := by
  have hP : PR 207 = (bc_207, 7) := rfl
  refine ⟨Nat.le_of_ble_eq_true rfl, ?_⟩
  show En 207 0 [some (.inr (.inr 173)), some (.inl p1), none, none, none, none, none] [] S M Q
  refine e_ld hP rfl rfl ?_
  refine e_i2l hP rfl ?_
  refine e_lc hP rfl ?_
  refine e_ld hP rfl rfl ?_
  refine e_gR (a := 9) (w := 175) 172 (sh_172 hM) hP rfl (by decide) rfl ?_
  refine e_c hP rfl ?_
  obtain ⟨hs1, h⟩ := h
  refine e_al 174 (sh_174 hM) hP rfl hs1 ?_
  refine e_c hP rfl ?_
  obtain ⟨hs2, h⟩ := h
  refine e_sub hP rfl hs2 ?_
  refine e_i2l hP rfl ?_
  refine e_call hP rfl rfl rfl (Nat.le_of_ble_eq_true rfl) (Nat.le_of_ble_eq_true rfl) rcv1 ?_
  refine Ca.mono h (fun r hr => ?_)
  obtain ⟨M3, v4, rfl, h⟩ := hr
  show En 207 11 [some (.inr (.inr 173)), some (.inl p1), none, none, none, none, none] [.inl v4] S M3 Q
  refine e_zne hP rfl (fun hc => ?_) (fun hc => ?_)
  · have h := h.1 hc
    refine e_c hP rfl ?_
    refine e_st (L' := [some (.inr (.inr 173)), some (.inl p1), some (.inl (0 : Int)), none, none, none, none]) hP rfl rfl ?_
    exact h
  · have h := h.2 hc
    refine e_c hP rfl ?_
    exact e_ret hP rfl rfl h
theorem r_X9_seats_16 {S : Shp} {M : Mem} {Q : Res → Prop} (hM : KM S) {x1 x2 : Int} (h : (((8 : Int) ≤ x2 → En 207 32 [some (.inr (.inr 173)), some (.inl x1), some (.inl (99 : Int)), some (.inl (0 : Int)), some (.inl (1 : Int)), none, none] [] S M Q) ∧ (x2 < (8 : Int) → (0 ≤ x2 ∧ x2 < 8) ∧ (inR (x2 + 1)) ∧ En 207 16 [some (.inr (.inr 173)), some (.inl x1), some (.inl (x2 + 1)), none, none, none, none] [] S (up2 M 185 x2.toNat x2) Q))) : En 207 16 [some (.inr (.inr 173)), some (.inl x1), some (.inl x2), none, none, none, none] [] S M Q := by
  have hP : PR 207 = (bc_207, 7) := rfl
  refine e_ld hP rfl rfl ?_
  refine e_c hP rfl ?_
  refine e_cge hP rfl (fun hc => ?_) (fun hc => ?_)
  · have h := h.1 hc
    refine e_c hP rfl ?_
    refine e_st (L' := [some (.inr (.inr 173)), some (.inl x1), some (.inl (99 : Int)), none, none, none, none]) hP rfl rfl ?_
    refine e_c hP rfl ?_
    refine e_st (L' := [some (.inr (.inr 173)), some (.inl x1), some (.inl (99 : Int)), some (.inl (0 : Int)), none, none, none]) hP rfl rfl ?_
    refine e_c hP rfl ?_
    refine e_st (L' := [some (.inr (.inr 173)), some (.inl x1), some (.inl (99 : Int)), some (.inl (0 : Int)), some (.inl (1 : Int)), none, none]) hP rfl rfl ?_
    exact h
  · have h := h.2 hc
    refine e_ld hP rfl rfl ?_
    refine e_gR (a := 9) (w := 186) 172 (sh_172 hM) hP rfl (by decide) rfl ?_
    refine e_ld hP rfl rfl ?_
    refine e_ld hP rfl rfl ?_
    obtain ⟨hs1, h⟩ := h
    refine e_as 185 (sh_185 hM) (by decide) hP rfl hs1 ?_
    obtain ⟨hs2, h⟩ := h
    refine e_inc (L' := [some (.inr (.inr 173)), some (.inl x1), some (.inl (x2 + 1)), none, none, none, none]) hP rfl rfl hs2 rfl ?_
    refine e_go hP rfl ?_
    exact h
theorem r_X9_seats_32 {S : Shp} {M : Mem} {Q : Res → Prop} (hM : KM S) {x1 x2 x3 x4 : Int} (h : ((x4 = 0 → ((x1 ≠ (-1 : Int) → ((x1 ≠ (-2 : Int) → (0 ≤ x1 ∧ x1 < 8) ∧ Q (S, M, some (.inl (M 184 x1.toNat)))) ∧ (x1 = (-2 : Int) → Q (S, M, some (.inl x3))))) ∧ (x1 = (-1 : Int) → Q (S, M, some (.inl x2))))) ∧ (x4 ≠ 0 → Ca 204 [.inr (.inr 173)] S M (fun r => ∃ (M2 : Mem) (v3 : Int), r = (S, M2, some (.inl v3)) ∧ ((x2 ≤ v3 → ((v3 ≠ x2 → (inR (x3 + (0 : Int))) ∧ Ca 205 [.inr (.inr 173)] S M2 (fun r => ∃ (M5 : Mem) (v6 : Int), r = (S, M5, some (.inl v6)) ∧ En 207 32 [some (.inr (.inr 173)), some (.inl x1), some (.inl x2), some (.inl (x3 + (0 : Int))), some (.inl v6), none, none] [] S M5 Q)) ∧ (v3 = x2 → (inR (x3 + (1 : Int))) ∧ Ca 205 [.inr (.inr 173)] S M2 (fun r => ∃ (M8 : Mem) (v9 : Int), r = (S, M8, some (.inl v9)) ∧ En 207 32 [some (.inr (.inr 173)), some (.inl x1), some (.inl x2), some (.inl (x3 + (1 : Int))), some (.inl v9), none, none] [] S M8 Q)))) ∧ (v3 < x2 → En 207 46 [some (.inr (.inr 173)), some (.inl x1), some (.inl v3), some (.inl (0 : Int)), some (.inl x4), some (.inl v3), some (.inl (0 : Int))] [] S M2 Q)))))) : En 207 32 [some (.inr (.inr 173)), some (.inl x1), some (.inl x2), some (.inl x3), some (.inl x4), none, none] [] S M Q := by
  have hP : PR 207 = (bc_207, 7) := rfl
  refine e_ld hP rfl rfl ?_
  refine e_zeq hP rfl (fun hc => ?_) (fun hc => ?_)
  · have h := h.1 hc
    refine e_ld hP rfl rfl ?_
    refine e_c hP rfl ?_
    refine e_cne hP rfl (fun hc => ?_) (fun hc => ?_)
    · have h := h.1 hc
      refine e_ld hP rfl rfl ?_
      refine e_c hP rfl ?_
      refine e_cne hP rfl (fun hc => ?_) (fun hc => ?_)
      · have h := h.1 hc
        refine e_ld hP rfl rfl ?_
        refine e_gR (a := 9) (w := 185) 172 (sh_172 hM) hP rfl (by decide) rfl ?_
        refine e_ld hP rfl rfl ?_
        obtain ⟨hs1, h⟩ := h
        refine e_al 184 (sh_184 hM) hP rfl hs1 ?_
        exact e_ret hP rfl rfl h
      · have h := h.2 hc
        refine e_ld hP rfl rfl ?_
        refine e_go hP rfl ?_
        exact e_ret hP rfl rfl h
    · have h := h.2 hc
      refine e_ld hP rfl rfl ?_
      refine e_go hP rfl ?_
      exact e_ret hP rfl rfl h
  · have h := h.2 hc
    refine e_ld hP rfl rfl ?_
    refine e_call hP rfl rfl rfl (Nat.le_of_ble_eq_true rfl) (Nat.le_of_ble_eq_true rfl) (rcv0 (sh_172 hM) (by decide)) ?_
    refine Ca.mono h (fun r hr => ?_)
    obtain ⟨M2, v3, rfl, h⟩ := hr
    show En 207 36 [some (.inr (.inr 173)), some (.inl x1), some (.inl x2), some (.inl x3), some (.inl x4), none, none] [.inl v3] S M2 Q
    refine e_st (L' := [some (.inr (.inr 173)), some (.inl x1), some (.inl x2), some (.inl x3), some (.inl x4), some (.inl v3), none]) hP rfl rfl ?_
    refine e_ld hP rfl rfl ?_
    refine e_ld hP rfl rfl ?_
    refine e_cge hP rfl (fun hc => ?_) (fun hc => ?_)
    · have h := h.1 hc
      refine e_ld hP rfl rfl ?_
      refine e_ld hP rfl rfl ?_
      refine e_ld hP rfl rfl ?_
      refine e_cne hP rfl (fun hc => ?_) (fun hc => ?_)
      · have h := h.1 hc
        refine e_c hP rfl ?_
        obtain ⟨hs4, h⟩ := h
        refine e_add hP rfl hs4 ?_
        refine e_st (L' := [some (.inr (.inr 173)), some (.inl x1), some (.inl x2), some (.inl (x3 + (0 : Int))), some (.inl x4), some (.inl v3), none]) hP rfl rfl ?_
        refine e_ld hP rfl rfl ?_
        refine e_call hP rfl rfl rfl (Nat.le_of_ble_eq_true rfl) (Nat.le_of_ble_eq_true rfl) (rcv0 (sh_172 hM) (by decide)) ?_
        refine Ca.mono h (fun r hr => ?_)
        obtain ⟨M5, v6, rfl, h⟩ := hr
        show En 207 70 [some (.inr (.inr 173)), some (.inl x1), some (.inl x2), some (.inl (x3 + (0 : Int))), some (.inl x4), some (.inl v3), none] [.inl v6] S M5 Q
        refine e_st (L' := [some (.inr (.inr 173)), some (.inl x1), some (.inl x2), some (.inl (x3 + (0 : Int))), some (.inl v6), some (.inl v3), none]) hP rfl rfl ?_
        refine e_go hP rfl ?_
        exact en_fg h ⟨Or.inr rfl, Or.inr rfl, Or.inr rfl, Or.inr rfl, Or.inr rfl, Or.inl rfl, Or.inr rfl, trivial⟩
      · have h := h.2 hc
        refine e_c hP rfl ?_
        refine e_go hP rfl ?_
        obtain ⟨hs7, h⟩ := h
        refine e_add hP rfl hs7 ?_
        refine e_st (L' := [some (.inr (.inr 173)), some (.inl x1), some (.inl x2), some (.inl (x3 + (1 : Int))), some (.inl x4), some (.inl v3), none]) hP rfl rfl ?_
        refine e_ld hP rfl rfl ?_
        refine e_call hP rfl rfl rfl (Nat.le_of_ble_eq_true rfl) (Nat.le_of_ble_eq_true rfl) (rcv0 (sh_172 hM) (by decide)) ?_
        refine Ca.mono h (fun r hr => ?_)
        obtain ⟨M8, v9, rfl, h⟩ := hr
        show En 207 70 [some (.inr (.inr 173)), some (.inl x1), some (.inl x2), some (.inl (x3 + (1 : Int))), some (.inl x4), some (.inl v3), none] [.inl v9] S M8 Q
        refine e_st (L' := [some (.inr (.inr 173)), some (.inl x1), some (.inl x2), some (.inl (x3 + (1 : Int))), some (.inl v9), some (.inl v3), none]) hP rfl rfl ?_
        refine e_go hP rfl ?_
        exact en_fg h ⟨Or.inr rfl, Or.inr rfl, Or.inr rfl, Or.inr rfl, Or.inr rfl, Or.inl rfl, Or.inr rfl, trivial⟩
    · have h := h.2 hc
      refine e_ld hP rfl rfl ?_
      refine e_st (L' := [some (.inr (.inr 173)), some (.inl x1), some (.inl v3), some (.inl x3), some (.inl x4), some (.inl v3), none]) hP rfl rfl ?_
      refine e_c hP rfl ?_
      refine e_st (L' := [some (.inr (.inr 173)), some (.inl x1), some (.inl v3), some (.inl (0 : Int)), some (.inl x4), some (.inl v3), none]) hP rfl rfl ?_
      refine e_c hP rfl ?_
      refine e_st (L' := [some (.inr (.inr 173)), some (.inl x1), some (.inl v3), some (.inl (0 : Int)), some (.inl x4), some (.inl v3), some (.inl (0 : Int))]) hP rfl rfl ?_
      exact h
theorem r_X9_seats_46 {S : Shp} {M : Mem} {Q : Res → Prop} (hM : KM S) {x1 x2 x3 x4 x5 x6 : Int} (h : (((8 : Int) ≤ x6 → ((x5 ≠ x2 → (inR (x3 + (0 : Int))) ∧ Ca 205 [.inr (.inr 173)] S M (fun r => ∃ (M2 : Mem) (v3 : Int), r = (S, M2, some (.inl v3)) ∧ En 207 32 [some (.inr (.inr 173)), some (.inl x1), some (.inl x2), some (.inl (x3 + (0 : Int))), some (.inl v3), none, none] [] S M2 Q)) ∧ (x5 = x2 → (inR (x3 + (1 : Int))) ∧ Ca 205 [.inr (.inr 173)] S M (fun r => ∃ (M5 : Mem) (v6 : Int), r = (S, M5, some (.inl v6)) ∧ En 207 32 [some (.inr (.inr 173)), some (.inl x1), some (.inl x2), some (.inl (x3 + (1 : Int))), some (.inl v6), none, none] [] S M5 Q)))) ∧ (x6 < (8 : Int) → (0 ≤ x6 ∧ x6 < 8) ∧ (0 ≤ x6 ∧ x6 < 8) ∧ (inR (x6 + 1)) ∧ En 207 46 [some (.inr (.inr 173)), some (.inl x1), some (.inl x2), some (.inl x3), some (.inl x4), some (.inl x5), some (.inl (x6 + 1))] [] S (up2 M 184 x6.toNat (M 185 x6.toNat)) Q))) : En 207 46 [some (.inr (.inr 173)), some (.inl x1), some (.inl x2), some (.inl x3), some (.inl x4), some (.inl x5), some (.inl x6)] [] S M Q := by
  have hP : PR 207 = (bc_207, 7) := rfl
  refine e_ld hP rfl rfl ?_
  refine e_c hP rfl ?_
  refine e_cge hP rfl (fun hc => ?_) (fun hc => ?_)
  · have h := h.1 hc
    refine e_ld hP rfl rfl ?_
    refine e_ld hP rfl rfl ?_
    refine e_ld hP rfl rfl ?_
    refine e_cne hP rfl (fun hc => ?_) (fun hc => ?_)
    · have h := h.1 hc
      refine e_c hP rfl ?_
      obtain ⟨hs1, h⟩ := h
      refine e_add hP rfl hs1 ?_
      refine e_st (L' := [some (.inr (.inr 173)), some (.inl x1), some (.inl x2), some (.inl (x3 + (0 : Int))), some (.inl x4), some (.inl x5), some (.inl x6)]) hP rfl rfl ?_
      refine e_ld hP rfl rfl ?_
      refine e_call hP rfl rfl rfl (Nat.le_of_ble_eq_true rfl) (Nat.le_of_ble_eq_true rfl) (rcv0 (sh_172 hM) (by decide)) ?_
      refine Ca.mono h (fun r hr => ?_)
      obtain ⟨M2, v3, rfl, h⟩ := hr
      show En 207 70 [some (.inr (.inr 173)), some (.inl x1), some (.inl x2), some (.inl (x3 + (0 : Int))), some (.inl x4), some (.inl x5), some (.inl x6)] [.inl v3] S M2 Q
      refine e_st (L' := [some (.inr (.inr 173)), some (.inl x1), some (.inl x2), some (.inl (x3 + (0 : Int))), some (.inl v3), some (.inl x5), some (.inl x6)]) hP rfl rfl ?_
      refine e_go hP rfl ?_
      exact en_fg h ⟨Or.inr rfl, Or.inr rfl, Or.inr rfl, Or.inr rfl, Or.inr rfl, Or.inl rfl, Or.inl rfl, trivial⟩
    · have h := h.2 hc
      refine e_c hP rfl ?_
      refine e_go hP rfl ?_
      obtain ⟨hs4, h⟩ := h
      refine e_add hP rfl hs4 ?_
      refine e_st (L' := [some (.inr (.inr 173)), some (.inl x1), some (.inl x2), some (.inl (x3 + (1 : Int))), some (.inl x4), some (.inl x5), some (.inl x6)]) hP rfl rfl ?_
      refine e_ld hP rfl rfl ?_
      refine e_call hP rfl rfl rfl (Nat.le_of_ble_eq_true rfl) (Nat.le_of_ble_eq_true rfl) (rcv0 (sh_172 hM) (by decide)) ?_
      refine Ca.mono h (fun r hr => ?_)
      obtain ⟨M5, v6, rfl, h⟩ := hr
      show En 207 70 [some (.inr (.inr 173)), some (.inl x1), some (.inl x2), some (.inl (x3 + (1 : Int))), some (.inl x4), some (.inl x5), some (.inl x6)] [.inl v6] S M5 Q
      refine e_st (L' := [some (.inr (.inr 173)), some (.inl x1), some (.inl x2), some (.inl (x3 + (1 : Int))), some (.inl v6), some (.inl x5), some (.inl x6)]) hP rfl rfl ?_
      refine e_go hP rfl ?_
      exact en_fg h ⟨Or.inr rfl, Or.inr rfl, Or.inr rfl, Or.inr rfl, Or.inr rfl, Or.inl rfl, Or.inl rfl, trivial⟩
  · have h := h.2 hc
    refine e_ld hP rfl rfl ?_
    refine e_gR (a := 9) (w := 185) 172 (sh_172 hM) hP rfl (by decide) rfl ?_
    refine e_ld hP rfl rfl ?_
    refine e_ld hP rfl rfl ?_
    refine e_gR (a := 9) (w := 186) 172 (sh_172 hM) hP rfl (by decide) rfl ?_
    refine e_ld hP rfl rfl ?_
    obtain ⟨hs7, h⟩ := h
    refine e_al 185 (sh_185 hM) hP rfl hs7 ?_
    obtain ⟨hs8, h⟩ := h
    refine e_as 184 (sh_184 hM) (by decide) hP rfl hs8 ?_
    obtain ⟨hs9, h⟩ := h
    refine e_inc (L' := [some (.inr (.inr 173)), some (.inl x1), some (.inl x2), some (.inl x3), some (.inl x4), some (.inl x5), some (.inl (x6 + 1))]) hP rfl rfl hs9 rfl ?_
    refine e_go hP rfl ?_
    exact h
theorem r_X9_bestSwap_0 {S : Shp} {M : Mem} {Q : Res → Prop} (hM : KM S) {p1 : Int} (h : Ca 140 [.inr (.inl p1), .inr (.inl (0 : Int)), .inr (.inl (1 : Int))] S M (fun r => ∃ (M1 : Mem) (v2 : Int), r = (S, M1, some (.inl v2)) ∧ ((v2 ≠ 0 → Ca 164 [.inr (.inr 173), .inl (0 : Int)] S M1 (fun r => ∃ (M3 : Mem) (v4 : Int), r = (S, M3, some (.inl v4)) ∧ En 208 18 [some (.inr (.inr 173)), some (.inl p1), some (.inl v4), some (.inl (-4 : Int)), some (.inl (0 : Int)), some (.inl (0 : Int)), none, none] [] S M3 Q)) ∧ (v2 = 0 → Q (S, M1, some (.inl (-1 : Int))))))) : Ca 208 [.inr (.inr 173), .inl p1] S M Q := by
  have hP : PR 208 = (bc_208, 8) := rfl
  refine ⟨Nat.le_of_ble_eq_true rfl, ?_⟩
  show En 208 0 [some (.inr (.inr 173)), some (.inl p1), none, none, none, none, none, none] [] S M Q
  refine e_ld hP rfl rfl ?_
  refine e_i2l hP rfl ?_
  refine e_lc hP rfl ?_
  refine e_lc hP rfl ?_
  refine e_call hP rfl rfl rfl (Nat.le_of_ble_eq_true rfl) (Nat.le_of_ble_eq_true rfl) rcv1 ?_
  refine Ca.mono h (fun r hr => ?_)
  obtain ⟨M1, v2, rfl, h⟩ := hr
  show En 208 5 [some (.inr (.inr 173)), some (.inl p1), none, none, none, none, none, none] [.inl v2] S M1 Q
  refine e_zne hP rfl (fun hc => ?_) (fun hc => ?_)
  · have h := h.1 hc
    refine e_ld hP rfl rfl ?_
    refine e_c hP rfl ?_
    refine e_call hP rfl rfl rfl (Nat.le_of_ble_eq_true rfl) (Nat.le_of_ble_eq_true rfl) (rcv0 (sh_172 hM) (by decide)) ?_
    refine Ca.mono h (fun r hr => ?_)
    obtain ⟨M3, v4, rfl, h⟩ := hr
    show En 208 11 [some (.inr (.inr 173)), some (.inl p1), none, none, none, none, none, none] [.inl v4] S M3 Q
    refine e_st (L' := [some (.inr (.inr 173)), some (.inl p1), some (.inl v4), none, none, none, none, none]) hP rfl rfl ?_
    refine e_c hP rfl ?_
    refine e_st (L' := [some (.inr (.inr 173)), some (.inl p1), some (.inl v4), some (.inl (-4 : Int)), none, none, none, none]) hP rfl rfl ?_
    refine e_c hP rfl ?_
    refine e_st (L' := [some (.inr (.inr 173)), some (.inl p1), some (.inl v4), some (.inl (-4 : Int)), some (.inl (0 : Int)), none, none, none]) hP rfl rfl ?_
    refine e_c hP rfl ?_
    refine e_st (L' := [some (.inr (.inr 173)), some (.inl p1), some (.inl v4), some (.inl (-4 : Int)), some (.inl (0 : Int)), some (.inl (0 : Int)), none, none]) hP rfl rfl ?_
    exact h
  · have h := h.2 hc
    refine e_c hP rfl ?_
    exact e_ret hP rfl rfl h
theorem r_X9_bestSwap_18 {S : Shp} {M : Mem} {Q : Res → Prop} (hM : KM S) {x1 x2 x3 x4 x5 : Int} (h : (0 ≤ (0 : Int) ∧ (0 : Int) < 12) ∧ (((M 174 (0 : Int).toNat) ≤ x5 → En 208 44 [some (.inr (.inr 173)), some (.inl x1), some (.inl x2), some (.inl x3), some (.inl x4), some (.inl (0 : Int)), none, none] [] S M Q) ∧ (x5 < (M 174 (0 : Int).toNat) → Ca 158 [.inr (.inr 173), .inl (0 : Int), .inl x5] S M (fun r => ∃ (M2 : Mem) (v3 : Int), r = (S, M2, some (.inl v3)) ∧ ((0 ≤ v3 → Ca 158 [.inr (.inr 173), .inl (0 : Int), .inl x5] S M2 (fun r => ∃ (M4 : Mem) (v5 : Int), r = (S, M4, some (.inl v5)) ∧ (0 ≤ (1 : Int) ∧ 0 ≤ v5 ∧ v5 < 32 ∧ inR ((1 : Int) * 2 ^ v5.toNat)) ∧ (0 ≤ x4 ∧ 0 ≤ ((1 : Int) * 2 ^ v5.toNat)) ∧ (inR (x5 + 1)) ∧ En 208 18 [some (.inr (.inr 173)), some (.inl x1), some (.inl x2), some (.inl x3), some (.inl (((x4.toNat ||| ((1 : Int) * 2 ^ v5.toNat).toNat : Nat) : Int))), some (.inl (x5 + 1)), none, none] [] S M4 Q)) ∧ (v3 < 0 → (0 ≤ x4 ∧ 0 ≤ (0 : Int)) ∧ (inR (x5 + 1)) ∧ En 208 18 [some (.inr (.inr 173)), some (.inl x1), some (.inl x2), some (.inl x3), some (.inl (((x4.toNat ||| (0 : Int).toNat : Nat) : Int))), some (.inl (x5 + 1)), none, none] [] S M2 Q)))))) : En 208 18 [some (.inr (.inr 173)), some (.inl x1), some (.inl x2), some (.inl x3), some (.inl x4), some (.inl x5), none, none] [] S M Q := by
  have hP : PR 208 = (bc_208, 8) := rfl
  refine e_ld hP rfl rfl ?_
  refine e_ld hP rfl rfl ?_
  refine e_gR (a := 9) (w := 175) 172 (sh_172 hM) hP rfl (by decide) rfl ?_
  refine e_c hP rfl ?_
  obtain ⟨hs1, h⟩ := h
  refine e_al 174 (sh_174 hM) hP rfl hs1 ?_
  refine e_cge hP rfl (fun hc => ?_) (fun hc => ?_)
  · have h := h.1 hc
    refine e_c hP rfl ?_
    refine e_st (L' := [some (.inr (.inr 173)), some (.inl x1), some (.inl x2), some (.inl x3), some (.inl x4), some (.inl (0 : Int)), none, none]) hP rfl rfl ?_
    exact h
  · have h := h.2 hc
    refine e_ld hP rfl rfl ?_
    refine e_ld hP rfl rfl ?_
    refine e_c hP rfl ?_
    refine e_ld hP rfl rfl ?_
    refine e_call hP rfl rfl rfl (Nat.le_of_ble_eq_true rfl) (Nat.le_of_ble_eq_true rfl) (rcv0 (sh_172 hM) (by decide)) ?_
    refine Ca.mono h (fun r hr => ?_)
    obtain ⟨M2, v3, rfl, h⟩ := hr
    show En 208 29 [some (.inr (.inr 173)), some (.inl x1), some (.inl x2), some (.inl x3), some (.inl x4), some (.inl x5), none, none] [.inl v3, .inl x4] S M2 Q
    refine e_zge hP rfl (fun hc => ?_) (fun hc => ?_)
    · have h := h.1 hc
      refine e_c hP rfl ?_
      refine e_ld hP rfl rfl ?_
      refine e_c hP rfl ?_
      refine e_ld hP rfl rfl ?_
      refine e_call hP rfl rfl rfl (Nat.le_of_ble_eq_true rfl) (Nat.le_of_ble_eq_true rfl) (rcv0 (sh_172 hM) (by decide)) ?_
      refine Ca.mono h (fun r hr => ?_)
      obtain ⟨M4, v5, rfl, h⟩ := hr
      show En 208 37 [some (.inr (.inr 173)), some (.inl x1), some (.inl x2), some (.inl x3), some (.inl x4), some (.inl x5), none, none] [.inl v5, .inl (1 : Int), .inl x4] S M4 Q
      obtain ⟨hs6, h⟩ := h
      refine e_shl hP rfl hs6 ?_
      obtain ⟨hs7, h⟩ := h
      refine e_or hP rfl hs7 ?_
      refine e_st (L' := [some (.inr (.inr 173)), some (.inl x1), some (.inl x2), some (.inl x3), some (.inl (((x4.toNat ||| ((1 : Int) * 2 ^ v5.toNat).toNat : Nat) : Int))), some (.inl x5), none, none]) hP rfl rfl ?_
      obtain ⟨hs8, h⟩ := h
      refine e_inc (L' := [some (.inr (.inr 173)), some (.inl x1), some (.inl x2), some (.inl x3), some (.inl (((x4.toNat ||| ((1 : Int) * 2 ^ v5.toNat).toNat : Nat) : Int))), some (.inl (x5 + 1)), none, none]) hP rfl rfl hs8 rfl ?_
      refine e_go hP rfl ?_
      exact h
    · have h := h.2 hc
      refine e_c hP rfl ?_
      refine e_go hP rfl ?_
      obtain ⟨hs9, h⟩ := h
      refine e_or hP rfl hs9 ?_
      refine e_st (L' := [some (.inr (.inr 173)), some (.inl x1), some (.inl x2), some (.inl x3), some (.inl (((x4.toNat ||| (0 : Int).toNat : Nat) : Int))), some (.inl x5), none, none]) hP rfl rfl ?_
      obtain ⟨hs10, h⟩ := h
      refine e_inc (L' := [some (.inr (.inr 173)), some (.inl x1), some (.inl x2), some (.inl x3), some (.inl (((x4.toNat ||| (0 : Int).toNat : Nat) : Int))), some (.inl (x5 + 1)), none, none]) hP rfl rfl hs10 rfl ?_
      refine e_go hP rfl ?_
      exact h
theorem r_X9_bestSwap_44 {S : Shp} {M : Mem} {Q : Res → Prop} (hM : KM S) {x1 x2 x3 x4 x5 : Int} (h : (((26 : Int) ≤ x5 → ((x3 < 0 → Q (S, M, some (.inl x3))) ∧ (0 ≤ x3 → ((x1 ≠ 0 → Q (S, M, some (.inl x2))) ∧ (x1 = 0 → Q (S, M, some (.inl x3))))))) ∧ (x5 < (26 : Int) → (inR (x5 + (1 : Int))) ∧ En 208 51 [some (.inr (.inr 173)), some (.inl x1), some (.inl x2), some (.inl x3), some (.inl x4), some (.inl x5), some (.inl (x5 + (1 : Int))), none] [] S M Q))) : En 208 44 [some (.inr (.inr 173)), some (.inl x1), some (.inl x2), some (.inl x3), some (.inl x4), some (.inl x5), none, none] [] S M Q := by
  have hP : PR 208 = (bc_208, 8) := rfl
  refine e_ld hP rfl rfl ?_
  refine e_c hP rfl ?_
  refine e_cge hP rfl (fun hc => ?_) (fun hc => ?_)
  · have h := h.1 hc
    refine e_ld hP rfl rfl ?_
    refine e_zlt hP rfl (fun hc => ?_) (fun hc => ?_)
    · have h := h.1 hc
      refine e_ld hP rfl rfl ?_
      refine e_go hP rfl ?_
      exact e_ret hP rfl rfl h
    · have h := h.2 hc
      refine e_ld hP rfl rfl ?_
      refine e_zne hP rfl (fun hc => ?_) (fun hc => ?_)
      · have h := h.1 hc
        refine e_ld hP rfl rfl ?_
        exact e_ret hP rfl rfl h
      · have h := h.2 hc
        refine e_ld hP rfl rfl ?_
        refine e_go hP rfl ?_
        exact e_ret hP rfl rfl h
  · have h := h.2 hc
    refine e_ld hP rfl rfl ?_
    refine e_c hP rfl ?_
    obtain ⟨hs1, h⟩ := h
    refine e_add hP rfl hs1 ?_
    refine e_st (L' := [some (.inr (.inr 173)), some (.inl x1), some (.inl x2), some (.inl x3), some (.inl x4), some (.inl x5), some (.inl (x5 + (1 : Int))), none]) hP rfl rfl ?_
    exact h
theorem r_X9_bestSwap_51 {S : Shp} {M : Mem} {Q : Res → Prop} (hM : KM S) {x1 x2 x3 x4 x5 x6 : Int} (h : (((26 : Int) ≤ x6 → (inR (x5 + 1)) ∧ En 208 44 [some (.inr (.inr 173)), some (.inl x1), some (.inl x2), some (.inl x3), some (.inl x4), some (.inl (x5 + 1)), none, none] [] S M Q) ∧ (x6 < (26 : Int) → (0 ≤ x4 ∧ 0 ≤ x5 ∧ x5 < 32) ∧ (∃ z3 : Int, bi_and (x4 / 2 ^ x5.toNat) (1 : Int) = some z3 ∧ ((z3 ≠ (1 : Int) → (inR (x6 + 1)) ∧ En 208 51 [some (.inr (.inr 173)), some (.inl x1), some (.inl x2), some (.inl x3), some (.inl x4), some (.inl x5), some (.inl (x6 + 1)), none] [] S M Q) ∧ (z3 = (1 : Int) → (0 ≤ x4 ∧ 0 ≤ x6 ∧ x6 < 32) ∧ (∃ z7 : Int, bi_and (x4 / 2 ^ x6.toNat) (1 : Int) = some z7 ∧ ((z7 ≠ (1 : Int) → (inR (x6 + 1)) ∧ En 208 51 [some (.inr (.inr 173)), some (.inl x1), some (.inl x2), some (.inl x3), some (.inl x4), some (.inl x5), some (.inl (x6 + 1)), none] [] S M Q) ∧ (z7 = (1 : Int) → Ca 170 [.inr (.inr 173), .inl (0 : Int), .inl (11 : Int)] S M (fun r => ∃ M10 : Mem, r = (S, M10, none) ∧ Ca 185 [.inr (.inr 173), .inl (11 : Int), .inl x5, .inl x6] S M10 (fun r => ∃ M11 : Mem, r = (S, M11, none) ∧ Ca 164 [.inr (.inr 173), .inl (11 : Int)] S M11 (fun r => ∃ (M12 : Mem) (v13 : Int), r = (S, M12, some (.inl v13)) ∧ ((v13 ≤ x2 → ((v13 ≤ x2 → (inR (x6 + 1)) ∧ En 208 51 [some (.inr (.inr 173)), some (.inl x1), some (.inl x2), some (.inl x3), some (.inl x4), some (.inl x5), some (.inl (x6 + 1)), none] [] S M12 Q) ∧ (x2 < v13 → (inR (x6 + 1)) ∧ En 208 51 [some (.inr (.inr 173)), some (.inl x1), some (.inl v13), some (.inl x3), some (.inl x4), some (.inl x5), some (.inl (x6 + 1)), none] [] S M12 Q))) ∧ (x2 < v13 → (inR ((26 : Int) * x5)) ∧ (inR (((26 : Int) * x5) + x6)) ∧ ((v13 ≤ x2 → (inR (x6 + 1)) ∧ En 208 51 [some (.inr (.inr 173)), some (.inl x1), some (.inl x2), some (.inl (((26 : Int) * x5) + x6)), some (.inl x4), some (.inl x5), some (.inl (x6 + 1)), none] [] S M12 Q) ∧ (x2 < v13 → (inR (x6 + 1)) ∧ En 208 51 [some (.inr (.inr 173)), some (.inl x1), some (.inl v13), some (.inl (((26 : Int) * x5) + x6)), some (.inl x4), some (.inl x5), some (.inl (x6 + 1)), none] [] S M12 Q)))))))))))))))) : En 208 51 [some (.inr (.inr 173)), some (.inl x1), some (.inl x2), some (.inl x3), some (.inl x4), some (.inl x5), some (.inl x6), none] [] S M Q := by
  have hP : PR 208 = (bc_208, 8) := rfl
  refine e_ld hP rfl rfl ?_
  refine e_c hP rfl ?_
  refine e_cge hP rfl (fun hc => ?_) (fun hc => ?_)
  · have h := h.1 hc
    obtain ⟨hs1, h⟩ := h
    refine e_inc (L' := [some (.inr (.inr 173)), some (.inl x1), some (.inl x2), some (.inl x3), some (.inl x4), some (.inl (x5 + 1)), some (.inl x6), none]) hP rfl rfl hs1 rfl ?_
    refine e_go hP rfl ?_
    exact en_fg h ⟨Or.inr rfl, Or.inr rfl, Or.inr rfl, Or.inr rfl, Or.inr rfl, Or.inr rfl, Or.inl rfl, Or.inr rfl, trivial⟩
  · have h := h.2 hc
    refine e_ld hP rfl rfl ?_
    refine e_ld hP rfl rfl ?_
    obtain ⟨hs2, h⟩ := h
    refine e_shr hP rfl hs2 ?_
    refine e_c hP rfl ?_
    obtain ⟨z3, hs4, h⟩ := h
    refine e_and hP rfl hs4 ?_
    refine e_c hP rfl ?_
    refine e_cne hP rfl (fun hc => ?_) (fun hc => ?_)
    · have h := h.1 hc
      obtain ⟨hs5, h⟩ := h
      refine e_inc (L' := [some (.inr (.inr 173)), some (.inl x1), some (.inl x2), some (.inl x3), some (.inl x4), some (.inl x5), some (.inl (x6 + 1)), none]) hP rfl rfl hs5 rfl ?_
      refine e_go hP rfl ?_
      exact h
    · have h := h.2 hc
      refine e_ld hP rfl rfl ?_
      refine e_ld hP rfl rfl ?_
      obtain ⟨hs6, h⟩ := h
      refine e_shr hP rfl hs6 ?_
      refine e_c hP rfl ?_
      obtain ⟨z7, hs8, h⟩ := h
      refine e_and hP rfl hs8 ?_
      refine e_c hP rfl ?_
      refine e_cne hP rfl (fun hc => ?_) (fun hc => ?_)
      · have h := h.1 hc
        obtain ⟨hs9, h⟩ := h
        refine e_inc (L' := [some (.inr (.inr 173)), some (.inl x1), some (.inl x2), some (.inl x3), some (.inl x4), some (.inl x5), some (.inl (x6 + 1)), none]) hP rfl rfl hs9 rfl ?_
        refine e_go hP rfl ?_
        exact h
      · have h := h.2 hc
        refine e_ld hP rfl rfl ?_
        refine e_c hP rfl ?_
        refine e_c hP rfl ?_
        refine e_call hP rfl rfl rfl (Nat.le_of_ble_eq_true rfl) (Nat.le_of_ble_eq_true rfl) (rcv0 (sh_172 hM) (by decide)) ?_
        refine Ca.mono h (fun r hr => ?_)
        obtain ⟨M10, rfl, h⟩ := hr
        show En 208 72 [some (.inr (.inr 173)), some (.inl x1), some (.inl x2), some (.inl x3), some (.inl x4), some (.inl x5), some (.inl x6), none] [] S M10 Q
        refine e_ld hP rfl rfl ?_
        refine e_c hP rfl ?_
        refine e_ld hP rfl rfl ?_
        refine e_ld hP rfl rfl ?_
        refine e_call hP rfl rfl rfl (Nat.le_of_ble_eq_true rfl) (Nat.le_of_ble_eq_true rfl) (rcv0 (sh_172 hM) (by decide)) ?_
        refine Ca.mono h (fun r hr => ?_)
        obtain ⟨M11, rfl, h⟩ := hr
        show En 208 77 [some (.inr (.inr 173)), some (.inl x1), some (.inl x2), some (.inl x3), some (.inl x4), some (.inl x5), some (.inl x6), none] [] S M11 Q
        refine e_ld hP rfl rfl ?_
        refine e_c hP rfl ?_
        refine e_call hP rfl rfl rfl (Nat.le_of_ble_eq_true rfl) (Nat.le_of_ble_eq_true rfl) (rcv0 (sh_172 hM) (by decide)) ?_
        refine Ca.mono h (fun r hr => ?_)
        obtain ⟨M12, v13, rfl, h⟩ := hr
        show En 208 80 [some (.inr (.inr 173)), some (.inl x1), some (.inl x2), some (.inl x3), some (.inl x4), some (.inl x5), some (.inl x6), none] [.inl v13] S M12 Q
        refine e_st (L' := [some (.inr (.inr 173)), some (.inl x1), some (.inl x2), some (.inl x3), some (.inl x4), some (.inl x5), some (.inl x6), some (.inl v13)]) hP rfl rfl ?_
        refine e_ld hP rfl rfl ?_
        refine e_ld hP rfl rfl ?_
        refine e_cle hP rfl (fun hc => ?_) (fun hc => ?_)
        · have h := h.1 hc
          refine e_ld hP rfl rfl ?_
          refine e_st (L' := [some (.inr (.inr 173)), some (.inl x1), some (.inl x2), some (.inl x3), some (.inl x4), some (.inl x5), some (.inl x6), some (.inl v13)]) hP rfl rfl ?_
          refine e_ld hP rfl rfl ?_
          refine e_ld hP rfl rfl ?_
          refine e_cle hP rfl (fun hc => ?_) (fun hc => ?_)
          · have h := h.1 hc
            refine e_ld hP rfl rfl ?_
            refine e_st (L' := [some (.inr (.inr 173)), some (.inl x1), some (.inl x2), some (.inl x3), some (.inl x4), some (.inl x5), some (.inl x6), some (.inl v13)]) hP rfl rfl ?_
            obtain ⟨hs14, h⟩ := h
            refine e_inc (L' := [some (.inr (.inr 173)), some (.inl x1), some (.inl x2), some (.inl x3), some (.inl x4), some (.inl x5), some (.inl (x6 + 1)), some (.inl v13)]) hP rfl rfl hs14 rfl ?_
            refine e_go hP rfl ?_
            exact en_fg h ⟨Or.inr rfl, Or.inr rfl, Or.inr rfl, Or.inr rfl, Or.inr rfl, Or.inr rfl, Or.inr rfl, Or.inl rfl, trivial⟩
          · have h := h.2 hc
            refine e_ld hP rfl rfl ?_
            refine e_go hP rfl ?_
            refine e_st (L' := [some (.inr (.inr 173)), some (.inl x1), some (.inl v13), some (.inl x3), some (.inl x4), some (.inl x5), some (.inl x6), some (.inl v13)]) hP rfl rfl ?_
            obtain ⟨hs15, h⟩ := h
            refine e_inc (L' := [some (.inr (.inr 173)), some (.inl x1), some (.inl v13), some (.inl x3), some (.inl x4), some (.inl x5), some (.inl (x6 + 1)), some (.inl v13)]) hP rfl rfl hs15 rfl ?_
            refine e_go hP rfl ?_
            exact en_fg h ⟨Or.inr rfl, Or.inr rfl, Or.inr rfl, Or.inr rfl, Or.inr rfl, Or.inr rfl, Or.inr rfl, Or.inl rfl, trivial⟩
        · have h := h.2 hc
          refine e_c hP rfl ?_
          refine e_ld hP rfl rfl ?_
          obtain ⟨hs16, h⟩ := h
          refine e_mul hP rfl hs16 ?_
          refine e_ld hP rfl rfl ?_
          obtain ⟨hs17, h⟩ := h
          refine e_add hP rfl hs17 ?_
          refine e_go hP rfl ?_
          refine e_st (L' := [some (.inr (.inr 173)), some (.inl x1), some (.inl x2), some (.inl (((26 : Int) * x5) + x6)), some (.inl x4), some (.inl x5), some (.inl x6), some (.inl v13)]) hP rfl rfl ?_
          refine e_ld hP rfl rfl ?_
          refine e_ld hP rfl rfl ?_
          refine e_cle hP rfl (fun hc => ?_) (fun hc => ?_)
          · have h := h.1 hc
            refine e_ld hP rfl rfl ?_
            refine e_st (L' := [some (.inr (.inr 173)), some (.inl x1), some (.inl x2), some (.inl (((26 : Int) * x5) + x6)), some (.inl x4), some (.inl x5), some (.inl x6), some (.inl v13)]) hP rfl rfl ?_
            obtain ⟨hs18, h⟩ := h
            refine e_inc (L' := [some (.inr (.inr 173)), some (.inl x1), some (.inl x2), some (.inl (((26 : Int) * x5) + x6)), some (.inl x4), some (.inl x5), some (.inl (x6 + 1)), some (.inl v13)]) hP rfl rfl hs18 rfl ?_
            refine e_go hP rfl ?_
            exact en_fg h ⟨Or.inr rfl, Or.inr rfl, Or.inr rfl, Or.inr rfl, Or.inr rfl, Or.inr rfl, Or.inr rfl, Or.inl rfl, trivial⟩
          · have h := h.2 hc
            refine e_ld hP rfl rfl ?_
            refine e_go hP rfl ?_
            refine e_st (L' := [some (.inr (.inr 173)), some (.inl x1), some (.inl v13), some (.inl (((26 : Int) * x5) + x6)), some (.inl x4), some (.inl x5), some (.inl x6), some (.inl v13)]) hP rfl rfl ?_
            obtain ⟨hs19, h⟩ := h
            refine e_inc (L' := [some (.inr (.inr 173)), some (.inl x1), some (.inl v13), some (.inl (((26 : Int) * x5) + x6)), some (.inl x4), some (.inl x5), some (.inl (x6 + 1)), some (.inl v13)]) hP rfl rfl hs19 rfl ?_
            refine e_go hP rfl ?_
            exact en_fg h ⟨Or.inr rfl, Or.inr rfl, Or.inr rfl, Or.inr rfl, Or.inr rfl, Or.inr rfl, Or.inr rfl, Or.inl rfl, trivial⟩
theorem r_X9_enter_0 {S : Shp} {M : Mem} {Q : Res → Prop} (hM : KM S) {p1 p2 : Int} (h : Ca 157 [.inl p1] S M (fun r => ∃ (M1 : Mem) (v2 : Int), r = (S, M1, some (.inl v2)) ∧ ((v2 = 0 → Q (S, M1, some (.inl (-1 : Int)))) ∧ (v2 ≠ 0 → Ca 140 [.inr (.inl p2), .inr (.inl (0 : Int)), .inr (.inl (9 : Int))] S M1 (fun r => ∃ (M3 : Mem) (v4 : Int), r = (S, M3, some (.inl v4)) ∧ ((v4 ≠ 0 → (((M3 172 14) ≠ (8 : Int) → (inR ((2 : Int) * (M3 172 14))) ∧ (0 ≤ ((2 : Int) * (M3 172 14)) ∧ ((2 : Int) * (M3 172 14)) < 16) ∧ (inR ((2 : Int) * ((up2 M3 182 ((2 : Int) * (M3 172 14)).toNat p1) 172 14))) ∧ (inR (((2 : Int) * ((up2 M3 182 ((2 : Int) * (M3 172 14)).toNat p1) 172 14)) + (1 : Int))) ∧ (0 ≤ (((2 : Int) * ((up2 M3 182 ((2 : Int) * (M3 172 14)).toNat p1) 172 14)) + (1 : Int)) ∧ (((2 : Int) * ((up2 M3 182 ((2 : Int) * (M3 172 14)).toNat p1) 172 14)) + (1 : Int)) < 16) ∧ (inR (((up2 (up2 M3 182 ((2 : Int) * (M3 172 14)).toNat p1) 182 (((2 : Int) * ((up2 M3 182 ((2 : Int) * (M3 172 14)).toNat p1) 172 14)) + (1 : Int)).toNat p2) 172 14) + (1 : Int))) ∧ Q (S, up2 (up2 (up2 M3 182 ((2 : Int) * (M3 172 14)).toNat p1) 182 (((2 : Int) * ((up2 M3 182 ((2 : Int) * (M3 172 14)).toNat p1) 172 14)) + (1 : Int)).toNat p2) 172 14 (((up2 (up2 M3 182 ((2 : Int) * (M3 172 14)).toNat p1) 182 (((2 : Int) * ((up2 M3 182 ((2 : Int) * (M3 172 14)).toNat p1) 172 14)) + (1 : Int)).toNat p2) 172 14) + (1 : Int)), some (.inl ((up2 (up2 (up2 M3 182 ((2 : Int) * (M3 172 14)).toNat p1) 182 (((2 : Int) * ((up2 M3 182 ((2 : Int) * (M3 172 14)).toNat p1) 172 14)) + (1 : Int)).toNat p2) 172 14 (((up2 (up2 M3 182 ((2 : Int) * (M3 172 14)).toNat p1) 182 (((2 : Int) * ((up2 M3 182 ((2 : Int) * (M3 172 14)).toNat p1) 172 14)) + (1 : Int)).toNat p2) 172 14) + (1 : Int))) 172 14)))) ∧ ((M3 172 14) = (8 : Int) → Q (S, M3, some (.inl (-3 : Int)))))) ∧ (v4 = 0 → Q (S, M3, some (.inl (-1 : Int)))))))))) : Ca 209 [.inr (.inr 173), .inl p1, .inl p2] S M Q := by
  have hP : PR 209 = (bc_209, 3) := rfl
  refine ⟨Nat.le_of_ble_eq_true rfl, ?_⟩
  show En 209 0 [some (.inr (.inr 173)), some (.inl p1), some (.inl p2)] [] S M Q
  refine e_ld hP rfl rfl ?_
  refine e_call hP rfl rfl rfl (Nat.le_of_ble_eq_true rfl) (Nat.le_of_ble_eq_true rfl) rcv1 ?_
  refine Ca.mono h (fun r hr => ?_)
  obtain ⟨M1, v2, rfl, h⟩ := hr
  show En 209 2 [some (.inr (.inr 173)), some (.inl p1), some (.inl p2)] [.inl v2] S M1 Q
  refine e_zeq hP rfl (fun hc => ?_) (fun hc => ?_)
  · have h := h.1 hc
    refine e_c hP rfl ?_
    exact e_ret hP rfl rfl h
  · have h := h.2 hc
    refine e_ld hP rfl rfl ?_
    refine e_i2l hP rfl ?_
    refine e_lc hP rfl ?_
    refine e_lc hP rfl ?_
    refine e_call hP rfl rfl rfl (Nat.le_of_ble_eq_true rfl) (Nat.le_of_ble_eq_true rfl) rcv1 ?_
    refine Ca.mono h (fun r hr => ?_)
    obtain ⟨M3, v4, rfl, h⟩ := hr
    show En 209 8 [some (.inr (.inr 173)), some (.inl p1), some (.inl p2)] [.inl v4] S M3 Q
    refine e_zne hP rfl (fun hc => ?_) (fun hc => ?_)
    · have h := h.1 hc
      refine e_ld hP rfl rfl ?_
      refine e_gI (a := 9) 172 (sh_172 hM) hP rfl (by decide) ?_
      refine e_c hP rfl ?_
      refine e_cne hP rfl (fun hc => ?_) (fun hc => ?_)
      · have h := h.1 hc
        refine e_ld hP rfl rfl ?_
        refine e_gR (a := 9) (w := 183) 172 (sh_172 hM) hP rfl (by decide) rfl ?_
        refine e_c hP rfl ?_
        refine e_ld hP rfl rfl ?_
        refine e_gI (a := 9) 172 (sh_172 hM) hP rfl (by decide) ?_
        obtain ⟨hs5, h⟩ := h
        refine e_mul hP rfl hs5 ?_
        refine e_ld hP rfl rfl ?_
        obtain ⟨hs6, h⟩ := h
        refine e_as 182 (sh_182 hM) (by decide) hP rfl hs6 ?_
        refine e_ld hP rfl rfl ?_
        refine e_gR (a := 9) (w := 183) 172 (sh_172 hM) hP rfl (by decide) rfl ?_
        refine e_c hP rfl ?_
        refine e_ld hP rfl rfl ?_
        refine e_gI (a := 9) 172 (sh_172 hM) hP rfl (by decide) ?_
        obtain ⟨hs7, h⟩ := h
        refine e_mul hP rfl hs7 ?_
        refine e_c hP rfl ?_
        obtain ⟨hs8, h⟩ := h
        refine e_add hP rfl hs8 ?_
        refine e_ld hP rfl rfl ?_
        obtain ⟨hs9, h⟩ := h
        refine e_as 182 (sh_182 hM) (by decide) hP rfl hs9 ?_
        refine e_ld hP rfl rfl ?_
        refine e_dupR hP rfl ?_
        refine e_gI (a := 9) 172 (sh_172 hM) hP rfl (by decide) ?_
        refine e_c hP rfl ?_
        obtain ⟨hs10, h⟩ := h
        refine e_add hP rfl hs10 ?_
        refine e_pI (a := 9) 172 (sh_172 hM) (by decide) hP rfl (by decide) ?_
        refine e_ld hP rfl rfl ?_
        refine e_gI (a := 9) 172 (sh_172 hM) hP rfl (by decide) ?_
        exact e_ret hP rfl rfl h
      · have h := h.2 hc
        refine e_c hP rfl ?_
        exact e_ret hP rfl rfl h
    · have h := h.2 hc
      refine e_c hP rfl ?_
      exact e_ret hP rfl rfl h
theorem r_X9_close_0 {S : Shp} {M : Mem} {Q : Res → Prop} (hM : KM S) (h : Q (S, up2 M 172 14 (0 : Int), some (.inl (M 172 14)))) : Ca 210 [.inr (.inr 173)] S M Q := by
  have hP : PR 210 = (bc_210, 2) := rfl
  refine ⟨Nat.le_of_ble_eq_true rfl, ?_⟩
  show En 210 0 [some (.inr (.inr 173)), none] [] S M Q
  refine e_ld hP rfl rfl ?_
  refine e_gI (a := 9) 172 (sh_172 hM) hP rfl (by decide) ?_
  refine e_st (L' := [some (.inr (.inr 173)), some (.inl (M 172 14))]) hP rfl rfl ?_
  refine e_ld hP rfl rfl ?_
  refine e_c hP rfl ?_
  refine e_pI (a := 9) 172 (sh_172 hM) (by decide) hP rfl (by decide) ?_
  refine e_ld hP rfl rfl ?_
  exact e_ret hP rfl rfl h
theorem r_X9_ways_0 {S : Shp} {M : Mem} {Q : Res → Prop} (hM : KM S) {p1 : Int} (h : Ca 164 [.inr (.inr 173), .inl (0 : Int)] S M (fun r => ∃ (M1 : Mem) (v2 : Int), r = (S, M1, some (.inl v2)) ∧ (inR (v2 - v2)) ∧ En 211 15 [some (.inr (.inr 173)), some (.inl p1), some (.inl v2), some (.inl (0 : Int)), some (.inl (0 : Int)), some (.inl (0 : Int))] [] S (up2 M1 172 20 (v2 - v2)) Q)) : Ca 211 [.inr (.inr 173), .inl p1] S M Q := by
  have hP : PR 211 = (bc_211, 6) := rfl
  refine ⟨Nat.le_of_ble_eq_true rfl, ?_⟩
  show En 211 0 [some (.inr (.inr 173)), some (.inl p1), none, none, none, none] [] S M Q
  refine e_ld hP rfl rfl ?_
  refine e_c hP rfl ?_
  refine e_call hP rfl rfl rfl (Nat.le_of_ble_eq_true rfl) (Nat.le_of_ble_eq_true rfl) (rcv0 (sh_172 hM) (by decide)) ?_
  refine Ca.mono h (fun r hr => ?_)
  obtain ⟨M1, v2, rfl, h⟩ := hr
  show En 211 3 [some (.inr (.inr 173)), some (.inl p1), none, none, none, none] [.inl v2] S M1 Q
  refine e_st (L' := [some (.inr (.inr 173)), some (.inl p1), some (.inl v2), none, none, none]) hP rfl rfl ?_
  refine e_ld hP rfl rfl ?_
  refine e_ld hP rfl rfl ?_
  refine e_ld hP rfl rfl ?_
  obtain ⟨hs3, h⟩ := h
  refine e_sub hP rfl hs3 ?_
  refine e_pI (a := 9) 172 (sh_172 hM) (by decide) hP rfl (by decide) ?_
  refine e_c hP rfl ?_
  refine e_st (L' := [some (.inr (.inr 173)), some (.inl p1), some (.inl v2), some (.inl (0 : Int)), none, none]) hP rfl rfl ?_
  refine e_c hP rfl ?_
  refine e_st (L' := [some (.inr (.inr 173)), some (.inl p1), some (.inl v2), some (.inl (0 : Int)), some (.inl (0 : Int)), none]) hP rfl rfl ?_
  refine e_c hP rfl ?_
  refine e_st (L' := [some (.inr (.inr 173)), some (.inl p1), some (.inl v2), some (.inl (0 : Int)), some (.inl (0 : Int)), some (.inl (0 : Int))]) hP rfl rfl ?_
  exact h
theorem r_X9_ways_15 {S : Shp} {M : Mem} {Q : Res → Prop} (hM : KM S) {x1 x2 x3 x4 x5 : Int} (h : (((8 : Int) ≤ x5 → En 211 25 [some (.inr (.inr 173)), some (.inl x1), some (.inl x2), some (.inl x3), some (.inl x4), some (.inl x5)] [] S M Q) ∧ (x5 < (8 : Int) → (0 ≤ x5 ∧ x5 < 8) ∧ (inR (x5 + 1)) ∧ En 211 15 [some (.inr (.inr 173)), some (.inl x1), some (.inl x2), some (.inl x3), some (.inl x4), some (.inl (x5 + 1))] [] S (up2 M 185 x5.toNat (-1 : Int)) Q))) : En 211 15 [some (.inr (.inr 173)), some (.inl x1), some (.inl x2), some (.inl x3), some (.inl x4), some (.inl x5)] [] S M Q := by
  have hP : PR 211 = (bc_211, 6) := rfl
  refine e_ld hP rfl rfl ?_
  refine e_c hP rfl ?_
  refine e_cge hP rfl (fun hc => ?_) (fun hc => ?_)
  · have h := h.1 hc
    exact h
  · have h := h.2 hc
    refine e_ld hP rfl rfl ?_
    refine e_gR (a := 9) (w := 186) 172 (sh_172 hM) hP rfl (by decide) rfl ?_
    refine e_ld hP rfl rfl ?_
    refine e_c hP rfl ?_
    obtain ⟨hs1, h⟩ := h
    refine e_as 185 (sh_185 hM) (by decide) hP rfl hs1 ?_
    obtain ⟨hs2, h⟩ := h
    refine e_inc (L' := [some (.inr (.inr 173)), some (.inl x1), some (.inl x2), some (.inl x3), some (.inl x4), some (.inl (x5 + 1))]) hP rfl rfl hs2 rfl ?_
    refine e_go hP rfl ?_
    exact h
theorem r_X9_ways_25 {S : Shp} {M : Mem} {Q : Res → Prop} (hM : KM S) {x1 x2 x3 x4 x5 : Int} (h : ((x4 < 0 → Q (S, M, some (.inl x3))) ∧ (0 ≤ x4 → ((x4 ≠ (M 172 14) → Ca 212 [.inr (.inr 173), .inl x4] S M (fun r => ∃ (M1 : Mem) (v2 : Int), r = (S, M1, some (.inl v2)) ∧ ((v2 = 0 → (0 ≤ x4 ∧ x4 < 8) ∧ (inR (x4 + (-1))) ∧ En 211 25 [some (.inr (.inr 173)), some (.inl x1), some (.inl x2), some (.inl x3), some (.inl (x4 + (-1))), some (.inl x5)] [] S (up2 M1 185 x4.toNat (-1 : Int)) Q) ∧ (v2 ≠ 0 → (inR (x4 + 1)) ∧ En 211 25 [some (.inr (.inr 173)), some (.inl x1), some (.inl x2), some (.inl x3), some (.inl (x4 + 1)), some (.inl x5)] [] S M1 Q)))) ∧ (x4 = (M 172 14) → (inR (x3 + 1)) ∧ ((x1 < 0 → (0 ≤ (M 172 20) ∧ 0 ≤ (0 : Int)) ∧ (inR (x4 + (-1))) ∧ En 211 25 [some (.inr (.inr 173)), some (.inl x1), some (.inl x2), some (.inl (x3 + 1)), some (.inl (x4 + (-1))), some (.inl x5)] [] S (up2 M 172 20 ((((M 172 20).toNat ||| (0 : Int).toNat : Nat) : Int))) Q) ∧ (0 ≤ x1 → (0 ≤ x1 ∧ x1 < 8) ∧ (0 ≤ (1 : Int) ∧ 0 ≤ (M 185 x1.toNat) ∧ (M 185 x1.toNat) < 32 ∧ inR ((1 : Int) * 2 ^ (M 185 x1.toNat).toNat)) ∧ (0 ≤ (M 172 20) ∧ 0 ≤ ((1 : Int) * 2 ^ (M 185 x1.toNat).toNat)) ∧ (inR (x4 + (-1))) ∧ En 211 25 [some (.inr (.inr 173)), some (.inl x1), some (.inl x2), some (.inl (x3 + 1)), some (.inl (x4 + (-1))), some (.inl x5)] [] S (up2 M 172 20 ((((M 172 20).toNat ||| ((1 : Int) * 2 ^ (M 185 x1.toNat).toNat).toNat : Nat) : Int))) Q))))))) : En 211 25 [some (.inr (.inr 173)), some (.inl x1), some (.inl x2), some (.inl x3), some (.inl x4), some (.inl x5)] [] S M Q := by
  have hP : PR 211 = (bc_211, 6) := rfl
  refine e_ld hP rfl rfl ?_
  refine e_zlt hP rfl (fun hc => ?_) (fun hc => ?_)
  · have h := h.1 hc
    refine e_ld hP rfl rfl ?_
    exact e_ret hP rfl rfl h
  · have h := h.2 hc
    refine e_ld hP rfl rfl ?_
    refine e_ld hP rfl rfl ?_
    refine e_gI (a := 9) 172 (sh_172 hM) hP rfl (by decide) ?_
    refine e_cne hP rfl (fun hc => ?_) (fun hc => ?_)
    · have h := h.1 hc
      refine e_ld hP rfl rfl ?_
      refine e_ld hP rfl rfl ?_
      refine e_call hP rfl rfl rfl (Nat.le_of_ble_eq_true rfl) (Nat.le_of_ble_eq_true rfl) (rcv0 (sh_172 hM) (by decide)) ?_
      refine Ca.mono h (fun r hr => ?_)
      obtain ⟨M1, v2, rfl, h⟩ := hr
      show En 211 52 [some (.inr (.inr 173)), some (.inl x1), some (.inl x2), some (.inl x3), some (.inl x4), some (.inl x5)] [.inl v2] S M1 Q
      refine e_zeq hP rfl (fun hc => ?_) (fun hc => ?_)
      · have h := h.1 hc
        refine e_ld hP rfl rfl ?_
        refine e_gR (a := 9) (w := 186) 172 (sh_172 hM) hP rfl (by decide) rfl ?_
        refine e_ld hP rfl rfl ?_
        refine e_c hP rfl ?_
        obtain ⟨hs3, h⟩ := h
        refine e_as 185 (sh_185 hM) (by decide) hP rfl hs3 ?_
        obtain ⟨hs4, h⟩ := h
        refine e_inc (L' := [some (.inr (.inr 173)), some (.inl x1), some (.inl x2), some (.inl x3), some (.inl (x4 + (-1))), some (.inl x5)]) hP rfl rfl hs4 rfl ?_
        refine e_go hP rfl ?_
        exact h
      · have h := h.2 hc
        obtain ⟨hs5, h⟩ := h
        refine e_inc (L' := [some (.inr (.inr 173)), some (.inl x1), some (.inl x2), some (.inl x3), some (.inl (x4 + 1)), some (.inl x5)]) hP rfl rfl hs5 rfl ?_
        refine e_go hP rfl ?_
        exact h
    · have h := h.2 hc
      obtain ⟨hs6, h⟩ := h
      refine e_inc (L' := [some (.inr (.inr 173)), some (.inl x1), some (.inl x2), some (.inl (x3 + 1)), some (.inl x4), some (.inl x5)]) hP rfl rfl hs6 rfl ?_
      refine e_ld hP rfl rfl ?_
      refine e_dupR hP rfl ?_
      refine e_gI (a := 9) 172 (sh_172 hM) hP rfl (by decide) ?_
      refine e_ld hP rfl rfl ?_
      refine e_zlt hP rfl (fun hc => ?_) (fun hc => ?_)
      · have h := h.1 hc
        refine e_c hP rfl ?_
        obtain ⟨hs7, h⟩ := h
        refine e_or hP rfl hs7 ?_
        refine e_pI (a := 9) 172 (sh_172 hM) (by decide) hP rfl (by decide) ?_
        obtain ⟨hs8, h⟩ := h
        refine e_inc (L' := [some (.inr (.inr 173)), some (.inl x1), some (.inl x2), some (.inl (x3 + 1)), some (.inl (x4 + (-1))), some (.inl x5)]) hP rfl rfl hs8 rfl ?_
        refine e_go hP rfl ?_
        exact h
      · have h := h.2 hc
        refine e_c hP rfl ?_
        refine e_ld hP rfl rfl ?_
        refine e_gR (a := 9) (w := 186) 172 (sh_172 hM) hP rfl (by decide) rfl ?_
        refine e_ld hP rfl rfl ?_
        obtain ⟨hs9, h⟩ := h
        refine e_al 185 (sh_185 hM) hP rfl hs9 ?_
        obtain ⟨hs10, h⟩ := h
        refine e_shl hP rfl hs10 ?_
        refine e_go hP rfl ?_
        obtain ⟨hs11, h⟩ := h
        refine e_or hP rfl hs11 ?_
        refine e_pI (a := 9) 172 (sh_172 hM) (by decide) hP rfl (by decide) ?_
        obtain ⟨hs12, h⟩ := h
        refine e_inc (L' := [some (.inr (.inr 173)), some (.inl x1), some (.inl x2), some (.inl (x3 + 1)), some (.inl (x4 + (-1))), some (.inl x5)]) hP rfl rfl hs12 rfl ?_
        refine e_go hP rfl ?_
        exact h
theorem r_X9_isNext_0 {S : Shp} {M : Mem} {Q : Res → Prop} (hM : KM S) {p1 : Int} (h : (0 ≤ p1 ∧ p1 < 8) ∧ (inR ((M 185 p1.toNat) + (1 : Int))) ∧ En 212 7 [some (.inr (.inr 173)), some (.inl p1), some (.inl ((M 185 p1.toNat) + (1 : Int))), none, none] [] S M Q) : Ca 212 [.inr (.inr 173), .inl p1] S M Q := by
  have hP : PR 212 = (bc_212, 5) := rfl
  refine ⟨Nat.le_of_ble_eq_true rfl, ?_⟩
  show En 212 0 [some (.inr (.inr 173)), some (.inl p1), none, none, none] [] S M Q
  refine e_ld hP rfl rfl ?_
  refine e_gR (a := 9) (w := 186) 172 (sh_172 hM) hP rfl (by decide) rfl ?_
  refine e_ld hP rfl rfl ?_
  obtain ⟨hs1, h⟩ := h
  refine e_al 185 (sh_185 hM) hP rfl hs1 ?_
  refine e_c hP rfl ?_
  obtain ⟨hs2, h⟩ := h
  refine e_add hP rfl hs2 ?_
  refine e_st (L' := [some (.inr (.inr 173)), some (.inl p1), some (.inl ((M 185 p1.toNat) + (1 : Int))), none, none]) hP rfl rfl ?_
  exact h
theorem r_X9_isNext_7 {S : Shp} {M : Mem} {Q : Res → Prop} (hM : KM S) {x1 x2 : Int} (h : (0 ≤ (0 : Int) ∧ (0 : Int) < 12) ∧ (((M 174 (0 : Int).toNat) ≤ x2 → Q (S, M, some (.inl (0 : Int)))) ∧ (x2 < (M 174 (0 : Int).toNat) → Ca 158 [.inr (.inr 173), .inl (0 : Int), .inl x2] S M (fun r => ∃ (M2 : Mem) (v3 : Int), r = (S, M2, some (.inl v3)) ∧ (inR ((2 : Int) * x1)) ∧ (0 ≤ ((2 : Int) * x1) ∧ ((2 : Int) * x1) < 16) ∧ ((v3 ≠ (M2 182 ((2 : Int) * x1).toNat) → En 212 43 [some (.inr (.inr 173)), some (.inl x1), some (.inl x2), some (.inl (0 : Int)), some (.inl (0 : Int))] [] S M2 Q) ∧ (v3 = (M2 182 ((2 : Int) * x1).toNat) → (0 ≤ x2 ∧ x2 < 8) ∧ (inR ((2 : Int) * x1)) ∧ (inR (((2 : Int) * x1) + (1 : Int))) ∧ (0 ≤ (((2 : Int) * x1) + (1 : Int)) ∧ (((2 : Int) * x1) + (1 : Int)) < 16) ∧ (((M2 183 x2.toNat) ≠ (M2 182 (((2 : Int) * x1) + (1 : Int)).toNat) → En 212 43 [some (.inr (.inr 173)), some (.inl x1), some (.inl x2), some (.inl (0 : Int)), some (.inl (0 : Int))] [] S M2 Q) ∧ ((M2 183 x2.toNat) = (M2 182 (((2 : Int) * x1) + (1 : Int)).toNat) → En 212 43 [some (.inr (.inr 173)), some (.inl x1), some (.inl x2), some (.inl (1 : Int)), some (.inl (0 : Int))] [] S M2 Q)))))))) : En 212 7 [some (.inr (.inr 173)), some (.inl x1), some (.inl x2), none, none] [] S M Q := by
  have hP : PR 212 = (bc_212, 5) := rfl
  refine e_ld hP rfl rfl ?_
  refine e_ld hP rfl rfl ?_
  refine e_gR (a := 9) (w := 175) 172 (sh_172 hM) hP rfl (by decide) rfl ?_
  refine e_c hP rfl ?_
  obtain ⟨hs1, h⟩ := h
  refine e_al 174 (sh_174 hM) hP rfl hs1 ?_
  refine e_cge hP rfl (fun hc => ?_) (fun hc => ?_)
  · have h := h.1 hc
    refine e_c hP rfl ?_
    exact e_ret hP rfl rfl h
  · have h := h.2 hc
    refine e_ld hP rfl rfl ?_
    refine e_c hP rfl ?_
    refine e_ld hP rfl rfl ?_
    refine e_call hP rfl rfl rfl (Nat.le_of_ble_eq_true rfl) (Nat.le_of_ble_eq_true rfl) (rcv0 (sh_172 hM) (by decide)) ?_
    refine Ca.mono h (fun r hr => ?_)
    obtain ⟨M2, v3, rfl, h⟩ := hr
    show En 212 17 [some (.inr (.inr 173)), some (.inl x1), some (.inl x2), none, none] [.inl v3] S M2 Q
    refine e_ld hP rfl rfl ?_
    refine e_gR (a := 9) (w := 183) 172 (sh_172 hM) hP rfl (by decide) rfl ?_
    refine e_c hP rfl ?_
    refine e_ld hP rfl rfl ?_
    obtain ⟨hs4, h⟩ := h
    refine e_mul hP rfl hs4 ?_
    obtain ⟨hs5, h⟩ := h
    refine e_al 182 (sh_182 hM) hP rfl hs5 ?_
    refine e_cne hP rfl (fun hc => ?_) (fun hc => ?_)
    · have h := h.1 hc
      refine e_c hP rfl ?_
      refine e_st (L' := [some (.inr (.inr 173)), some (.inl x1), some (.inl x2), some (.inl (0 : Int)), none]) hP rfl rfl ?_
      refine e_c hP rfl ?_
      refine e_st (L' := [some (.inr (.inr 173)), some (.inl x1), some (.inl x2), some (.inl (0 : Int)), some (.inl (0 : Int))]) hP rfl rfl ?_
      exact h
    · have h := h.2 hc
      refine e_ld hP rfl rfl ?_
      refine e_gR (a := 9) (w := 184) 172 (sh_172 hM) hP rfl (by decide) rfl ?_
      refine e_ld hP rfl rfl ?_
      obtain ⟨hs6, h⟩ := h
      refine e_al 183 (sh_183 hM) hP rfl hs6 ?_
      refine e_ld hP rfl rfl ?_
      refine e_gR (a := 9) (w := 183) 172 (sh_172 hM) hP rfl (by decide) rfl ?_
      refine e_c hP rfl ?_
      refine e_ld hP rfl rfl ?_
      obtain ⟨hs7, h⟩ := h
      refine e_mul hP rfl hs7 ?_
      refine e_c hP rfl ?_
      obtain ⟨hs8, h⟩ := h
      refine e_add hP rfl hs8 ?_
      obtain ⟨hs9, h⟩ := h
      refine e_al 182 (sh_182 hM) hP rfl hs9 ?_
      refine e_cne hP rfl (fun hc => ?_) (fun hc => ?_)
      · have h := h.1 hc
        refine e_c hP rfl ?_
        refine e_st (L' := [some (.inr (.inr 173)), some (.inl x1), some (.inl x2), some (.inl (0 : Int)), none]) hP rfl rfl ?_
        refine e_c hP rfl ?_
        refine e_st (L' := [some (.inr (.inr 173)), some (.inl x1), some (.inl x2), some (.inl (0 : Int)), some (.inl (0 : Int))]) hP rfl rfl ?_
        exact h
      · have h := h.2 hc
        refine e_c hP rfl ?_
        refine e_go hP rfl ?_
        refine e_st (L' := [some (.inr (.inr 173)), some (.inl x1), some (.inl x2), some (.inl (1 : Int)), none]) hP rfl rfl ?_
        refine e_c hP rfl ?_
        refine e_st (L' := [some (.inr (.inr 173)), some (.inl x1), some (.inl x2), some (.inl (1 : Int)), some (.inl (0 : Int))]) hP rfl rfl ?_
        exact h
theorem r_X9_isNext_43 {S : Shp} {M : Mem} {Q : Res → Prop} (hM : KM S) {x1 x2 x3 x4 : Int} (h : ((x1 ≤ x4 → ((x3 = 0 → (inR (x2 + 1)) ∧ En 212 7 [some (.inr (.inr 173)), some (.inl x1), some (.inl (x2 + 1)), none, none] [] S M Q) ∧ (x3 ≠ 0 → (0 ≤ x1 ∧ x1 < 8) ∧ Q (S, up2 M 185 x1.toNat x2, some (.inl (1 : Int)))))) ∧ (x4 < x1 → ((x3 = 0 → (inR (x4 + 1)) ∧ En 212 43 [some (.inr (.inr 173)), some (.inl x1), some (.inl x2), some (.inl (0 : Int)), some (.inl (x4 + 1))] [] S M Q) ∧ (x3 ≠ 0 → (0 ≤ x4 ∧ x4 < 8) ∧ (((M 185 x4.toNat) = x2 → (inR (x4 + 1)) ∧ En 212 43 [some (.inr (.inr 173)), some (.inl x1), some (.inl x2), some (.inl (0 : Int)), some (.inl (x4 + 1))] [] S M Q) ∧ ((M 185 x4.toNat) ≠ x2 → (inR (x4 + 1)) ∧ En 212 43 [some (.inr (.inr 173)), some (.inl x1), some (.inl x2), some (.inl (1 : Int)), some (.inl (x4 + 1))] [] S M Q))))))) : En 212 43 [some (.inr (.inr 173)), some (.inl x1), some (.inl x2), some (.inl x3), some (.inl x4)] [] S M Q := by
  have hP : PR 212 = (bc_212, 5) := rfl
  refine e_ld hP rfl rfl ?_
  refine e_ld hP rfl rfl ?_
  refine e_cge hP rfl (fun hc => ?_) (fun hc => ?_)
  · have h := h.1 hc
    refine e_ld hP rfl rfl ?_
    refine e_zeq hP rfl (fun hc => ?_) (fun hc => ?_)
    · have h := h.1 hc
      obtain ⟨hs1, h⟩ := h
      refine e_inc (L' := [some (.inr (.inr 173)), some (.inl x1), some (.inl (x2 + 1)), some (.inl x3), some (.inl x4)]) hP rfl rfl hs1 rfl ?_
      refine e_go hP rfl ?_
      exact en_fg h ⟨Or.inr rfl, Or.inr rfl, Or.inr rfl, Or.inl rfl, Or.inl rfl, trivial⟩
    · have h := h.2 hc
      refine e_ld hP rfl rfl ?_
      refine e_gR (a := 9) (w := 186) 172 (sh_172 hM) hP rfl (by decide) rfl ?_
      refine e_ld hP rfl rfl ?_
      refine e_ld hP rfl rfl ?_
      obtain ⟨hs2, h⟩ := h
      refine e_as 185 (sh_185 hM) (by decide) hP rfl hs2 ?_
      refine e_c hP rfl ?_
      exact e_ret hP rfl rfl h
  · have h := h.2 hc
    refine e_ld hP rfl rfl ?_
    refine e_zeq hP rfl (fun hc => ?_) (fun hc => ?_)
    · have h := h.1 hc
      refine e_c hP rfl ?_
      refine e_st (L' := [some (.inr (.inr 173)), some (.inl x1), some (.inl x2), some (.inl (0 : Int)), some (.inl x4)]) hP rfl rfl ?_
      obtain ⟨hs3, h⟩ := h
      refine e_inc (L' := [some (.inr (.inr 173)), some (.inl x1), some (.inl x2), some (.inl (0 : Int)), some (.inl (x4 + 1))]) hP rfl rfl hs3 rfl ?_
      refine e_go hP rfl ?_
      exact h
    · have h := h.2 hc
      refine e_ld hP rfl rfl ?_
      refine e_gR (a := 9) (w := 186) 172 (sh_172 hM) hP rfl (by decide) rfl ?_
      refine e_ld hP rfl rfl ?_
      obtain ⟨hs4, h⟩ := h
      refine e_al 185 (sh_185 hM) hP rfl hs4 ?_
      refine e_ld hP rfl rfl ?_
      refine e_ceq hP rfl (fun hc => ?_) (fun hc => ?_)
      · have h := h.1 hc
        refine e_c hP rfl ?_
        refine e_st (L' := [some (.inr (.inr 173)), some (.inl x1), some (.inl x2), some (.inl (0 : Int)), some (.inl x4)]) hP rfl rfl ?_
        obtain ⟨hs5, h⟩ := h
        refine e_inc (L' := [some (.inr (.inr 173)), some (.inl x1), some (.inl x2), some (.inl (0 : Int)), some (.inl (x4 + 1))]) hP rfl rfl hs5 rfl ?_
        refine e_go hP rfl ?_
        exact h
      · have h := h.2 hc
        refine e_c hP rfl ?_
        refine e_go hP rfl ?_
        refine e_st (L' := [some (.inr (.inr 173)), some (.inl x1), some (.inl x2), some (.inl (1 : Int)), some (.inl x4)]) hP rfl rfl ?_
        obtain ⟨hs6, h⟩ := h
        refine e_inc (L' := [some (.inr (.inr 173)), some (.inl x1), some (.inl x2), some (.inl (1 : Int)), some (.inl (x4 + 1))]) hP rfl rfl hs6 rfl ?_
        refine e_go hP rfl ?_
        exact h
theorem r_X9_fits_0 {S : Shp} {M : Mem} {Q : Res → Prop} (hM : KM S) (h : Ca 211 [.inr (.inr 173), .inl (-1 : Int)] S M (fun r => ∃ (M1 : Mem) (v2 : Int), r = (S, M1, some (.inl v2)) ∧ Q (S, M1, some (.inl v2)))) : Ca 213 [.inr (.inr 173)] S M Q := by
  have hP : PR 213 = (bc_213, 1) := rfl
  refine ⟨Nat.le_of_ble_eq_true rfl, ?_⟩
  show En 213 0 [some (.inr (.inr 173))] [] S M Q
  refine e_ld hP rfl rfl ?_
  refine e_c hP rfl ?_
  refine e_call hP rfl rfl rfl (Nat.le_of_ble_eq_true rfl) (Nat.le_of_ble_eq_true rfl) (rcv0 (sh_172 hM) (by decide)) ?_
  refine Ca.mono h (fun r hr => ?_)
  obtain ⟨M1, v2, rfl, h⟩ := hr
  show En 213 3 [some (.inr (.inr 173))] [.inl v2] S M1 Q
  exact e_ret hP rfl rfl h
theorem r_X9_sure_0 {S : Shp} {M : Mem} {Q : Res → Prop} (hM : KM S) {p1 : Int} (h : (inR ((M 172 14) - (1 : Int))) ∧ Ca 140 [.inr (.inl p1), .inr (.inl (0 : Int)), .inr (.inl ((M 172 14) - (1 : Int)))] S M (fun r => ∃ (M2 : Mem) (v3 : Int), r = (S, M2, some (.inl v3)) ∧ ((v3 ≠ 0 → Ca 211 [.inr (.inr 173), .inl p1] S M2 (fun r => ∃ (M4 : Mem) (v5 : Int), r = (S, M4, some (.inl v5)) ∧ En 214 20 [some (.inr (.inr 173)), some (.inl p1), some (.inl v5), some (.inl (-4 : Int)), some (.inl (0 : Int))] [] S M4 Q)) ∧ (v3 = 0 → Q (S, M2, some (.inl (-1 : Int))))))) : Ca 214 [.inr (.inr 173), .inl p1] S M Q := by
  have hP : PR 214 = (bc_214, 5) := rfl
  refine ⟨Nat.le_of_ble_eq_true rfl, ?_⟩
  show En 214 0 [some (.inr (.inr 173)), some (.inl p1), none, none, none] [] S M Q
  refine e_ld hP rfl rfl ?_
  refine e_i2l hP rfl ?_
  refine e_lc hP rfl ?_
  refine e_ld hP rfl rfl ?_
  refine e_gI (a := 9) 172 (sh_172 hM) hP rfl (by decide) ?_
  refine e_c hP rfl ?_
  obtain ⟨hs1, h⟩ := h
  refine e_sub hP rfl hs1 ?_
  refine e_i2l hP rfl ?_
  refine e_call hP rfl rfl rfl (Nat.le_of_ble_eq_true rfl) (Nat.le_of_ble_eq_true rfl) rcv1 ?_
  refine Ca.mono h (fun r hr => ?_)
  obtain ⟨M2, v3, rfl, h⟩ := hr
  show En 214 9 [some (.inr (.inr 173)), some (.inl p1), none, none, none] [.inl v3] S M2 Q
  refine e_zne hP rfl (fun hc => ?_) (fun hc => ?_)
  · have h := h.1 hc
    refine e_ld hP rfl rfl ?_
    refine e_ld hP rfl rfl ?_
    refine e_call hP rfl rfl rfl (Nat.le_of_ble_eq_true rfl) (Nat.le_of_ble_eq_true rfl) (rcv0 (sh_172 hM) (by decide)) ?_
    refine Ca.mono h (fun r hr => ?_)
    obtain ⟨M4, v5, rfl, h⟩ := hr
    show En 214 15 [some (.inr (.inr 173)), some (.inl p1), none, none, none] [.inl v5] S M4 Q
    refine e_st (L' := [some (.inr (.inr 173)), some (.inl p1), some (.inl v5), none, none]) hP rfl rfl ?_
    refine e_c hP rfl ?_
    refine e_st (L' := [some (.inr (.inr 173)), some (.inl p1), some (.inl v5), some (.inl (-4 : Int)), none]) hP rfl rfl ?_
    refine e_c hP rfl ?_
    refine e_st (L' := [some (.inr (.inr 173)), some (.inl p1), some (.inl v5), some (.inl (-4 : Int)), some (.inl (0 : Int))]) hP rfl rfl ?_
    exact h
  · have h := h.2 hc
    refine e_c hP rfl ?_
    exact e_ret hP rfl rfl h
theorem r_X9_sure_20 {S : Shp} {M : Mem} {Q : Res → Prop} (hM : KM S) {x1 x2 x3 x4 : Int} (h : (((8 : Int) ≤ x4 → Q (S, M, some (.inl x3))) ∧ (x4 < (8 : Int) → ((x2 ≤ 0 → (inR (x4 + 1)) ∧ En 214 20 [some (.inr (.inr 173)), some (.inl x1), some (.inl x2), some (.inl x3), some (.inl (x4 + 1))] [] S M Q) ∧ (0 < x2 → (0 ≤ (1 : Int) ∧ 0 ≤ x4 ∧ x4 < 32 ∧ inR ((1 : Int) * 2 ^ x4.toNat)) ∧ (((M 172 20) ≠ ((1 : Int) * 2 ^ x4.toNat) → (inR (x4 + 1)) ∧ En 214 20 [some (.inr (.inr 173)), some (.inl x1), some (.inl x2), some (.inl x3), some (.inl (x4 + 1))] [] S M Q) ∧ ((M 172 20) = ((1 : Int) * 2 ^ x4.toNat) → (inR (x4 + 1)) ∧ En 214 20 [some (.inr (.inr 173)), some (.inl x1), some (.inl x2), some (.inl x4), some (.inl (x4 + 1))] [] S M Q))))))) : En 214 20 [some (.inr (.inr 173)), some (.inl x1), some (.inl x2), some (.inl x3), some (.inl x4)] [] S M Q := by
  have hP : PR 214 = (bc_214, 5) := rfl
  refine e_ld hP rfl rfl ?_
  refine e_c hP rfl ?_
  refine e_cge hP rfl (fun hc => ?_) (fun hc => ?_)
  · have h := h.1 hc
    refine e_ld hP rfl rfl ?_
    exact e_ret hP rfl rfl h
  · have h := h.2 hc
    refine e_ld hP rfl rfl ?_
    refine e_zle hP rfl (fun hc => ?_) (fun hc => ?_)
    · have h := h.1 hc
      refine e_ld hP rfl rfl ?_
      refine e_st (L' := [some (.inr (.inr 173)), some (.inl x1), some (.inl x2), some (.inl x3), some (.inl x4)]) hP rfl rfl ?_
      obtain ⟨hs1, h⟩ := h
      refine e_inc (L' := [some (.inr (.inr 173)), some (.inl x1), some (.inl x2), some (.inl x3), some (.inl (x4 + 1))]) hP rfl rfl hs1 rfl ?_
      refine e_go hP rfl ?_
      exact h
    · have h := h.2 hc
      refine e_ld hP rfl rfl ?_
      refine e_gI (a := 9) 172 (sh_172 hM) hP rfl (by decide) ?_
      refine e_c hP rfl ?_
      refine e_ld hP rfl rfl ?_
      obtain ⟨hs2, h⟩ := h
      refine e_shl hP rfl hs2 ?_
      refine e_cne hP rfl (fun hc => ?_) (fun hc => ?_)
      · have h := h.1 hc
        refine e_ld hP rfl rfl ?_
        refine e_st (L' := [some (.inr (.inr 173)), some (.inl x1), some (.inl x2), some (.inl x3), some (.inl x4)]) hP rfl rfl ?_
        obtain ⟨hs3, h⟩ := h
        refine e_inc (L' := [some (.inr (.inr 173)), some (.inl x1), some (.inl x2), some (.inl x3), some (.inl (x4 + 1))]) hP rfl rfl hs3 rfl ?_
        refine e_go hP rfl ?_
        exact h
      · have h := h.2 hc
        refine e_ld hP rfl rfl ?_
        refine e_go hP rfl ?_
        refine e_st (L' := [some (.inr (.inr 173)), some (.inl x1), some (.inl x2), some (.inl x4), some (.inl x4)]) hP rfl rfl ?_
        obtain ⟨hs4, h⟩ := h
        refine e_inc (L' := [some (.inr (.inr 173)), some (.inl x1), some (.inl x2), some (.inl x4), some (.inl (x4 + 1))]) hP rfl rfl hs4 rfl ?_
        refine e_go hP rfl ?_
        exact h
theorem r_X9_year_0 {S : Shp} {M : Mem} {Q : Res → Prop} (hM : KM S) {p1 p2 : Int} (h : Ca 140 [.inr (.inl p1), .inr (.inl (0 : Int)), .inr (.inl (9999 : Int))] S M (fun r => ∃ (M1 : Mem) (v2 : Int), r = (S, M1, some (.inl v2)) ∧ ((v2 = 0 → Q (S, M1, some (.inl (-1 : Int)))) ∧ (v2 ≠ 0 → Ca 140 [.inr (.inl p2), .inr (.inl (0 : Int)), .inr (.inl (1 : Int))] S M1 (fun r => ∃ (M3 : Mem) (v4 : Int), r = (S, M3, some (.inl v4)) ∧ ((v4 ≠ 0 → Ca 170 [.inr (.inr 173), .inl (0 : Int), .inl (11 : Int)] S M3 (fun r => ∃ M5 : Mem, r = (S, M5, none) ∧ En 215 22 [some (.inr (.inr 173)), some (.inl p1), some (.inl p2), some (.inl (0 : Int)), some (.inl (0 : Int)), none, none] [] S M5 Q)) ∧ (v4 = 0 → Q (S, M3, some (.inl (-1 : Int)))))))))) : Ca 215 [.inr (.inr 173), .inl p1, .inl p2] S M Q := by
  have hP : PR 215 = (bc_215, 7) := rfl
  refine ⟨Nat.le_of_ble_eq_true rfl, ?_⟩
  show En 215 0 [some (.inr (.inr 173)), some (.inl p1), some (.inl p2), none, none, none, none] [] S M Q
  refine e_ld hP rfl rfl ?_
  refine e_i2l hP rfl ?_
  refine e_lc hP rfl ?_
  refine e_lc hP rfl ?_
  refine e_call hP rfl rfl rfl (Nat.le_of_ble_eq_true rfl) (Nat.le_of_ble_eq_true rfl) rcv1 ?_
  refine Ca.mono h (fun r hr => ?_)
  obtain ⟨M1, v2, rfl, h⟩ := hr
  show En 215 5 [some (.inr (.inr 173)), some (.inl p1), some (.inl p2), none, none, none, none] [.inl v2] S M1 Q
  refine e_zeq hP rfl (fun hc => ?_) (fun hc => ?_)
  · have h := h.1 hc
    refine e_c hP rfl ?_
    exact e_ret hP rfl rfl h
  · have h := h.2 hc
    refine e_ld hP rfl rfl ?_
    refine e_i2l hP rfl ?_
    refine e_lc hP rfl ?_
    refine e_lc hP rfl ?_
    refine e_call hP rfl rfl rfl (Nat.le_of_ble_eq_true rfl) (Nat.le_of_ble_eq_true rfl) rcv1 ?_
    refine Ca.mono h (fun r hr => ?_)
    obtain ⟨M3, v4, rfl, h⟩ := hr
    show En 215 11 [some (.inr (.inr 173)), some (.inl p1), some (.inl p2), none, none, none, none] [.inl v4] S M3 Q
    refine e_zne hP rfl (fun hc => ?_) (fun hc => ?_)
    · have h := h.1 hc
      refine e_ld hP rfl rfl ?_
      refine e_c hP rfl ?_
      refine e_c hP rfl ?_
      refine e_call hP rfl rfl rfl (Nat.le_of_ble_eq_true rfl) (Nat.le_of_ble_eq_true rfl) (rcv0 (sh_172 hM) (by decide)) ?_
      refine Ca.mono h (fun r hr => ?_)
      obtain ⟨M5, rfl, h⟩ := hr
      show En 215 18 [some (.inr (.inr 173)), some (.inl p1), some (.inl p2), none, none, none, none] [] S M5 Q
      refine e_c hP rfl ?_
      refine e_st (L' := [some (.inr (.inr 173)), some (.inl p1), some (.inl p2), some (.inl (0 : Int)), none, none, none]) hP rfl rfl ?_
      refine e_c hP rfl ?_
      refine e_st (L' := [some (.inr (.inr 173)), some (.inl p1), some (.inl p2), some (.inl (0 : Int)), some (.inl (0 : Int)), none, none]) hP rfl rfl ?_
      exact h
    · have h := h.2 hc
      refine e_c hP rfl ?_
      exact e_ret hP rfl rfl h
theorem r_X9_year_22 {S : Shp} {M : Mem} {Q : Res → Prop} (hM : KM S) {x1 x2 x3 x4 : Int} (h : (0 ≤ (0 : Int) ∧ (0 : Int) < 12) ∧ (((M 174 (0 : Int).toNat) ≤ x4 → ((x2 ≠ (1 : Int) → Ca 164 [.inr (.inr 173), .inl (11 : Int)] S M (fun r => ∃ (M2 : Mem) (v3 : Int), r = (S, M2, some (.inl v3)) ∧ Q (S, M2, some (.inl v3)))) ∧ (x2 = (1 : Int) → Q (S, M, some (.inl x3))))) ∧ (x4 < (M 174 (0 : Int).toNat) → (inL ((7919 : Int) * x1)) ∧ (inL ((6151 : Int) * x4)) ∧ (inL (((7919 : Int) * x1) + ((6151 : Int) * x4))) ∧ (inL ((((7919 : Int) * x1) + ((6151 : Int) * x4)) + (1 : Int))) ∧ Ca 158 [.inr (.inr 173), .inl (0 : Int), .inl x4] S M (fun r => ∃ (M8 : Mem) (v9 : Int), r = (S, M8, some (.inl v9)) ∧ ((v9 < 0 → Ca 161 [.inr (.inr 173), .inl (11 : Int), .inl x4] S M8 (fun r => ∃ (M10 : Mem) (v11 : Int), r = (S, M10, some (.inl v11)) ∧ ((v11 = 0 → (inR (x3 + (0 : Int))) ∧ (inR (x4 + 1)) ∧ En 215 22 [some (.inr (.inr 173)), some (.inl x1), some (.inl x2), some (.inl (x3 + (0 : Int))), some (.inl (x4 + 1)), none, none] [] S M10 Q) ∧ (v11 ≠ 0 → (inR (x3 + (1 : Int))) ∧ (inR (x4 + 1)) ∧ En 215 22 [some (.inr (.inr 173)), some (.inl x1), some (.inl x2), some (.inl (x3 + (1 : Int))), some (.inl (x4 + 1)), none, none] [] S M10 Q)))) ∧ (0 ≤ v9 → (inR ((6 : Int) * x4)) ∧ (inR ((1878 : Int) + ((6 : Int) * x4))) ∧ (inL (((((7919 : Int) * x1) + ((6151 : Int) * x4)) + (1 : Int)) * ((((7919 : Int) * x1) + ((6151 : Int) * x4)) + (1 : Int)))) ∧ (0 ≤ (((((7919 : Int) * x1) + ((6151 : Int) * x4)) + (1 : Int)) * ((((7919 : Int) * x1) + ((6151 : Int) * x4)) + (1 : Int))) ∧ 0 < (65521 : Int)) ∧ (0 ≤ ((((((7919 : Int) * x1) + ((6151 : Int) * x4)) + (1 : Int)) * ((((7919 : Int) * x1) + ((6151 : Int) * x4)) + (1 : Int))) % (65521 : Int)) ∧ 0 < (26 : Int)) ∧ (inR (((((((7919 : Int) * x1) + ((6151 : Int) * x4)) + (1 : Int)) * ((((7919 : Int) * x1) + ((6151 : Int) * x4)) + (1 : Int))) % (65521 : Int)) % (26 : Int))) ∧ (0 ≤ ((1878 : Int) + ((6 : Int) * x4)) ∧ ((1878 : Int) + ((6 : Int) * x4)) < 2040) ∧ Ca 161 [.inr (.inr 173), .inl (11 : Int), .inl x4] S (up2 M8 180 ((1878 : Int) + ((6 : Int) * x4)).toNat (((((((7919 : Int) * x1) + ((6151 : Int) * x4)) + (1 : Int)) * ((((7919 : Int) * x1) + ((6151 : Int) * x4)) + (1 : Int))) % (65521 : Int)) % (26 : Int))) (fun r => ∃ (M23 : Mem) (v24 : Int), r = (S, M23, some (.inl v24)) ∧ ((v24 = 0 → (inR (x3 + (0 : Int))) ∧ (inR (x4 + 1)) ∧ En 215 22 [some (.inr (.inr 173)), some (.inl x1), some (.inl x2), some (.inl (x3 + (0 : Int))), some (.inl (x4 + 1)), none, none] [] S M23 Q) ∧ (v24 ≠ 0 → (inR (x3 + (1 : Int))) ∧ (inR (x4 + 1)) ∧ En 215 22 [some (.inr (.inr 173)), some (.inl x1), some (.inl x2), some (.inl (x3 + (1 : Int))), some (.inl (x4 + 1)), none, none] [] S M23 Q))))))))) : En 215 22 [some (.inr (.inr 173)), some (.inl x1), some (.inl x2), some (.inl x3), some (.inl x4), none, none] [] S M Q := by
  have hP : PR 215 = (bc_215, 7) := rfl
  refine e_ld hP rfl rfl ?_
  refine e_ld hP rfl rfl ?_
  refine e_gR (a := 9) (w := 175) 172 (sh_172 hM) hP rfl (by decide) rfl ?_
  refine e_c hP rfl ?_
  obtain ⟨hs1, h⟩ := h
  refine e_al 174 (sh_174 hM) hP rfl hs1 ?_
  refine e_cge hP rfl (fun hc => ?_) (fun hc => ?_)
  · have h := h.1 hc
    refine e_ld hP rfl rfl ?_
    refine e_c hP rfl ?_
    refine e_cne hP rfl (fun hc => ?_) (fun hc => ?_)
    · have h := h.1 hc
      refine e_ld hP rfl rfl ?_
      refine e_c hP rfl ?_
      refine e_call hP rfl rfl rfl (Nat.le_of_ble_eq_true rfl) (Nat.le_of_ble_eq_true rfl) (rcv0 (sh_172 hM) (by decide)) ?_
      refine Ca.mono h (fun r hr => ?_)
      obtain ⟨M2, v3, rfl, h⟩ := hr
      show En 215 82 [some (.inr (.inr 173)), some (.inl x1), some (.inl x2), some (.inl x3), some (.inl x4), none, none] [.inl v3] S M2 Q
      exact e_ret hP rfl rfl h
    · have h := h.2 hc
      refine e_ld hP rfl rfl ?_
      refine e_go hP rfl ?_
      exact e_ret hP rfl rfl h
  · have h := h.2 hc
    refine e_lc hP rfl ?_
    refine e_ld hP rfl rfl ?_
    refine e_i2l hP rfl ?_
    obtain ⟨hs4, h⟩ := h
    refine e_lb (z := (7919 : Int) * x1) hP rfl (if_pos hs4) ?_
    refine e_lc hP rfl ?_
    refine e_ld hP rfl rfl ?_
    refine e_i2l hP rfl ?_
    obtain ⟨hs5, h⟩ := h
    refine e_lb (z := (6151 : Int) * x4) hP rfl (if_pos hs5) ?_
    obtain ⟨hs6, h⟩ := h
    refine e_lb (z := ((7919 : Int) * x1) + ((6151 : Int) * x4)) hP rfl (if_pos hs6) ?_
    refine e_lc hP rfl ?_
    obtain ⟨hs7, h⟩ := h
    refine e_lb (z := (((7919 : Int) * x1) + ((6151 : Int) * x4)) + (1 : Int)) hP rfl (if_pos hs7) ?_
    refine e_st (L' := [some (.inr (.inr 173)), some (.inl x1), some (.inl x2), some (.inl x3), some (.inl x4), some (.inr (.inl ((((7919 : Int) * x1) + ((6151 : Int) * x4)) + (1 : Int)))), none]) hP rfl rfl ?_
    refine e_ld hP rfl rfl ?_
    refine e_c hP rfl ?_
    refine e_ld hP rfl rfl ?_
    refine e_call hP rfl rfl rfl (Nat.le_of_ble_eq_true rfl) (Nat.le_of_ble_eq_true rfl) (rcv0 (sh_172 hM) (by decide)) ?_
    refine Ca.mono h (fun r hr => ?_)
    obtain ⟨M8, v9, rfl, h⟩ := hr
    show En 215 44 [some (.inr (.inr 173)), some (.inl x1), some (.inl x2), some (.inl x3), some (.inl x4), some (.inr (.inl ((((7919 : Int) * x1) + ((6151 : Int) * x4)) + (1 : Int)))), none] [.inl v9] S M8 Q
    refine e_zlt hP rfl (fun hc => ?_) (fun hc => ?_)
    · have h := h.1 hc
      refine e_ld hP rfl rfl ?_
      refine e_ld hP rfl rfl ?_
      refine e_c hP rfl ?_
      refine e_ld hP rfl rfl ?_
      refine e_call hP rfl rfl rfl (Nat.le_of_ble_eq_true rfl) (Nat.le_of_ble_eq_true rfl) (rcv0 (sh_172 hM) (by decide)) ?_
      refine Ca.mono h (fun r hr => ?_)
      obtain ⟨M10, v11, rfl, h⟩ := hr
      show En 215 66 [some (.inr (.inr 173)), some (.inl x1), some (.inl x2), some (.inl x3), some (.inl x4), some (.inr (.inl ((((7919 : Int) * x1) + ((6151 : Int) * x4)) + (1 : Int)))), none] [.inl v11, .inl x3] S M10 Q
      refine e_zeq hP rfl (fun hc => ?_) (fun hc => ?_)
      · have h := h.1 hc
        refine e_c hP rfl ?_
        obtain ⟨hs12, h⟩ := h
        refine e_add hP rfl hs12 ?_
        refine e_st (L' := [some (.inr (.inr 173)), some (.inl x1), some (.inl x2), some (.inl (x3 + (0 : Int))), some (.inl x4), some (.inr (.inl ((((7919 : Int) * x1) + ((6151 : Int) * x4)) + (1 : Int)))), none]) hP rfl rfl ?_
        obtain ⟨hs13, h⟩ := h
        refine e_inc (L' := [some (.inr (.inr 173)), some (.inl x1), some (.inl x2), some (.inl (x3 + (0 : Int))), some (.inl (x4 + 1)), some (.inr (.inl ((((7919 : Int) * x1) + ((6151 : Int) * x4)) + (1 : Int)))), none]) hP rfl rfl hs13 rfl ?_
        refine e_go hP rfl ?_
        exact en_fg h ⟨Or.inr rfl, Or.inr rfl, Or.inr rfl, Or.inr rfl, Or.inr rfl, Or.inl rfl, Or.inr rfl, trivial⟩
      · have h := h.2 hc
        refine e_c hP rfl ?_
        refine e_go hP rfl ?_
        obtain ⟨hs14, h⟩ := h
        refine e_add hP rfl hs14 ?_
        refine e_st (L' := [some (.inr (.inr 173)), some (.inl x1), some (.inl x2), some (.inl (x3 + (1 : Int))), some (.inl x4), some (.inr (.inl ((((7919 : Int) * x1) + ((6151 : Int) * x4)) + (1 : Int)))), none]) hP rfl rfl ?_
        obtain ⟨hs15, h⟩ := h
        refine e_inc (L' := [some (.inr (.inr 173)), some (.inl x1), some (.inl x2), some (.inl (x3 + (1 : Int))), some (.inl (x4 + 1)), some (.inr (.inl ((((7919 : Int) * x1) + ((6151 : Int) * x4)) + (1 : Int)))), none]) hP rfl rfl hs15 rfl ?_
        refine e_go hP rfl ?_
        exact en_fg h ⟨Or.inr rfl, Or.inr rfl, Or.inr rfl, Or.inr rfl, Or.inr rfl, Or.inl rfl, Or.inr rfl, trivial⟩
    · have h := h.2 hc
      refine e_ld hP rfl rfl ?_
      refine e_gR (a := 9) (w := 181) 172 (sh_172 hM) hP rfl (by decide) rfl ?_
      refine e_c hP rfl ?_
      refine e_c hP rfl ?_
      refine e_ld hP rfl rfl ?_
      obtain ⟨hs16, h⟩ := h
      refine e_mul hP rfl hs16 ?_
      obtain ⟨hs17, h⟩ := h
      refine e_add hP rfl hs17 ?_
      refine e_ld hP rfl rfl ?_
      refine e_ld hP rfl rfl ?_
      obtain ⟨hs18, h⟩ := h
      refine e_lb (z := ((((7919 : Int) * x1) + ((6151 : Int) * x4)) + (1 : Int)) * ((((7919 : Int) * x1) + ((6151 : Int) * x4)) + (1 : Int))) hP rfl (if_pos hs18) ?_
      refine e_lc hP rfl ?_
      obtain ⟨hs19, h⟩ := h
      refine e_lb (z := (((((7919 : Int) * x1) + ((6151 : Int) * x4)) + (1 : Int)) * ((((7919 : Int) * x1) + ((6151 : Int) * x4)) + (1 : Int))) % (65521 : Int)) hP rfl (if_pos hs19) ?_
      refine e_lc hP rfl ?_
      obtain ⟨hs20, h⟩ := h
      refine e_lb (z := ((((((7919 : Int) * x1) + ((6151 : Int) * x4)) + (1 : Int)) * ((((7919 : Int) * x1) + ((6151 : Int) * x4)) + (1 : Int))) % (65521 : Int)) % (26 : Int)) hP rfl (if_pos hs20) ?_
      obtain ⟨hs21, h⟩ := h
      refine e_l2i hP rfl hs21 ?_
      obtain ⟨hs22, h⟩ := h
      refine e_as 180 (sh_180 hM) (by decide) hP rfl hs22 ?_
      refine e_ld hP rfl rfl ?_
      refine e_ld hP rfl rfl ?_
      refine e_c hP rfl ?_
      refine e_ld hP rfl rfl ?_
      refine e_call hP rfl rfl rfl (Nat.le_of_ble_eq_true rfl) (Nat.le_of_ble_eq_true rfl) (rcv0 (sh_172 hM) (by decide)) ?_
      refine Ca.mono h (fun r hr => ?_)
      obtain ⟨M23, v24, rfl, h⟩ := hr
      show En 215 66 [some (.inr (.inr 173)), some (.inl x1), some (.inl x2), some (.inl x3), some (.inl x4), some (.inr (.inl ((((7919 : Int) * x1) + ((6151 : Int) * x4)) + (1 : Int)))), none] [.inl v24, .inl x3] S M23 Q
      refine e_zeq hP rfl (fun hc => ?_) (fun hc => ?_)
      · have h := h.1 hc
        refine e_c hP rfl ?_
        obtain ⟨hs25, h⟩ := h
        refine e_add hP rfl hs25 ?_
        refine e_st (L' := [some (.inr (.inr 173)), some (.inl x1), some (.inl x2), some (.inl (x3 + (0 : Int))), some (.inl x4), some (.inr (.inl ((((7919 : Int) * x1) + ((6151 : Int) * x4)) + (1 : Int)))), none]) hP rfl rfl ?_
        obtain ⟨hs26, h⟩ := h
        refine e_inc (L' := [some (.inr (.inr 173)), some (.inl x1), some (.inl x2), some (.inl (x3 + (0 : Int))), some (.inl (x4 + 1)), some (.inr (.inl ((((7919 : Int) * x1) + ((6151 : Int) * x4)) + (1 : Int)))), none]) hP rfl rfl hs26 rfl ?_
        refine e_go hP rfl ?_
        exact en_fg h ⟨Or.inr rfl, Or.inr rfl, Or.inr rfl, Or.inr rfl, Or.inr rfl, Or.inl rfl, Or.inr rfl, trivial⟩
      · have h := h.2 hc
        refine e_c hP rfl ?_
        refine e_go hP rfl ?_
        obtain ⟨hs27, h⟩ := h
        refine e_add hP rfl hs27 ?_
        refine e_st (L' := [some (.inr (.inr 173)), some (.inl x1), some (.inl x2), some (.inl (x3 + (1 : Int))), some (.inl x4), some (.inr (.inl ((((7919 : Int) * x1) + ((6151 : Int) * x4)) + (1 : Int)))), none]) hP rfl rfl ?_
        obtain ⟨hs28, h⟩ := h
        refine e_inc (L' := [some (.inr (.inr 173)), some (.inl x1), some (.inl x2), some (.inl (x3 + (1 : Int))), some (.inl (x4 + 1)), some (.inr (.inl ((((7919 : Int) * x1) + ((6151 : Int) * x4)) + (1 : Int)))), none]) hP rfl rfl hs28 rfl ?_
        refine e_go hP rfl ?_
        exact en_fg h ⟨Or.inr rfl, Or.inr rfl, Or.inr rfl, Or.inr rfl, Or.inr rfl, Or.inl rfl, Or.inr rfl, trivial⟩
theorem r_X9_keep_0 {S : Shp} {M : Mem} {Q : Res → Prop} (hM : KM S) (h : (((M 172 10) ≠ (2 : Int) → (inR ((M 172 10) + (1 : Int))) ∧ Ca 170 [.inr (.inr 173), .inl (0 : Int), .inl ((up2 M 172 10 ((M 172 10) + (1 : Int))) 172 10)] S (up2 M 172 10 ((M 172 10) + (1 : Int))) (fun r => ∃ M2 : Mem, r = (S, M2, none) ∧ Q (S, M2, some (.inl (M2 172 10))))) ∧ ((M 172 10) = (2 : Int) → Q (S, M, some (.inl (-3 : Int)))))) : Ca 216 [.inr (.inr 173)] S M Q := by
  have hP : PR 216 = (bc_216, 1) := rfl
  refine ⟨Nat.le_of_ble_eq_true rfl, ?_⟩
  show En 216 0 [some (.inr (.inr 173))] [] S M Q
  refine e_ld hP rfl rfl ?_
  refine e_gI (a := 9) 172 (sh_172 hM) hP rfl (by decide) ?_
  refine e_c hP rfl ?_
  refine e_cne hP rfl (fun hc => ?_) (fun hc => ?_)
  · have h := h.1 hc
    refine e_ld hP rfl rfl ?_
    refine e_dupR hP rfl ?_
    refine e_gI (a := 9) 172 (sh_172 hM) hP rfl (by decide) ?_
    refine e_c hP rfl ?_
    obtain ⟨hs1, h⟩ := h
    refine e_add hP rfl hs1 ?_
    refine e_pI (a := 9) 172 (sh_172 hM) (by decide) hP rfl (by decide) ?_
    refine e_ld hP rfl rfl ?_
    refine e_c hP rfl ?_
    refine e_ld hP rfl rfl ?_
    refine e_gI (a := 9) 172 (sh_172 hM) hP rfl (by decide) ?_
    refine e_call hP rfl rfl rfl (Nat.le_of_ble_eq_true rfl) (Nat.le_of_ble_eq_true rfl) (rcv0 (sh_172 hM) (by decide)) ?_
    refine Ca.mono h (fun r hr => ?_)
    obtain ⟨M2, rfl, h⟩ := hr
    show En 216 17 [some (.inr (.inr 173))] [] S M2 Q
    refine e_ld hP rfl rfl ?_
    refine e_gI (a := 9) 172 (sh_172 hM) hP rfl (by decide) ?_
    exact e_ret hP rfl rfl h
  · have h := h.2 hc
    refine e_c hP rfl ?_
    exact e_ret hP rfl rfl h
theorem r_X9_back_0 {S : Shp} {M : Mem} {Q : Res → Prop} (hM : KM S) (h : (((M 172 10) ≠ 0 → Ca 170 [.inr (.inr 173), .inl (M 172 10), .inl (0 : Int)] S M (fun r => ∃ M1 : Mem, r = (S, M1, none) ∧ (inR ((M1 172 10) - (1 : Int))) ∧ Q (S, up2 (up2 M1 172 10 ((M1 172 10) - (1 : Int))) 172 11 (0 : Int), some (.inl ((up2 (up2 M1 172 10 ((M1 172 10) - (1 : Int))) 172 11 (0 : Int)) 172 10))))) ∧ ((M 172 10) = 0 → Q (S, M, some (.inl (-2 : Int)))))) : Ca 217 [.inr (.inr 173)] S M Q := by
  have hP : PR 217 = (bc_217, 1) := rfl
  refine ⟨Nat.le_of_ble_eq_true rfl, ?_⟩
  show En 217 0 [some (.inr (.inr 173))] [] S M Q
  refine e_ld hP rfl rfl ?_
  refine e_gI (a := 9) 172 (sh_172 hM) hP rfl (by decide) ?_
  refine e_zne hP rfl (fun hc => ?_) (fun hc => ?_)
  · have h := h.1 hc
    refine e_ld hP rfl rfl ?_
    refine e_ld hP rfl rfl ?_
    refine e_gI (a := 9) 172 (sh_172 hM) hP rfl (by decide) ?_
    refine e_c hP rfl ?_
    refine e_call hP rfl rfl rfl (Nat.le_of_ble_eq_true rfl) (Nat.le_of_ble_eq_true rfl) (rcv0 (sh_172 hM) (by decide)) ?_
    refine Ca.mono h (fun r hr => ?_)
    obtain ⟨M1, rfl, h⟩ := hr
    show En 217 10 [some (.inr (.inr 173))] [] S M1 Q
    refine e_ld hP rfl rfl ?_
    refine e_dupR hP rfl ?_
    refine e_gI (a := 9) 172 (sh_172 hM) hP rfl (by decide) ?_
    refine e_c hP rfl ?_
    obtain ⟨hs2, h⟩ := h
    refine e_sub hP rfl hs2 ?_
    refine e_pI (a := 9) 172 (sh_172 hM) (by decide) hP rfl (by decide) ?_
    refine e_ld hP rfl rfl ?_
    refine e_c hP rfl ?_
    refine e_pI (a := 9) 172 (sh_172 hM) (by decide) hP rfl (by decide) ?_
    refine e_ld hP rfl rfl ?_
    refine e_gI (a := 9) 172 (sh_172 hM) hP rfl (by decide) ?_
    exact e_ret hP rfl rfl h
  · have h := h.2 hc
    refine e_c hP rfl ?_
    exact e_ret hP rfl rfl h
theorem r_X9_count_0 {S : Shp} {M : Mem} {Q : Res → Prop} (hM : KM S) {p1 : Int} (h : Ca 140 [.inr (.inl p1), .inr (.inl (0 : Int)), .inr (.inl (10 : Int))] S M (fun r => ∃ (M1 : Mem) (v2 : Int), r = (S, M1, some (.inl v2)) ∧ ((v2 ≠ 0 → (((4 : Int) ≤ p1 → (((p1 < 4 ∨ 4 + 6 ≤ p1) → Ca 164 [.inr (.inr 173), .inl (0 : Int)] S M1 (fun r => ∃ (M3 : Mem) (v4 : Int), r = (S, M3, some (.inl v4)) ∧ Q (S, M3, some (.inl v4)))) ∧ (p1 = 4 → Q (S, M1, some (.inl (M1 172 12)))) ∧ (p1 = 5 → Ca 180 [.inr (.inr 173)] S M1 (fun r => ∃ (M5 : Mem) (v6 : Int), r = (S, M5, some (.inl v6)) ∧ Q (S, M5, some (.inl v6)))) ∧ (p1 = 6 → Q (S, M1, some (.inl (M1 172 14)))) ∧ (p1 = 7 → Q (S, M1, some (.inl (M1 172 11)))) ∧ (p1 = 8 → Q (S, M1, some (.inl (M1 172 10)))) ∧ (p1 = 9 → Q (S, M1, some (.inl (M1 172 0)))))) ∧ (p1 < (4 : Int) → (0 ≤ p1 ∧ p1 < 12) ∧ Q (S, M1, some (.inl (M1 174 p1.toNat)))))) ∧ (v2 = 0 → Q (S, M1, some (.inl (-1 : Int))))))) : Ca 218 [.inr (.inr 173), .inl p1] S M Q := by
  have hP : PR 218 = (bc_218, 2) := rfl
  refine ⟨Nat.le_of_ble_eq_true rfl, ?_⟩
  show En 218 0 [some (.inr (.inr 173)), some (.inl p1)] [] S M Q
  refine e_ld hP rfl rfl ?_
  refine e_i2l hP rfl ?_
  refine e_lc hP rfl ?_
  refine e_lc hP rfl ?_
  refine e_call hP rfl rfl rfl (Nat.le_of_ble_eq_true rfl) (Nat.le_of_ble_eq_true rfl) rcv1 ?_
  refine Ca.mono h (fun r hr => ?_)
  obtain ⟨M1, v2, rfl, h⟩ := hr
  show En 218 5 [some (.inr (.inr 173)), some (.inl p1)] [.inl v2] S M1 Q
  refine e_zne hP rfl (fun hc => ?_) (fun hc => ?_)
  · have h := h.1 hc
    refine e_ld hP rfl rfl ?_
    refine e_c hP rfl ?_
    refine e_cge hP rfl (fun hc => ?_) (fun hc => ?_)
    · have h := h.1 hc
      refine e_ld hP rfl rfl ?_
      refine e_tab hP rfl (fun hc => ?_) (fun k t hk hx => ?_)
      · have h := h.1 hc
        refine e_ld hP rfl rfl ?_
        refine e_c hP rfl ?_
        refine e_call hP rfl rfl rfl (Nat.le_of_ble_eq_true rfl) (Nat.le_of_ble_eq_true rfl) (rcv0 (sh_172 hM) (by decide)) ?_
        refine Ca.mono h (fun r hr => ?_)
        obtain ⟨M3, v4, rfl, h⟩ := hr
        show En 218 39 [some (.inr (.inr 173)), some (.inl p1)] [.inl v4] S M3 Q
        exact e_ret hP rfl rfl h
      · match k, hk, hx with
        | 0, hk, hx =>
          cases hk
          have h := h.2.1 (by simpa using hx)
          refine e_ld hP rfl rfl ?_
          refine e_gI (a := 9) 172 (sh_172 hM) hP rfl (by decide) ?_
          exact e_ret hP rfl rfl h
        | 1, hk, hx =>
          cases hk
          have h := h.2.2.1 (by simpa using hx)
          refine e_ld hP rfl rfl ?_
          refine e_call hP rfl rfl rfl (Nat.le_of_ble_eq_true rfl) (Nat.le_of_ble_eq_true rfl) (rcv0 (sh_172 hM) (by decide)) ?_
          refine Ca.mono h (fun r hr => ?_)
          obtain ⟨M5, v6, rfl, h⟩ := hr
          show En 218 23 [some (.inr (.inr 173)), some (.inl p1)] [.inl v6] S M5 Q
          exact e_ret hP rfl rfl h
        | 2, hk, hx =>
          cases hk
          have h := h.2.2.2.1 (by simpa using hx)
          refine e_ld hP rfl rfl ?_
          refine e_gI (a := 9) 172 (sh_172 hM) hP rfl (by decide) ?_
          exact e_ret hP rfl rfl h
        | 3, hk, hx =>
          cases hk
          have h := h.2.2.2.2.1 (by simpa using hx)
          refine e_ld hP rfl rfl ?_
          refine e_gI (a := 9) 172 (sh_172 hM) hP rfl (by decide) ?_
          exact e_ret hP rfl rfl h
        | 4, hk, hx =>
          cases hk
          have h := h.2.2.2.2.2.1 (by simpa using hx)
          refine e_ld hP rfl rfl ?_
          refine e_gI (a := 9) 172 (sh_172 hM) hP rfl (by decide) ?_
          exact e_ret hP rfl rfl h
        | 5, hk, hx =>
          cases hk
          have h := h.2.2.2.2.2.2 (by simpa using hx)
          refine e_ld hP rfl rfl ?_
          refine e_gI (a := 9) 172 (sh_172 hM) hP rfl (by decide) ?_
          exact e_ret hP rfl rfl h
        | k + 6, hk, hx => simp at hk
    · have h := h.2 hc
      refine e_ld hP rfl rfl ?_
      refine e_gR (a := 9) (w := 175) 172 (sh_172 hM) hP rfl (by decide) rfl ?_
      refine e_ld hP rfl rfl ?_
      obtain ⟨hs7, h⟩ := h
      refine e_al 174 (sh_174 hM) hP rfl hs7 ?_
      exact e_ret hP rfl rfl h
  · have h := h.2 hc
    refine e_c hP rfl ?_
    exact e_ret hP rfl rfl h
