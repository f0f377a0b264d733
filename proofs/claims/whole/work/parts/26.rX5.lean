/-! REGIONS of X5: by wip/gen/reggen.py -/
theorem r_X5_add_0 {S : Shp} {M : Mem} {Q : Res → Prop} (hS : KC S) {p1 : Int} (h : (((M 5 2) < (200 : Int) → (0 ≤ (M 5 2) ∧ (M 5 2) < 200) ∧ (inR (((up2 M 6 (M 5 2).toNat p1) 5 2) + (1 : Int))) ∧ Q (S, up2 (up2 M 6 (M 5 2).toNat p1) 5 2 (((up2 M 6 (M 5 2).toNat p1) 5 2) + (1 : Int)), some (.inl (1 : Int)))) ∧ ((200 : Int) ≤ (M 5 2) → Q (S, M, some (.inl (0 : Int)))))) : Ca 37 [.inr (.inr 6), .inl p1] S M Q := by
  have hP : PR 37 = (bc_37, 2) := rfl
  refine ⟨Nat.le_of_ble_eq_true rfl, ?_⟩
  show En 37 0 [some (.inr (.inr 6)), some (.inl p1)] [] S M Q
  refine e_ld hP rfl rfl ?_
  refine e_gI (a := 5) 5 (sh_5 hS) hP rfl (by decide) ?_
  refine e_c hP rfl ?_
  refine e_clt hP rfl (fun hc => ?_) (fun hc => ?_)
  · have h := h.1 hc
    refine e_ld hP rfl rfl ?_
    refine e_gR (a := 5) (w := 7) 5 (sh_5 hS) hP rfl (by decide) rfl ?_
    refine e_ld hP rfl rfl ?_
    refine e_gI (a := 5) 5 (sh_5 hS) hP rfl (by decide) ?_
    refine e_ld hP rfl rfl ?_
    obtain ⟨hs1, h⟩ := h
    refine e_as 6 (sh_6 hS) (by decide) hP rfl hs1 ?_
    refine e_ld hP rfl rfl ?_
    refine e_dupR hP rfl ?_
    refine e_gI (a := 5) 5 (sh_5 hS) hP rfl (by decide) ?_
    refine e_c hP rfl ?_
    obtain ⟨hs2, h⟩ := h
    refine e_add hP rfl hs2 ?_
    refine e_pI (a := 5) 5 (sh_5 hS) (by decide) hP rfl (by decide) ?_
    refine e_c hP rfl ?_
    exact e_ret hP rfl rfl h
  · have h := h.2 hc
    refine e_c hP rfl ?_
    exact e_ret hP rfl rfl h
theorem r_X5_readInto_0 {S : Shp} {M : Mem} {Q : Res → Prop} (hS : KC S) {t : Nat} (ht : t ∈ bx_tw) (h : Ca 64 [.inr (.inr (t + 1))] S M (fun r => ∃ M1 : Mem, r = (S, M1, none) ∧ En 38 10 [some (.inr (.inr 6)), some (.inr (.inr (t + 1))), some (.inl (0 : Int)), none] [] S (up2 (up2 M1 5 3 (0 : Int)) 5 4 (0 : Int)) Q)) : Ca 38 [.inr (.inr 6), .inr (.inr (t + 1))] S M Q := by
  have hP : PR 38 = (bc_38, 4) := rfl
  refine ⟨Nat.le_of_ble_eq_true rfl, ?_⟩
  show En 38 0 [some (.inr (.inr 6)), some (.inr (.inr (t + 1))), none, none] [] S M Q
  refine e_ldR hP rfl rfl (nz_q (tw_p ht 0)) ?_
  refine e_call hP rfl rfl rfl (Nat.le_of_ble_eq_true rfl) (Nat.le_of_ble_eq_true rfl) (rcv0 (tw_o hS ht) (tw_p ht 0)) ?_
  refine Ca.mono h (fun r hr => ?_)
  obtain ⟨M1, rfl, h⟩ := hr
  show En 38 2 [some (.inr (.inr 6)), some (.inr (.inr (t + 1))), none, none] [] S M1 Q
  refine e_ld hP rfl rfl ?_
  refine e_c hP rfl ?_
  refine e_pI (a := 5) 5 (sh_5 hS) (by decide) hP rfl (by decide) ?_
  refine e_ld hP rfl rfl ?_
  refine e_c hP rfl ?_
  refine e_pI (a := 5) 5 (sh_5 hS) (by decide) hP rfl (by decide) ?_
  refine e_c hP rfl ?_
  refine e_st (L' := [some (.inr (.inr 6)), some (.inr (.inr (t + 1))), some (.inl (0 : Int)), none]) hP rfl rfl ?_
  exact h
theorem r_X5_readInto_10 {S : Shp} {M : Mem} {Q : Res → Prop} (hS : KC S) {t : Nat} (ht : t ∈ bx_tw) {x2 : Int} (h : (((200 : Int) ≤ x2 → Q (S, M, some (.inl (-4 : Int)))) ∧ (x2 < (200 : Int) → (((M 5 2) ≤ (M 5 3) → Q (S, M, some (.inl (-4 : Int)))) ∧ ((M 5 3) < (M 5 2) → Ca 39 [.inr (.inr 6), .inr (.inr (t + 1))] S M (fun r => ∃ (M1 : Mem) (v2 : Int), r = (S, M1, some (.inl v2)) ∧ ((v2 ≠ 0 → (inR (x2 + 1)) ∧ En 38 10 [some (.inr (.inr 6)), some (.inr (.inr (t + 1))), some (.inl (x2 + 1)), none] [] S M1 Q) ∧ (v2 = 0 → Q (S, M1, some (.inl (M 5 3))))))))))) : En 38 10 [some (.inr (.inr 6)), some (.inr (.inr (t + 1))), some (.inl x2), none] [] S M Q := by
  have hP : PR 38 = (bc_38, 4) := rfl
  refine e_ld hP rfl rfl ?_
  refine e_c hP rfl ?_
  refine e_cge hP rfl (fun hc => ?_) (fun hc => ?_)
  · have h := h.1 hc
    refine e_c hP rfl ?_
    exact e_ret hP rfl rfl h
  · have h := h.2 hc
    refine e_ld hP rfl rfl ?_
    refine e_gI (a := 5) 5 (sh_5 hS) hP rfl (by decide) ?_
    refine e_ld hP rfl rfl ?_
    refine e_gI (a := 5) 5 (sh_5 hS) hP rfl (by decide) ?_
    refine e_cge hP rfl (fun hc => ?_) (fun hc => ?_)
    · have h := h.1 hc
      refine e_c hP rfl ?_
      exact e_ret hP rfl rfl h
    · have h := h.2 hc
      refine e_ld hP rfl rfl ?_
      refine e_gI (a := 5) 5 (sh_5 hS) hP rfl (by decide) ?_
      refine e_st (L' := [some (.inr (.inr 6)), some (.inr (.inr (t + 1))), some (.inl x2), some (.inl (M 5 3))]) hP rfl rfl ?_
      refine e_ld hP rfl rfl ?_
      refine e_ldR hP rfl rfl (nz_q (tw_p ht 0)) ?_
      refine e_call hP rfl rfl rfl (Nat.le_of_ble_eq_true rfl) (Nat.le_of_ble_eq_true rfl) (rcv0 (sh_5 hS) (by decide)) ?_
      refine Ca.mono h (fun r hr => ?_)
      obtain ⟨M1, v2, rfl, h⟩ := hr
      show En 38 24 [some (.inr (.inr 6)), some (.inr (.inr (t + 1))), some (.inl x2), some (.inl (M 5 3))] [.inl v2] S M1 Q
      refine e_zne hP rfl (fun hc => ?_) (fun hc => ?_)
      · have h := h.1 hc
        obtain ⟨hs3, h⟩ := h
        refine e_inc (L' := [some (.inr (.inr 6)), some (.inr (.inr (t + 1))), some (.inl (x2 + 1)), some (.inl (M 5 3))]) hP rfl rfl hs3 rfl ?_
        refine e_go hP rfl ?_
        exact en_fg h ⟨Or.inr rfl, Or.inr rfl, Or.inr rfl, Or.inl rfl, trivial⟩
      · have h := h.2 hc
        refine e_ld hP rfl rfl ?_
        exact e_ret hP rfl rfl h
theorem r_X5_readItem_0 {S : Shp} {M : Mem} {Q : Res → Prop} (hS : KC S) {t : Nat} (ht : t ∈ bx_tw) (h : Ca 47 [.inr (.inr 6)] S M (fun r => ∃ (M1 : Mem) (v2 : Int), r = (S, M1, some (.inl v2)) ∧ (inR ((M1 5 3) + (1 : Int))) ∧ (((v2 < 99 ∨ 99 + 21 ≤ v2) → Q (S, up2 M1 5 3 ((M1 5 3) + (1 : Int)), some (.inl (0 : Int)))) ∧ (v2 = 99 → Ca 43 [.inr (.inr 6), .inr (.inr (t + 1))] S (up2 M1 5 3 ((M1 5 3) + (1 : Int))) (fun r => ∃ (M4 : Mem) (v5 : Int), r = (S, M4, some (.inl v5)) ∧ (v5 = 0 ∨ v5 = 1) ∧ Q (S, M4, some (.inl v5)))) ∧ (v2 = 100 → Q (S, up2 M1 5 3 ((M1 5 3) + (1 : Int)), some (.inl (0 : Int)))) ∧ (v2 = 101 → Q (S, up2 M1 5 3 ((M1 5 3) + (1 : Int)), some (.inl (0 : Int)))) ∧ (v2 = 102 → Q (S, up2 M1 5 3 ((M1 5 3) + (1 : Int)), some (.inl (0 : Int)))) ∧ (v2 = 103 → Ca 41 [.inr (.inr 6), .inr (.inr (t + 1))] S (up2 M1 5 3 ((M1 5 3) + (1 : Int))) (fun r => ∃ (M6 : Mem) (v7 : Int), r = (S, M6, some (.inl v7)) ∧ (v7 = 0 ∨ v7 = 1) ∧ Q (S, M6, some (.inl v7)))) ∧ (v2 = 104 → Q (S, up2 M1 5 3 ((M1 5 3) + (1 : Int)), some (.inl (0 : Int)))) ∧ (v2 = 105 → Q (S, up2 M1 5 3 ((M1 5 3) + (1 : Int)), some (.inl (0 : Int)))) ∧ (v2 = 106 → Q (S, up2 M1 5 3 ((M1 5 3) + (1 : Int)), some (.inl (0 : Int)))) ∧ (v2 = 107 → Q (S, up2 M1 5 3 ((M1 5 3) + (1 : Int)), some (.inl (0 : Int)))) ∧ (v2 = 108 → Q (S, up2 M1 5 3 ((M1 5 3) + (1 : Int)), some (.inl (0 : Int)))) ∧ (v2 = 109 → Q (S, up2 M1 5 3 ((M1 5 3) + (1 : Int)), some (.inl (0 : Int)))) ∧ (v2 = 110 → Ca 40 [.inr (.inr 6), .inr (.inr (t + 1))] S (up2 M1 5 3 ((M1 5 3) + (1 : Int))) (fun r => ∃ (M8 : Mem) (v9 : Int), r = (S, M8, some (.inl v9)) ∧ (v9 = 0 ∨ v9 = 1) ∧ Q (S, M8, some (.inl v9)))) ∧ (v2 = 111 → Ca 44 [.inr (.inr 6), .inr (.inr (t + 1))] S (up2 M1 5 3 ((M1 5 3) + (1 : Int))) (fun r => ∃ (M10 : Mem) (v11 : Int), r = (S, M10, some (.inl v11)) ∧ (v11 = 0 ∨ v11 = 1) ∧ Q (S, M10, some (.inl v11)))) ∧ (v2 = 112 → Q (S, up2 M1 5 3 ((M1 5 3) + (1 : Int)), some (.inl (0 : Int)))) ∧ (v2 = 113 → Ca 46 [.inr (.inr 6), .inr (.inr (t + 1))] S (up2 M1 5 3 ((M1 5 3) + (1 : Int))) (fun r => ∃ (M12 : Mem) (v13 : Int), r = (S, M12, some (.inl v13)) ∧ (v13 = 0 ∨ v13 = 1) ∧ Q (S, M12, some (.inl v13)))) ∧ (v2 = 114 → Q (S, up2 M1 5 3 ((M1 5 3) + (1 : Int)), some (.inl (0 : Int)))) ∧ (v2 = 115 → Q (S, up2 M1 5 3 ((M1 5 3) + (1 : Int)), some (.inl (0 : Int)))) ∧ (v2 = 116 → Q (S, up2 M1 5 3 ((M1 5 3) + (1 : Int)), some (.inl (0 : Int)))) ∧ (v2 = 117 → Q (S, up2 M1 5 3 ((M1 5 3) + (1 : Int)), some (.inl (0 : Int)))) ∧ (v2 = 118 → Ca 45 [.inr (.inr 6), .inr (.inr (t + 1))] S (up2 M1 5 3 ((M1 5 3) + (1 : Int))) (fun r => ∃ (M14 : Mem) (v15 : Int), r = (S, M14, some (.inl v15)) ∧ (v15 = 0 ∨ v15 = 1) ∧ Q (S, M14, some (.inl v15)))) ∧ (v2 = 119 → Ca 42 [.inr (.inr 6), .inr (.inr (t + 1))] S (up2 M1 5 3 ((M1 5 3) + (1 : Int))) (fun r => ∃ (M16 : Mem) (v17 : Int), r = (S, M16, some (.inl v17)) ∧ (v17 = 0 ∨ v17 = 1) ∧ Q (S, M16, some (.inl v17))))))) : Ca 39 [.inr (.inr 6), .inr (.inr (t + 1))] S M Q := by
  have hP : PR 39 = (bc_39, 3) := rfl
  refine ⟨Nat.le_of_ble_eq_true rfl, ?_⟩
  show En 39 0 [some (.inr (.inr 6)), some (.inr (.inr (t + 1))), none] [] S M Q
  refine e_ld hP rfl rfl ?_
  refine e_call hP rfl rfl rfl (Nat.le_of_ble_eq_true rfl) (Nat.le_of_ble_eq_true rfl) (rcv0 (sh_5 hS) (by decide)) ?_
  refine Ca.mono h (fun r hr => ?_)
  obtain ⟨M1, v2, rfl, h⟩ := hr
  show En 39 2 [some (.inr (.inr 6)), some (.inr (.inr (t + 1))), none] [.inl v2] S M1 Q
  refine e_st (L' := [some (.inr (.inr 6)), some (.inr (.inr (t + 1))), some (.inl v2)]) hP rfl rfl ?_
  refine e_ld hP rfl rfl ?_
  refine e_dupR hP rfl ?_
  refine e_gI (a := 5) 5 (sh_5 hS) hP rfl (by decide) ?_
  refine e_c hP rfl ?_
  obtain ⟨hs3, h⟩ := h
  refine e_add hP rfl hs3 ?_
  refine e_pI (a := 5) 5 (sh_5 hS) (by decide) hP rfl (by decide) ?_
  refine e_ld hP rfl rfl ?_
  refine e_tab hP rfl (fun hc => ?_) (fun k t hk hx => ?_)
  · have h := h.1 hc
    refine e_c hP rfl ?_
    exact e_ret hP rfl rfl h
  · match k, hk, hx with
    | 0, hk, hx =>
      cases hk
      have h := h.2.1 (by simpa using hx)
      refine e_ld hP rfl rfl ?_
      refine e_ldR hP rfl rfl (nz_q (tw_p ht 0)) ?_
      refine e_call hP rfl rfl rfl (Nat.le_of_ble_eq_true rfl) (Nat.le_of_ble_eq_true rfl) (rcv0 (sh_5 hS) (by decide)) ?_
      refine Ca.mono h (fun r hr => ?_)
      obtain ⟨M4, v5, rfl, h⟩ := hr
      show En 39 26 [some (.inr (.inr 6)), some (.inr (.inr (t + 1))), some (.inl v2)] [.inl v5] S M4 Q
      exact e_ret hP rfl (decide_eq_true h.1) h.2
    | 1, hk, hx =>
      cases hk
      have h := h.2.2.1 (by simpa using hx)
      refine e_c hP rfl ?_
      exact e_ret hP rfl rfl h
    | 2, hk, hx =>
      cases hk
      have h := h.2.2.2.1 (by simpa using hx)
      refine e_c hP rfl ?_
      exact e_ret hP rfl rfl h
    | 3, hk, hx =>
      cases hk
      have h := h.2.2.2.2.1 (by simpa using hx)
      refine e_c hP rfl ?_
      exact e_ret hP rfl rfl h
    | 4, hk, hx =>
      cases hk
      have h := h.2.2.2.2.2.1 (by simpa using hx)
      refine e_ld hP rfl rfl ?_
      refine e_ldR hP rfl rfl (nz_q (tw_p ht 0)) ?_
      refine e_call hP rfl rfl rfl (Nat.le_of_ble_eq_true rfl) (Nat.le_of_ble_eq_true rfl) (rcv0 (sh_5 hS) (by decide)) ?_
      refine Ca.mono h (fun r hr => ?_)
      obtain ⟨M6, v7, rfl, h⟩ := hr
      show En 39 18 [some (.inr (.inr 6)), some (.inr (.inr (t + 1))), some (.inl v2)] [.inl v7] S M6 Q
      exact e_ret hP rfl (decide_eq_true h.1) h.2
    | 5, hk, hx =>
      cases hk
      have h := h.2.2.2.2.2.2.1 (by simpa using hx)
      refine e_c hP rfl ?_
      exact e_ret hP rfl rfl h
    | 6, hk, hx =>
      cases hk
      have h := h.2.2.2.2.2.2.2.1 (by simpa using hx)
      refine e_c hP rfl ?_
      exact e_ret hP rfl rfl h
    | 7, hk, hx =>
      cases hk
      have h := h.2.2.2.2.2.2.2.2.1 (by simpa using hx)
      refine e_c hP rfl ?_
      exact e_ret hP rfl rfl h
    | 8, hk, hx =>
      cases hk
      have h := h.2.2.2.2.2.2.2.2.2.1 (by simpa using hx)
      refine e_c hP rfl ?_
      exact e_ret hP rfl rfl h
    | 9, hk, hx =>
      cases hk
      have h := h.2.2.2.2.2.2.2.2.2.2.1 (by simpa using hx)
      refine e_c hP rfl ?_
      exact e_ret hP rfl rfl h
    | 10, hk, hx =>
      cases hk
      have h := h.2.2.2.2.2.2.2.2.2.2.2.1 (by simpa using hx)
      refine e_c hP rfl ?_
      exact e_ret hP rfl rfl h
    | 11, hk, hx =>
      cases hk
      have h := h.2.2.2.2.2.2.2.2.2.2.2.2.1 (by simpa using hx)
      refine e_ld hP rfl rfl ?_
      refine e_ldR hP rfl rfl (nz_q (tw_p ht 0)) ?_
      refine e_call hP rfl rfl rfl (Nat.le_of_ble_eq_true rfl) (Nat.le_of_ble_eq_true rfl) (rcv0 (sh_5 hS) (by decide)) ?_
      refine Ca.mono h (fun r hr => ?_)
      obtain ⟨M8, v9, rfl, h⟩ := hr
      show En 39 14 [some (.inr (.inr 6)), some (.inr (.inr (t + 1))), some (.inl v2)] [.inl v9] S M8 Q
      exact e_ret hP rfl (decide_eq_true h.1) h.2
    | 12, hk, hx =>
      cases hk
      have h := h.2.2.2.2.2.2.2.2.2.2.2.2.2.1 (by simpa using hx)
      refine e_ld hP rfl rfl ?_
      refine e_ldR hP rfl rfl (nz_q (tw_p ht 0)) ?_
      refine e_call hP rfl rfl rfl (Nat.le_of_ble_eq_true rfl) (Nat.le_of_ble_eq_true rfl) (rcv0 (sh_5 hS) (by decide)) ?_
      refine Ca.mono h (fun r hr => ?_)
      obtain ⟨M10, v11, rfl, h⟩ := hr
      show En 39 30 [some (.inr (.inr 6)), some (.inr (.inr (t + 1))), some (.inl v2)] [.inl v11] S M10 Q
      exact e_ret hP rfl (decide_eq_true h.1) h.2
    | 13, hk, hx =>
      cases hk
      have h := h.2.2.2.2.2.2.2.2.2.2.2.2.2.2.1 (by simpa using hx)
      refine e_c hP rfl ?_
      exact e_ret hP rfl rfl h
    | 14, hk, hx =>
      cases hk
      have h := h.2.2.2.2.2.2.2.2.2.2.2.2.2.2.2.1 (by simpa using hx)
      refine e_ld hP rfl rfl ?_
      refine e_ldR hP rfl rfl (nz_q (tw_p ht 0)) ?_
      refine e_call hP rfl rfl rfl (Nat.le_of_ble_eq_true rfl) (Nat.le_of_ble_eq_true rfl) (rcv0 (sh_5 hS) (by decide)) ?_
      refine Ca.mono h (fun r hr => ?_)
      obtain ⟨M12, v13, rfl, h⟩ := hr
      show En 39 38 [some (.inr (.inr 6)), some (.inr (.inr (t + 1))), some (.inl v2)] [.inl v13] S M12 Q
      exact e_ret hP rfl (decide_eq_true h.1) h.2
    | 15, hk, hx =>
      cases hk
      have h := h.2.2.2.2.2.2.2.2.2.2.2.2.2.2.2.2.1 (by simpa using hx)
      refine e_c hP rfl ?_
      exact e_ret hP rfl rfl h
    | 16, hk, hx =>
      cases hk
      have h := h.2.2.2.2.2.2.2.2.2.2.2.2.2.2.2.2.2.1 (by simpa using hx)
      refine e_c hP rfl ?_
      exact e_ret hP rfl rfl h
    | 17, hk, hx =>
      cases hk
      have h := h.2.2.2.2.2.2.2.2.2.2.2.2.2.2.2.2.2.2.1 (by simpa using hx)
      refine e_c hP rfl ?_
      exact e_ret hP rfl rfl h
    | 18, hk, hx =>
      cases hk
      have h := h.2.2.2.2.2.2.2.2.2.2.2.2.2.2.2.2.2.2.2.1 (by simpa using hx)
      refine e_c hP rfl ?_
      exact e_ret hP rfl rfl h
    | 19, hk, hx =>
      cases hk
      have h := h.2.2.2.2.2.2.2.2.2.2.2.2.2.2.2.2.2.2.2.2.1 (by simpa using hx)
      refine e_ld hP rfl rfl ?_
      refine e_ldR hP rfl rfl (nz_q (tw_p ht 0)) ?_
      refine e_call hP rfl rfl rfl (Nat.le_of_ble_eq_true rfl) (Nat.le_of_ble_eq_true rfl) (rcv0 (sh_5 hS) (by decide)) ?_
      refine Ca.mono h (fun r hr => ?_)
      obtain ⟨M14, v15, rfl, h⟩ := hr
      show En 39 34 [some (.inr (.inr 6)), some (.inr (.inr (t + 1))), some (.inl v2)] [.inl v15] S M14 Q
      exact e_ret hP rfl (decide_eq_true h.1) h.2
    | 20, hk, hx =>
      cases hk
      have h := h.2.2.2.2.2.2.2.2.2.2.2.2.2.2.2.2.2.2.2.2.2 (by simpa using hx)
      refine e_ld hP rfl rfl ?_
      refine e_ldR hP rfl rfl (nz_q (tw_p ht 0)) ?_
      refine e_call hP rfl rfl rfl (Nat.le_of_ble_eq_true rfl) (Nat.le_of_ble_eq_true rfl) (rcv0 (sh_5 hS) (by decide)) ?_
      refine Ca.mono h (fun r hr => ?_)
      obtain ⟨M16, v17, rfl, h⟩ := hr
      show En 39 22 [some (.inr (.inr 6)), some (.inr (.inr (t + 1))), some (.inl v2)] [.inl v17] S M16 Q
      exact e_ret hP rfl (decide_eq_true h.1) h.2
    | k + 21, hk, hx => simp at hk
theorem r_X5_readPerson_0 {S : Shp} {M : Mem} {Q : Res → Prop} (hS : KC S) {t : Nat} (ht : t ∈ bx_tw) (h : Ca 49 [.inr (.inr 6)] S M (fun r => ∃ (M1 : Mem) (v2 : Int), r = (S, M1, some (.inl v2)) ∧ Ca 48 [.inr (.inr 6), .inl (44 : Int)] S M1 (fun r => ∃ (M3 : Mem) (v4 : Int), r = (S, M3, some (.inl v4)) ∧ ((v4 ≠ 0 → Ca 51 [.inr (.inr 6), .inl (9 : Int)] S M3 (fun r => ∃ (M5 : Mem) (v6 : Int), r = (S, M5, some (.inl v6)) ∧ ((v6 = (-1 : Int) → Q (S, M5, some (.inl (0 : Int)))) ∧ (v6 ≠ (-1 : Int) → Ca 48 [.inr (.inr 6), .inl (44 : Int)] S M5 (fun r => ∃ (M7 : Mem) (v8 : Int), r = (S, M7, some (.inl v8)) ∧ ((v8 ≠ 0 → Ca 51 [.inr (.inr 6), .inl (99 : Int)] S M7 (fun r => ∃ (M9 : Mem) (v10 : Int), r = (S, M9, some (.inl v10)) ∧ ((v10 = (-1 : Int) → Q (S, M9, some (.inl (0 : Int)))) ∧ (v10 ≠ (-1 : Int) → Ca 48 [.inr (.inr 6), .inl (59 : Int)] S M9 (fun r => ∃ (M11 : Mem) (v12 : Int), r = (S, M11, some (.inl v12)) ∧ ((v12 = 0 → Q (S, M11, some (.inl (0 : Int)))) ∧ (v12 ≠ 0 → Ca 66 [.inr (.inr (t + 1)), .inr (.inr 8), .inl v2, .inl v6, .inl v10] S M11 (fun r => ∃ (M13 : Mem) (v14 : Int), r = (S, M13, some (.inl v14)) ∧ ((v14 = 0 → Q (S, M13, some (.inl (0 : Int)))) ∧ (v14 ≠ 0 → Q (S, M13, some (.inl (1 : Int))))))))))))) ∧ (v8 = 0 → Q (S, M7, some (.inl (0 : Int)))))))))) ∧ (v4 = 0 → Q (S, M3, some (.inl (0 : Int)))))))) : Ca 40 [.inr (.inr 6), .inr (.inr (t + 1))] S M Q := by
  have hP : PR 40 = (bc_40, 5) := rfl
  refine ⟨Nat.le_of_ble_eq_true rfl, ?_⟩
  show En 40 0 [some (.inr (.inr 6)), some (.inr (.inr (t + 1))), none, none, none] [] S M Q
  refine e_ld hP rfl rfl ?_
  refine e_call hP rfl rfl rfl (Nat.le_of_ble_eq_true rfl) (Nat.le_of_ble_eq_true rfl) (rcv0 (sh_5 hS) (by decide)) ?_
  refine Ca.mono h (fun r hr => ?_)
  obtain ⟨M1, v2, rfl, h⟩ := hr
  show En 40 2 [some (.inr (.inr 6)), some (.inr (.inr (t + 1))), none, none, none] [.inl v2] S M1 Q
  refine e_st (L' := [some (.inr (.inr 6)), some (.inr (.inr (t + 1))), some (.inl v2), none, none]) hP rfl rfl ?_
  refine e_ld hP rfl rfl ?_
  refine e_c hP rfl ?_
  refine e_call hP rfl rfl rfl (Nat.le_of_ble_eq_true rfl) (Nat.le_of_ble_eq_true rfl) (rcv0 (sh_5 hS) (by decide)) ?_
  refine Ca.mono h (fun r hr => ?_)
  obtain ⟨M3, v4, rfl, h⟩ := hr
  show En 40 6 [some (.inr (.inr 6)), some (.inr (.inr (t + 1))), some (.inl v2), none, none] [.inl v4] S M3 Q
  refine e_zne hP rfl (fun hc => ?_) (fun hc => ?_)
  · have h := h.1 hc
    refine e_ld hP rfl rfl ?_
    refine e_c hP rfl ?_
    refine e_call hP rfl rfl rfl (Nat.le_of_ble_eq_true rfl) (Nat.le_of_ble_eq_true rfl) (rcv0 (sh_5 hS) (by decide)) ?_
    refine Ca.mono h (fun r hr => ?_)
    obtain ⟨M5, v6, rfl, h⟩ := hr
    show En 40 12 [some (.inr (.inr 6)), some (.inr (.inr (t + 1))), some (.inl v2), none, none] [.inl v6] S M5 Q
    refine e_st (L' := [some (.inr (.inr 6)), some (.inr (.inr (t + 1))), some (.inl v2), some (.inl v6), none]) hP rfl rfl ?_
    refine e_ld hP rfl rfl ?_
    refine e_c hP rfl ?_
    refine e_ceq hP rfl (fun hc => ?_) (fun hc => ?_)
    · have h := h.1 hc
      refine e_c hP rfl ?_
      exact e_ret hP rfl rfl h
    · have h := h.2 hc
      refine e_ld hP rfl rfl ?_
      refine e_c hP rfl ?_
      refine e_call hP rfl rfl rfl (Nat.le_of_ble_eq_true rfl) (Nat.le_of_ble_eq_true rfl) (rcv0 (sh_5 hS) (by decide)) ?_
      refine Ca.mono h (fun r hr => ?_)
      obtain ⟨M7, v8, rfl, h⟩ := hr
      show En 40 19 [some (.inr (.inr 6)), some (.inr (.inr (t + 1))), some (.inl v2), some (.inl v6), none] [.inl v8] S M7 Q
      refine e_zne hP rfl (fun hc => ?_) (fun hc => ?_)
      · have h := h.1 hc
        refine e_ld hP rfl rfl ?_
        refine e_c hP rfl ?_
        refine e_call hP rfl rfl rfl (Nat.le_of_ble_eq_true rfl) (Nat.le_of_ble_eq_true rfl) (rcv0 (sh_5 hS) (by decide)) ?_
        refine Ca.mono h (fun r hr => ?_)
        obtain ⟨M9, v10, rfl, h⟩ := hr
        show En 40 25 [some (.inr (.inr 6)), some (.inr (.inr (t + 1))), some (.inl v2), some (.inl v6), none] [.inl v10] S M9 Q
        refine e_st (L' := [some (.inr (.inr 6)), some (.inr (.inr (t + 1))), some (.inl v2), some (.inl v6), some (.inl v10)]) hP rfl rfl ?_
        refine e_ld hP rfl rfl ?_
        refine e_c hP rfl ?_
        refine e_ceq hP rfl (fun hc => ?_) (fun hc => ?_)
        · have h := h.1 hc
          refine e_c hP rfl ?_
          exact e_ret hP rfl rfl h
        · have h := h.2 hc
          refine e_ld hP rfl rfl ?_
          refine e_c hP rfl ?_
          refine e_call hP rfl rfl rfl (Nat.le_of_ble_eq_true rfl) (Nat.le_of_ble_eq_true rfl) (rcv0 (sh_5 hS) (by decide)) ?_
          refine Ca.mono h (fun r hr => ?_)
          obtain ⟨M11, v12, rfl, h⟩ := hr
          show En 40 32 [some (.inr (.inr 6)), some (.inr (.inr (t + 1))), some (.inl v2), some (.inl v6), some (.inl v10)] [.inl v12] S M11 Q
          refine e_zeq hP rfl (fun hc => ?_) (fun hc => ?_)
          · have h := h.1 hc
            refine e_c hP rfl ?_
            exact e_ret hP rfl rfl h
          · have h := h.2 hc
            refine e_ldR hP rfl rfl (nz_q (tw_p ht 0)) ?_
            refine e_ld hP rfl rfl ?_
            refine e_gR (a := 5) (w := 8) 5 (sh_5 hS) hP rfl (by decide) rfl ?_
            refine e_ld hP rfl rfl ?_
            refine e_ld hP rfl rfl ?_
            refine e_ld hP rfl rfl ?_
            refine e_call hP rfl rfl rfl (Nat.le_of_ble_eq_true rfl) (Nat.le_of_ble_eq_true rfl) (rcv0 (tw_o hS ht) (tw_p ht 0)) ?_
            refine Ca.mono h (fun r hr => ?_)
            obtain ⟨M13, v14, rfl, h⟩ := hr
            show En 40 40 [some (.inr (.inr 6)), some (.inr (.inr (t + 1))), some (.inl v2), some (.inl v6), some (.inl v10)] [.inl v14] S M13 Q
            refine e_zeq hP rfl (fun hc => ?_) (fun hc => ?_)
            · have h := h.1 hc
              refine e_c hP rfl ?_
              exact e_ret hP rfl rfl h
            · have h := h.2 hc
              refine e_c hP rfl ?_
              refine e_go hP rfl ?_
              exact e_ret hP rfl rfl h
      · have h := h.2 hc
        refine e_c hP rfl ?_
        exact e_ret hP rfl rfl h
  · have h := h.2 hc
    refine e_c hP rfl ?_
    exact e_ret hP rfl rfl h
theorem r_X5_readGoods_0 {S : Shp} {M : Mem} {Q : Res → Prop} (hS : KC S) {t : Nat} (ht : t ∈ bx_tw) (h : Ca 51 [.inr (.inr 6), .inl (99 : Int)] S M (fun r => ∃ (M1 : Mem) (v2 : Int), r = (S, M1, some (.inl v2)) ∧ ((v2 = (-1 : Int) → Q (S, up2 M1 t 1 v2, some (.inl (0 : Int)))) ∧ (v2 ≠ (-1 : Int) → Ca 48 [.inr (.inr 6), .inl (59 : Int)] S (up2 M1 t 1 v2) (fun r => ∃ (M3 : Mem) (v4 : Int), r = (S, M3, some (.inl v4)) ∧ ((v4 = 0 → Q (S, M3, some (.inl (0 : Int)))) ∧ (v4 ≠ 0 → Q (S, M3, some (.inl (1 : Int)))))))))) : Ca 41 [.inr (.inr 6), .inr (.inr (t + 1))] S M Q := by
  have hP : PR 41 = (bc_41, 3) := rfl
  refine ⟨Nat.le_of_ble_eq_true rfl, ?_⟩
  show En 41 0 [some (.inr (.inr 6)), some (.inr (.inr (t + 1))), none] [] S M Q
  refine e_ld hP rfl rfl ?_
  refine e_c hP rfl ?_
  refine e_call hP rfl rfl rfl (Nat.le_of_ble_eq_true rfl) (Nat.le_of_ble_eq_true rfl) (rcv0 (sh_5 hS) (by decide)) ?_
  refine Ca.mono h (fun r hr => ?_)
  obtain ⟨M1, v2, rfl, h⟩ := hr
  show En 41 3 [some (.inr (.inr 6)), some (.inr (.inr (t + 1))), none] [.inl v2] S M1 Q
  refine e_st (L' := [some (.inr (.inr 6)), some (.inr (.inr (t + 1))), some (.inl v2)]) hP rfl rfl ?_
  refine e_ldR hP rfl rfl (nz_q (tw_p ht 0)) ?_
  refine e_ld hP rfl rfl ?_
  refine e_pI (a := 7) t (tw_o hS ht) (tw_p ht 0) hP rfl (by decide) ?_
  refine e_ld hP rfl rfl ?_
  refine e_c hP rfl ?_
  refine e_ceq hP rfl (fun hc => ?_) (fun hc => ?_)
  · have h := h.1 hc
    refine e_c hP rfl ?_
    exact e_ret hP rfl rfl h
  · have h := h.2 hc
    refine e_ld hP rfl rfl ?_
    refine e_c hP rfl ?_
    refine e_call hP rfl rfl rfl (Nat.le_of_ble_eq_true rfl) (Nat.le_of_ble_eq_true rfl) (rcv0 (sh_5 hS) (by decide)) ?_
    refine Ca.mono h (fun r hr => ?_)
    obtain ⟨M3, v4, rfl, h⟩ := hr
    show En 41 13 [some (.inr (.inr 6)), some (.inr (.inr (t + 1))), some (.inl v2)] [.inl v4] S M3 Q
    refine e_zeq hP rfl (fun hc => ?_) (fun hc => ?_)
    · have h := h.1 hc
      refine e_c hP rfl ?_
      exact e_ret hP rfl rfl h
    · have h := h.2 hc
      refine e_c hP rfl ?_
      refine e_go hP rfl ?_
      exact e_ret hP rfl rfl h
theorem r_X5_readReach_0 {S : Shp} {M : Mem} {Q : Res → Prop} (hS : KC S) {t : Nat} (ht : t ∈ bx_tw) (h : Ca 51 [.inr (.inr 6), .inl (25 : Int)] S M (fun r => ∃ (M1 : Mem) (v2 : Int), r = (S, M1, some (.inl v2)) ∧ ((v2 = (-1 : Int) → Q (S, up2 M1 t 2 v2, some (.inl (0 : Int)))) ∧ (v2 ≠ (-1 : Int) → Ca 48 [.inr (.inr 6), .inl (59 : Int)] S (up2 M1 t 2 v2) (fun r => ∃ (M3 : Mem) (v4 : Int), r = (S, M3, some (.inl v4)) ∧ ((v4 = 0 → Q (S, M3, some (.inl (0 : Int)))) ∧ (v4 ≠ 0 → Q (S, M3, some (.inl (1 : Int)))))))))) : Ca 42 [.inr (.inr 6), .inr (.inr (t + 1))] S M Q := by
  have hP : PR 42 = (bc_42, 3) := rfl
  refine ⟨Nat.le_of_ble_eq_true rfl, ?_⟩
  show En 42 0 [some (.inr (.inr 6)), some (.inr (.inr (t + 1))), none] [] S M Q
  refine e_ld hP rfl rfl ?_
  refine e_c hP rfl ?_
  refine e_call hP rfl rfl rfl (Nat.le_of_ble_eq_true rfl) (Nat.le_of_ble_eq_true rfl) (rcv0 (sh_5 hS) (by decide)) ?_
  refine Ca.mono h (fun r hr => ?_)
  obtain ⟨M1, v2, rfl, h⟩ := hr
  show En 42 3 [some (.inr (.inr 6)), some (.inr (.inr (t + 1))), none] [.inl v2] S M1 Q
  refine e_st (L' := [some (.inr (.inr 6)), some (.inr (.inr (t + 1))), some (.inl v2)]) hP rfl rfl ?_
  refine e_ldR hP rfl rfl (nz_q (tw_p ht 0)) ?_
  refine e_ld hP rfl rfl ?_
  refine e_pI (a := 7) t (tw_o hS ht) (tw_p ht 0) hP rfl (by decide) ?_
  refine e_ld hP rfl rfl ?_
  refine e_c hP rfl ?_
  refine e_ceq hP rfl (fun hc => ?_) (fun hc => ?_)
  · have h := h.1 hc
    refine e_c hP rfl ?_
    exact e_ret hP rfl rfl h
  · have h := h.2 hc
    refine e_ld hP rfl rfl ?_
    refine e_c hP rfl ?_
    refine e_call hP rfl rfl rfl (Nat.le_of_ble_eq_true rfl) (Nat.le_of_ble_eq_true rfl) (rcv0 (sh_5 hS) (by decide)) ?_
    refine Ca.mono h (fun r hr => ?_)
    obtain ⟨M3, v4, rfl, h⟩ := hr
    show En 42 13 [some (.inr (.inr 6)), some (.inr (.inr (t + 1))), some (.inl v2)] [.inl v4] S M3 Q
    refine e_zeq hP rfl (fun hc => ?_) (fun hc => ?_)
    · have h := h.1 hc
      refine e_c hP rfl ?_
      exact e_ret hP rfl rfl h
    · have h := h.2 hc
      refine e_c hP rfl ?_
      refine e_go hP rfl ?_
      exact e_ret hP rfl rfl h
theorem r_X5_readCost_0 {S : Shp} {M : Mem} {Q : Res → Prop} (hS : KC S) {t : Nat} (ht : t ∈ bx_tw) (h : Ca 51 [.inr (.inr 6), .inl (9 : Int)] S M (fun r => ∃ (M1 : Mem) (v2 : Int), r = (S, M1, some (.inl v2)) ∧ ((v2 = (-1 : Int) → Q (S, up2 M1 t 3 v2, some (.inl (0 : Int)))) ∧ (v2 ≠ (-1 : Int) → Ca 48 [.inr (.inr 6), .inl (59 : Int)] S (up2 M1 t 3 v2) (fun r => ∃ (M3 : Mem) (v4 : Int), r = (S, M3, some (.inl v4)) ∧ ((v4 = 0 → Q (S, M3, some (.inl (0 : Int)))) ∧ (v4 ≠ 0 → Q (S, M3, some (.inl (1 : Int)))))))))) : Ca 43 [.inr (.inr 6), .inr (.inr (t + 1))] S M Q := by
  have hP : PR 43 = (bc_43, 3) := rfl
  refine ⟨Nat.le_of_ble_eq_true rfl, ?_⟩
  show En 43 0 [some (.inr (.inr 6)), some (.inr (.inr (t + 1))), none] [] S M Q
  refine e_ld hP rfl rfl ?_
  refine e_c hP rfl ?_
  refine e_call hP rfl rfl rfl (Nat.le_of_ble_eq_true rfl) (Nat.le_of_ble_eq_true rfl) (rcv0 (sh_5 hS) (by decide)) ?_
  refine Ca.mono h (fun r hr => ?_)
  obtain ⟨M1, v2, rfl, h⟩ := hr
  show En 43 3 [some (.inr (.inr 6)), some (.inr (.inr (t + 1))), none] [.inl v2] S M1 Q
  refine e_st (L' := [some (.inr (.inr 6)), some (.inr (.inr (t + 1))), some (.inl v2)]) hP rfl rfl ?_
  refine e_ldR hP rfl rfl (nz_q (tw_p ht 0)) ?_
  refine e_ld hP rfl rfl ?_
  refine e_pI (a := 7) t (tw_o hS ht) (tw_p ht 0) hP rfl (by decide) ?_
  refine e_ld hP rfl rfl ?_
  refine e_c hP rfl ?_
  refine e_ceq hP rfl (fun hc => ?_) (fun hc => ?_)
  · have h := h.1 hc
    refine e_c hP rfl ?_
    exact e_ret hP rfl rfl h
  · have h := h.2 hc
    refine e_ld hP rfl rfl ?_
    refine e_c hP rfl ?_
    refine e_call hP rfl rfl rfl (Nat.le_of_ble_eq_true rfl) (Nat.le_of_ble_eq_true rfl) (rcv0 (sh_5 hS) (by decide)) ?_
    refine Ca.mono h (fun r hr => ?_)
    obtain ⟨M3, v4, rfl, h⟩ := hr
    show En 43 13 [some (.inr (.inr 6)), some (.inr (.inr (t + 1))), some (.inl v2)] [.inl v4] S M3 Q
    refine e_zeq hP rfl (fun hc => ?_) (fun hc => ?_)
    · have h := h.1 hc
      refine e_c hP rfl ?_
      exact e_ret hP rfl rfl h
    · have h := h.2 hc
      refine e_c hP rfl ?_
      refine e_go hP rfl ?_
      exact e_ret hP rfl rfl h
theorem r_X5_readOrder_0 {S : Shp} {M : Mem} {Q : Res → Prop} (hS : KC S) {t : Nat} (ht : t ∈ bx_tw) (h : Ca 49 [.inr (.inr 6)] S M (fun r => ∃ (M1 : Mem) (v2 : Int), r = (S, M1, some (.inl v2)) ∧ ((v2 = 0 → Q (S, M1, some (.inl (0 : Int)))) ∧ (v2 ≠ 0 → Ca 50 [.inr (.inr 6), .inl v2] S M1 (fun r => ∃ (M3 : Mem) (v4 : Int), r = (S, M3, some (.inl v4)) ∧ Ca 219 [.inl v4] S M3 (fun r => ∃ (M5 : Mem) (v6 : Int), r = (S, M5, some (.inl v6)) ∧ ((v6 ≠ v2 → Q (S, M5, some (.inl (0 : Int)))) ∧ (v6 = v2 → Ca 48 [.inr (.inr 6), .inl (59 : Int)] S M5 (fun r => ∃ (M7 : Mem) (v8 : Int), r = (S, M7, some (.inl v8)) ∧ ((v8 ≠ 0 → Ca 68 [.inr (.inr (t + 1)), .inr (.inr 8), .inl v2] S M7 (fun r => ∃ M9 : Mem, r = (S, M9, none) ∧ Q (S, M9, some (.inl (1 : Int))))) ∧ (v8 = 0 → Q (S, M7, some (.inl (0 : Int)))))))))))))) : Ca 44 [.inr (.inr 6), .inr (.inr (t + 1))] S M Q := by
  have hP : PR 44 = (bc_44, 3) := rfl
  refine ⟨Nat.le_of_ble_eq_true rfl, ?_⟩
  show En 44 0 [some (.inr (.inr 6)), some (.inr (.inr (t + 1))), none] [] S M Q
  refine e_ld hP rfl rfl ?_
  refine e_call hP rfl rfl rfl (Nat.le_of_ble_eq_true rfl) (Nat.le_of_ble_eq_true rfl) (rcv0 (sh_5 hS) (by decide)) ?_
  refine Ca.mono h (fun r hr => ?_)
  obtain ⟨M1, v2, rfl, h⟩ := hr
  show En 44 2 [some (.inr (.inr 6)), some (.inr (.inr (t + 1))), none] [.inl v2] S M1 Q
  refine e_st (L' := [some (.inr (.inr 6)), some (.inr (.inr (t + 1))), some (.inl v2)]) hP rfl rfl ?_
  refine e_ld hP rfl rfl ?_
  refine e_zeq hP rfl (fun hc => ?_) (fun hc => ?_)
  · have h := h.1 hc
    refine e_c hP rfl ?_
    exact e_ret hP rfl rfl h
  · have h := h.2 hc
    refine e_ld hP rfl rfl ?_
    refine e_ld hP rfl rfl ?_
    refine e_call hP rfl rfl rfl (Nat.le_of_ble_eq_true rfl) (Nat.le_of_ble_eq_true rfl) (rcv0 (sh_5 hS) (by decide)) ?_
    refine Ca.mono h (fun r hr => ?_)
    obtain ⟨M3, v4, rfl, h⟩ := hr
    show En 44 8 [some (.inr (.inr 6)), some (.inr (.inr (t + 1))), some (.inl v2)] [.inl v4] S M3 Q
    refine e_call hP rfl rfl rfl (Nat.le_of_ble_eq_true rfl) (Nat.le_of_ble_eq_true rfl) rcv1 ?_
    refine Ca.mono h (fun r hr => ?_)
    obtain ⟨M5, v6, rfl, h⟩ := hr
    show En 44 9 [some (.inr (.inr 6)), some (.inr (.inr (t + 1))), some (.inl v2)] [.inl v6] S M5 Q
    refine e_ld hP rfl rfl ?_
    refine e_cne hP rfl (fun hc => ?_) (fun hc => ?_)
    · have h := h.1 hc
      refine e_c hP rfl ?_
      exact e_ret hP rfl rfl h
    · have h := h.2 hc
      refine e_ld hP rfl rfl ?_
      refine e_c hP rfl ?_
      refine e_call hP rfl rfl rfl (Nat.le_of_ble_eq_true rfl) (Nat.le_of_ble_eq_true rfl) (rcv0 (sh_5 hS) (by decide)) ?_
      refine Ca.mono h (fun r hr => ?_)
      obtain ⟨M7, v8, rfl, h⟩ := hr
      show En 44 14 [some (.inr (.inr 6)), some (.inr (.inr (t + 1))), some (.inl v2)] [.inl v8] S M7 Q
      refine e_zne hP rfl (fun hc => ?_) (fun hc => ?_)
      · have h := h.1 hc
        refine e_ldR hP rfl rfl (nz_q (tw_p ht 0)) ?_
        refine e_ld hP rfl rfl ?_
        refine e_gR (a := 5) (w := 8) 5 (sh_5 hS) hP rfl (by decide) rfl ?_
        refine e_ld hP rfl rfl ?_
        refine e_call hP rfl rfl rfl (Nat.le_of_ble_eq_true rfl) (Nat.le_of_ble_eq_true rfl) (rcv0 (tw_o hS ht) (tw_p ht 0)) ?_
        refine Ca.mono h (fun r hr => ?_)
        obtain ⟨M9, rfl, h⟩ := hr
        show En 44 22 [some (.inr (.inr 6)), some (.inr (.inr (t + 1))), some (.inl v2)] [] S M9 Q
        refine e_c hP rfl ?_
        exact e_ret hP rfl rfl h
      · have h := h.2 hc
        refine e_c hP rfl ?_
        exact e_ret hP rfl rfl h
theorem r_X5_readVowels_0 {S : Shp} {M : Mem} {Q : Res → Prop} (hS : KC S) {t : Nat} (ht : t ∈ bx_tw) (h : Ca 49 [.inr (.inr 6)] S M (fun r => ∃ (M1 : Mem) (v2 : Int), r = (S, M1, some (.inl v2)) ∧ Ca 50 [.inr (.inr 6), .inl v2] S M1 (fun r => ∃ (M3 : Mem) (v4 : Int), r = (S, M3, some (.inl v4)) ∧ ((v2 ≤ 0 → Q (S, up2 M3 t 4 v4, some (.inl (0 : Int)))) ∧ (0 < v2 → Ca 48 [.inr (.inr 6), .inl (59 : Int)] S (up2 M3 t 4 v4) (fun r => ∃ (M5 : Mem) (v6 : Int), r = (S, M5, some (.inl v6)) ∧ ((v6 = 0 → Q (S, M5, some (.inl (0 : Int)))) ∧ (v6 ≠ 0 → Q (S, M5, some (.inl (1 : Int))))))))))) : Ca 45 [.inr (.inr 6), .inr (.inr (t + 1))] S M Q := by
  have hP : PR 45 = (bc_45, 3) := rfl
  refine ⟨Nat.le_of_ble_eq_true rfl, ?_⟩
  show En 45 0 [some (.inr (.inr 6)), some (.inr (.inr (t + 1))), none] [] S M Q
  refine e_ld hP rfl rfl ?_
  refine e_call hP rfl rfl rfl (Nat.le_of_ble_eq_true rfl) (Nat.le_of_ble_eq_true rfl) (rcv0 (sh_5 hS) (by decide)) ?_
  refine Ca.mono h (fun r hr => ?_)
  obtain ⟨M1, v2, rfl, h⟩ := hr
  show En 45 2 [some (.inr (.inr 6)), some (.inr (.inr (t + 1))), none] [.inl v2] S M1 Q
  refine e_st (L' := [some (.inr (.inr 6)), some (.inr (.inr (t + 1))), some (.inl v2)]) hP rfl rfl ?_
  refine e_ldR hP rfl rfl (nz_q (tw_p ht 0)) ?_
  refine e_ld hP rfl rfl ?_
  refine e_ld hP rfl rfl ?_
  refine e_call hP rfl rfl rfl (Nat.le_of_ble_eq_true rfl) (Nat.le_of_ble_eq_true rfl) (rcv0 (sh_5 hS) (by decide)) ?_
  refine Ca.mono h (fun r hr => ?_)
  obtain ⟨M3, v4, rfl, h⟩ := hr
  show En 45 7 [some (.inr (.inr 6)), some (.inr (.inr (t + 1))), some (.inl v2)] [.inl v4, .inr (.inr (t + 1))] S M3 Q
  refine e_pI (a := 7) t (tw_o hS ht) (tw_p ht 0) hP rfl (by decide) ?_
  refine e_ld hP rfl rfl ?_
  refine e_zle hP rfl (fun hc => ?_) (fun hc => ?_)
  · have h := h.1 hc
    refine e_c hP rfl ?_
    exact e_ret hP rfl rfl h
  · have h := h.2 hc
    refine e_ld hP rfl rfl ?_
    refine e_c hP rfl ?_
    refine e_call hP rfl rfl rfl (Nat.le_of_ble_eq_true rfl) (Nat.le_of_ble_eq_true rfl) (rcv0 (sh_5 hS) (by decide)) ?_
    refine Ca.mono h (fun r hr => ?_)
    obtain ⟨M5, v6, rfl, h⟩ := hr
    show En 45 13 [some (.inr (.inr 6)), some (.inr (.inr (t + 1))), some (.inl v2)] [.inl v6] S M5 Q
    refine e_zeq hP rfl (fun hc => ?_) (fun hc => ?_)
    · have h := h.1 hc
      refine e_c hP rfl ?_
      exact e_ret hP rfl rfl h
    · have h := h.2 hc
      refine e_c hP rfl ?_
      refine e_go hP rfl ?_
      exact e_ret hP rfl rfl h
theorem r_X5_readQuarrel_0 {S : Shp} {M : Mem} {Q : Res → Prop} (hS : KC S) {t : Nat} (ht : t ∈ bx_tw) (h : Ca 49 [.inr (.inr 6)] S M (fun r => ∃ (M1 : Mem) (v2 : Int), r = (S, M1, some (.inl v2)) ∧ ((v2 ≠ (2 : Int) → Q (S, M1, some (.inl (0 : Int)))) ∧ (v2 = (2 : Int) → (((6 : Int) ≤ (M1 5 4) → Q (S, M1, some (.inl (0 : Int)))) ∧ ((M1 5 4) < (6 : Int) → Ca 48 [.inr (.inr 6), .inl (59 : Int)] S M1 (fun r => ∃ (M3 : Mem) (v4 : Int), r = (S, M3, some (.inl v4)) ∧ ((v4 ≠ 0 → (inR ((M3 5 4) + (1 : Int))) ∧ (0 ≤ (0 : Int) ∧ (0 : Int) < 6) ∧ (0 ≤ (1 : Int) ∧ (1 : Int) < 6) ∧ Ca 71 [.inr (.inr (t + 1)), .inl ((up2 M3 5 4 ((M3 5 4) + (1 : Int))) 7 (0 : Int).toNat), .inl ((up2 M3 5 4 ((M3 5 4) + (1 : Int))) 7 (1 : Int).toNat)] S (up2 M3 5 4 ((M3 5 4) + (1 : Int))) (fun r => ∃ M8 : Mem, r = (S, M8, none) ∧ Q (S, M8, some (.inl (1 : Int))))) ∧ (v4 = 0 → Q (S, M3, some (.inl (0 : Int)))))))))))) : Ca 46 [.inr (.inr 6), .inr (.inr (t + 1))] S M Q := by
  have hP : PR 46 = (bc_46, 3) := rfl
  refine ⟨Nat.le_of_ble_eq_true rfl, ?_⟩
  show En 46 0 [some (.inr (.inr 6)), some (.inr (.inr (t + 1))), none] [] S M Q
  refine e_ld hP rfl rfl ?_
  refine e_call hP rfl rfl rfl (Nat.le_of_ble_eq_true rfl) (Nat.le_of_ble_eq_true rfl) (rcv0 (sh_5 hS) (by decide)) ?_
  refine Ca.mono h (fun r hr => ?_)
  obtain ⟨M1, v2, rfl, h⟩ := hr
  show En 46 2 [some (.inr (.inr 6)), some (.inr (.inr (t + 1))), none] [.inl v2] S M1 Q
  refine e_st (L' := [some (.inr (.inr 6)), some (.inr (.inr (t + 1))), some (.inl v2)]) hP rfl rfl ?_
  refine e_ld hP rfl rfl ?_
  refine e_c hP rfl ?_
  refine e_cne hP rfl (fun hc => ?_) (fun hc => ?_)
  · have h := h.1 hc
    refine e_c hP rfl ?_
    exact e_ret hP rfl rfl h
  · have h := h.2 hc
    refine e_ld hP rfl rfl ?_
    refine e_gI (a := 5) 5 (sh_5 hS) hP rfl (by decide) ?_
    refine e_c hP rfl ?_
    refine e_cge hP rfl (fun hc => ?_) (fun hc => ?_)
    · have h := h.1 hc
      refine e_c hP rfl ?_
      exact e_ret hP rfl rfl h
    · have h := h.2 hc
      refine e_ld hP rfl rfl ?_
      refine e_c hP rfl ?_
      refine e_call hP rfl rfl rfl (Nat.le_of_ble_eq_true rfl) (Nat.le_of_ble_eq_true rfl) (rcv0 (sh_5 hS) (by decide)) ?_
      refine Ca.mono h (fun r hr => ?_)
      obtain ⟨M3, v4, rfl, h⟩ := hr
      show En 46 13 [some (.inr (.inr 6)), some (.inr (.inr (t + 1))), some (.inl v2)] [.inl v4] S M3 Q
      refine e_zne hP rfl (fun hc => ?_) (fun hc => ?_)
      · have h := h.1 hc
        refine e_ld hP rfl rfl ?_
        refine e_dupR hP rfl ?_
        refine e_gI (a := 5) 5 (sh_5 hS) hP rfl (by decide) ?_
        refine e_c hP rfl ?_
        obtain ⟨hs5, h⟩ := h
        refine e_add hP rfl hs5 ?_
        refine e_pI (a := 5) 5 (sh_5 hS) (by decide) hP rfl (by decide) ?_
        refine e_ldR hP rfl rfl (nz_q (tw_p ht 0)) ?_
        refine e_ld hP rfl rfl ?_
        refine e_gR (a := 5) (w := 8) 5 (sh_5 hS) hP rfl (by decide) rfl ?_
        refine e_c hP rfl ?_
        obtain ⟨hs6, h⟩ := h
        refine e_al 7 (sh_7 hS) hP rfl hs6 ?_
        refine e_ld hP rfl rfl ?_
        refine e_gR (a := 5) (w := 8) 5 (sh_5 hS) hP rfl (by decide) rfl ?_
        refine e_c hP rfl ?_
        obtain ⟨hs7, h⟩ := h
        refine e_al 7 (sh_7 hS) hP rfl hs7 ?_
        refine e_call hP rfl rfl rfl (Nat.le_of_ble_eq_true rfl) (Nat.le_of_ble_eq_true rfl) (rcv0 (tw_o hS ht) (tw_p ht 0)) ?_
        refine Ca.mono h (fun r hr => ?_)
        obtain ⟨M8, rfl, h⟩ := hr
        show En 46 32 [some (.inr (.inr 6)), some (.inr (.inr (t + 1))), some (.inl v2)] [] S M8 Q
        refine e_c hP rfl ?_
        exact e_ret hP rfl rfl h
      · have h := h.2 hc
        refine e_c hP rfl ?_
        exact e_ret hP rfl rfl h
theorem r_X5_sign_0 {S : Shp} {M : Mem} {Q : Res → Prop} (hS : KC S) (h : (((M 5 2) ≤ (M 5 3) → Q (S, M, some (.inl (-1 : Int)))) ∧ ((M 5 3) < (M 5 2) → (0 ≤ (M 5 3) ∧ (M 5 3) < 200) ∧ Q (S, M, some (.inl (M 6 (M 5 3).toNat)))))) : Ca 47 [.inr (.inr 6)] S M Q := by
  have hP : PR 47 = (bc_47, 1) := rfl
  refine ⟨Nat.le_of_ble_eq_true rfl, ?_⟩
  show En 47 0 [some (.inr (.inr 6))] [] S M Q
  refine e_ld hP rfl rfl ?_
  refine e_gI (a := 5) 5 (sh_5 hS) hP rfl (by decide) ?_
  refine e_ld hP rfl rfl ?_
  refine e_gI (a := 5) 5 (sh_5 hS) hP rfl (by decide) ?_
  refine e_cge hP rfl (fun hc => ?_) (fun hc => ?_)
  · have h := h.1 hc
    refine e_c hP rfl ?_
    exact e_ret hP rfl rfl h
  · have h := h.2 hc
    refine e_ld hP rfl rfl ?_
    refine e_gR (a := 5) (w := 7) 5 (sh_5 hS) hP rfl (by decide) rfl ?_
    refine e_ld hP rfl rfl ?_
    refine e_gI (a := 5) 5 (sh_5 hS) hP rfl (by decide) ?_
    obtain ⟨hs1, h⟩ := h
    refine e_al 6 (sh_6 hS) hP rfl hs1 ?_
    refine e_go hP rfl ?_
    exact e_ret hP rfl rfl h
theorem r_X5_passes_0 {S : Shp} {M : Mem} {Q : Res → Prop} (hS : KC S) {p1 : Int} (h : Ca 47 [.inr (.inr 6)] S M (fun r => ∃ (M1 : Mem) (v2 : Int), r = (S, M1, some (.inl v2)) ∧ ((v2 = p1 → (inR ((M1 5 3) + (1 : Int))) ∧ Q (S, up2 M1 5 3 ((M1 5 3) + (1 : Int)), some (.inl (1 : Int)))) ∧ (v2 ≠ p1 → Q (S, M1, some (.inl (0 : Int))))))) : Ca 48 [.inr (.inr 6), .inl p1] S M Q := by
  have hP : PR 48 = (bc_48, 2) := rfl
  refine ⟨Nat.le_of_ble_eq_true rfl, ?_⟩
  show En 48 0 [some (.inr (.inr 6)), some (.inl p1)] [] S M Q
  refine e_ld hP rfl rfl ?_
  refine e_call hP rfl rfl rfl (Nat.le_of_ble_eq_true rfl) (Nat.le_of_ble_eq_true rfl) (rcv0 (sh_5 hS) (by decide)) ?_
  refine Ca.mono h (fun r hr => ?_)
  obtain ⟨M1, v2, rfl, h⟩ := hr
  show En 48 2 [some (.inr (.inr 6)), some (.inl p1)] [.inl v2] S M1 Q
  refine e_ld hP rfl rfl ?_
  refine e_ceq hP rfl (fun hc => ?_) (fun hc => ?_)
  · have h := h.1 hc
    refine e_ld hP rfl rfl ?_
    refine e_dupR hP rfl ?_
    refine e_gI (a := 5) 5 (sh_5 hS) hP rfl (by decide) ?_
    refine e_c hP rfl ?_
    obtain ⟨hs3, h⟩ := h
    refine e_add hP rfl hs3 ?_
    refine e_pI (a := 5) 5 (sh_5 hS) (by decide) hP rfl (by decide) ?_
    refine e_c hP rfl ?_
    exact e_ret hP rfl rfl h
  · have h := h.2 hc
    refine e_c hP rfl ?_
    exact e_ret hP rfl rfl h
theorem r_X5_readName_0 {S : Shp} {M : Mem} {Q : Res → Prop} (hS : KC S) (h : En 49 2 [some (.inr (.inr 6)), some (.inl (0 : Int))] [] S M Q) : Ca 49 [.inr (.inr 6)] S M Q := by
  have hP : PR 49 = (bc_49, 2) := rfl
  refine ⟨Nat.le_of_ble_eq_true rfl, ?_⟩
  show En 49 0 [some (.inr (.inr 6)), none] [] S M Q
  refine e_c hP rfl ?_
  refine e_st (L' := [some (.inr (.inr 6)), some (.inl (0 : Int))]) hP rfl rfl ?_
  exact h
theorem r_X5_readName_2 {S : Shp} {M : Mem} {Q : Res → Prop} (hS : KC S) {x1 : Int} (h : (((6 : Int) ≤ x1 → Q (S, M, some (.inl x1))) ∧ (x1 < (6 : Int) → Ca 47 [.inr (.inr 6)] S M (fun r => ∃ (M1 : Mem) (v2 : Int), r = (S, M1, some (.inl v2)) ∧ ((v2 < (97 : Int) → Q (S, M1, some (.inl x1))) ∧ ((97 : Int) ≤ v2 → Ca 47 [.inr (.inr 6)] S M1 (fun r => ∃ (M3 : Mem) (v4 : Int), r = (S, M3, some (.inl v4)) ∧ (((122 : Int) < v4 → Q (S, M3, some (.inl x1))) ∧ (v4 ≤ (122 : Int) → Ca 47 [.inr (.inr 6)] S M3 (fun r => ∃ (M5 : Mem) (v6 : Int), r = (S, M5, some (.inl v6)) ∧ (inR (v6 - (97 : Int))) ∧ (0 ≤ x1 ∧ x1 < 6) ∧ (inR (x1 + 1)) ∧ (inR (((up2 M5 7 x1.toNat (v6 - (97 : Int))) 5 3) + (1 : Int))) ∧ En 49 2 [some (.inr (.inr 6)), some (.inl (x1 + 1))] [] S (up2 (up2 M5 7 x1.toNat (v6 - (97 : Int))) 5 3 (((up2 M5 7 x1.toNat (v6 - (97 : Int))) 5 3) + (1 : Int))) Q)))))))))) : En 49 2 [some (.inr (.inr 6)), some (.inl x1)] [] S M Q := by
  have hP : PR 49 = (bc_49, 2) := rfl
  refine e_ld hP rfl rfl ?_
  refine e_c hP rfl ?_
  refine e_cge hP rfl (fun hc => ?_) (fun hc => ?_)
  · have h := h.1 hc
    refine e_ld hP rfl rfl ?_
    exact e_ret hP rfl rfl h
  · have h := h.2 hc
    refine e_ld hP rfl rfl ?_
    refine e_call hP rfl rfl rfl (Nat.le_of_ble_eq_true rfl) (Nat.le_of_ble_eq_true rfl) (rcv0 (sh_5 hS) (by decide)) ?_
    refine Ca.mono h (fun r hr => ?_)
    obtain ⟨M1, v2, rfl, h⟩ := hr
    show En 49 7 [some (.inr (.inr 6)), some (.inl x1)] [.inl v2] S M1 Q
    refine e_c hP rfl ?_
    refine e_clt hP rfl (fun hc => ?_) (fun hc => ?_)
    · have h := h.1 hc
      refine e_ld hP rfl rfl ?_
      exact e_ret hP rfl rfl h
    · have h := h.2 hc
      refine e_ld hP rfl rfl ?_
      refine e_call hP rfl rfl rfl (Nat.le_of_ble_eq_true rfl) (Nat.le_of_ble_eq_true rfl) (rcv0 (sh_5 hS) (by decide)) ?_
      refine Ca.mono h (fun r hr => ?_)
      obtain ⟨M3, v4, rfl, h⟩ := hr
      show En 49 11 [some (.inr (.inr 6)), some (.inl x1)] [.inl v4] S M3 Q
      refine e_c hP rfl ?_
      refine e_cgt hP rfl (fun hc => ?_) (fun hc => ?_)
      · have h := h.1 hc
        refine e_ld hP rfl rfl ?_
        exact e_ret hP rfl rfl h
      · have h := h.2 hc
        refine e_ld hP rfl rfl ?_
        refine e_gR (a := 5) (w := 8) 5 (sh_5 hS) hP rfl (by decide) rfl ?_
        refine e_ld hP rfl rfl ?_
        refine e_ld hP rfl rfl ?_
        refine e_call hP rfl rfl rfl (Nat.le_of_ble_eq_true rfl) (Nat.le_of_ble_eq_true rfl) (rcv0 (sh_5 hS) (by decide)) ?_
        refine Ca.mono h (fun r hr => ?_)
        obtain ⟨M5, v6, rfl, h⟩ := hr
        show En 49 18 [some (.inr (.inr 6)), some (.inl x1)] [.inl v6, .inl x1, .inr (.inr 8)] S M5 Q
        refine e_c hP rfl ?_
        obtain ⟨hs7, h⟩ := h
        refine e_sub hP rfl hs7 ?_
        obtain ⟨hs8, h⟩ := h
        refine e_as 7 (sh_7 hS) (by decide) hP rfl hs8 ?_
        obtain ⟨hs9, h⟩ := h
        refine e_inc (L' := [some (.inr (.inr 6)), some (.inl (x1 + 1))]) hP rfl rfl hs9 rfl ?_
        refine e_ld hP rfl rfl ?_
        refine e_dupR hP rfl ?_
        refine e_gI (a := 5) 5 (sh_5 hS) hP rfl (by decide) ?_
        refine e_c hP rfl ?_
        obtain ⟨hs10, h⟩ := h
        refine e_add hP rfl hs10 ?_
        refine e_pI (a := 5) 5 (sh_5 hS) (by decide) hP rfl (by decide) ?_
        refine e_go hP rfl ?_
        exact h
theorem r_X5_lettersRead_0 {S : Shp} {M : Mem} {Q : Res → Prop} (hS : KC S) {p1 : Int} (h : En 50 4 [some (.inr (.inr 6)), some (.inl p1), some (.inl (0 : Int)), some (.inl (0 : Int))] [] S M Q) : Ca 50 [.inr (.inr 6), .inl p1] S M Q := by
  have hP : PR 50 = (bc_50, 4) := rfl
  refine ⟨Nat.le_of_ble_eq_true rfl, ?_⟩
  show En 50 0 [some (.inr (.inr 6)), some (.inl p1), none, none] [] S M Q
  refine e_c hP rfl ?_
  refine e_st (L' := [some (.inr (.inr 6)), some (.inl p1), some (.inl (0 : Int)), none]) hP rfl rfl ?_
  refine e_c hP rfl ?_
  refine e_st (L' := [some (.inr (.inr 6)), some (.inl p1), some (.inl (0 : Int)), some (.inl (0 : Int))]) hP rfl rfl ?_
  exact h
theorem r_X5_lettersRead_4 {S : Shp} {M : Mem} {Q : Res → Prop} (hS : KC S) {x1 x2 x3 : Int} (h : ((x1 ≤ x3 → Q (S, M, some (.inl x2))) ∧ (x3 < x1 → (0 ≤ x3 ∧ x3 < 6) ∧ (0 ≤ (1 : Int) ∧ 0 ≤ (M 7 x3.toNat) ∧ (M 7 x3.toNat) < 32 ∧ inR ((1 : Int) * 2 ^ (M 7 x3.toNat).toNat)) ∧ (0 ≤ x2 ∧ 0 ≤ ((1 : Int) * 2 ^ (M 7 x3.toNat).toNat)) ∧ (inR (x3 + 1)) ∧ En 50 4 [some (.inr (.inr 6)), some (.inl x1), some (.inl (((x2.toNat ||| ((1 : Int) * 2 ^ (M 7 x3.toNat).toNat).toNat : Nat) : Int))), some (.inl (x3 + 1))] [] S M Q))) : En 50 4 [some (.inr (.inr 6)), some (.inl x1), some (.inl x2), some (.inl x3)] [] S M Q := by
  have hP : PR 50 = (bc_50, 4) := rfl
  refine e_ld hP rfl rfl ?_
  refine e_ld hP rfl rfl ?_
  refine e_cge hP rfl (fun hc => ?_) (fun hc => ?_)
  · have h := h.1 hc
    refine e_ld hP rfl rfl ?_
    exact e_ret hP rfl rfl h
  · have h := h.2 hc
    refine e_ld hP rfl rfl ?_
    refine e_c hP rfl ?_
    refine e_ld hP rfl rfl ?_
    refine e_gR (a := 5) (w := 8) 5 (sh_5 hS) hP rfl (by decide) rfl ?_
    refine e_ld hP rfl rfl ?_
    obtain ⟨hs1, h⟩ := h
    refine e_al 7 (sh_7 hS) hP rfl hs1 ?_
    obtain ⟨hs2, h⟩ := h
    refine e_shl hP rfl hs2 ?_
    obtain ⟨hs3, h⟩ := h
    refine e_or hP rfl hs3 ?_
    refine e_st (L' := [some (.inr (.inr 6)), some (.inl x1), some (.inl (((x2.toNat ||| ((1 : Int) * 2 ^ (M 7 x3.toNat).toNat).toNat : Nat) : Int))), some (.inl x3)]) hP rfl rfl ?_
    obtain ⟨hs4, h⟩ := h
    refine e_inc (L' := [some (.inr (.inr 6)), some (.inl x1), some (.inl (((x2.toNat ||| ((1 : Int) * 2 ^ (M 7 x3.toNat).toNat).toNat : Nat) : Int))), some (.inl (x3 + 1))]) hP rfl rfl hs4 rfl ?_
    refine e_go hP rfl ?_
    exact h
theorem r_X5_readNumber_0 {S : Shp} {M : Mem} {Q : Res → Prop} (hS : KC S) {p1 : Int} (h : Ca 52 [.inr (.inr 6)] S M (fun r => ∃ (M1 : Mem) (v2 : Int), r = (S, M1, some (.inl v2)) ∧ ((v2 ≠ 0 → Ca 47 [.inr (.inr 6)] S M1 (fun r => ∃ (M3 : Mem) (v4 : Int), r = (S, M3, some (.inl v4)) ∧ (inR (v4 - (48 : Int))) ∧ (inR ((M3 5 3) + (1 : Int))) ∧ Ca 52 [.inr (.inr 6)] S (up2 M3 5 3 ((M3 5 3) + (1 : Int))) (fun r => ∃ (M7 : Mem) (v8 : Int), r = (S, M7, some (.inl v8)) ∧ ((v8 = 0 → ((p1 < (v4 - (48 : Int)) → Q (S, M7, some (.inl (-1 : Int)))) ∧ ((v4 - (48 : Int)) ≤ p1 → Q (S, M7, some (.inl (v4 - (48 : Int))))))) ∧ (v8 ≠ 0 → (inR ((v4 - (48 : Int)) * (10 : Int))) ∧ Ca 47 [.inr (.inr 6)] S M7 (fun r => ∃ (M10 : Mem) (v11 : Int), r = (S, M10, some (.inl v11)) ∧ (inR (((v4 - (48 : Int)) * (10 : Int)) + v11)) ∧ (inR ((((v4 - (48 : Int)) * (10 : Int)) + v11) - (48 : Int))) ∧ (inR ((M10 5 3) + (1 : Int))) ∧ ((p1 < ((((v4 - (48 : Int)) * (10 : Int)) + v11) - (48 : Int)) → Q (S, up2 M10 5 3 ((M10 5 3) + (1 : Int)), some (.inl (-1 : Int)))) ∧ (((((v4 - (48 : Int)) * (10 : Int)) + v11) - (48 : Int)) ≤ p1 → Q (S, up2 M10 5 3 ((M10 5 3) + (1 : Int)), some (.inl ((((v4 - (48 : Int)) * (10 : Int)) + v11) - (48 : Int)))))))))))) ∧ (v2 = 0 → Q (S, M1, some (.inl (-1 : Int))))))) : Ca 51 [.inr (.inr 6), .inl p1] S M Q := by
  have hP : PR 51 = (bc_51, 3) := rfl
  refine ⟨Nat.le_of_ble_eq_true rfl, ?_⟩
  show En 51 0 [some (.inr (.inr 6)), some (.inl p1), none] [] S M Q
  refine e_ld hP rfl rfl ?_
  refine e_call hP rfl rfl rfl (Nat.le_of_ble_eq_true rfl) (Nat.le_of_ble_eq_true rfl) (rcv0 (sh_5 hS) (by decide)) ?_
  refine Ca.mono h (fun r hr => ?_)
  obtain ⟨M1, v2, rfl, h⟩ := hr
  show En 51 2 [some (.inr (.inr 6)), some (.inl p1), none] [.inl v2] S M1 Q
  refine e_zne hP rfl (fun hc => ?_) (fun hc => ?_)
  · have h := h.1 hc
    refine e_ld hP rfl rfl ?_
    refine e_call hP rfl rfl rfl (Nat.le_of_ble_eq_true rfl) (Nat.le_of_ble_eq_true rfl) (rcv0 (sh_5 hS) (by decide)) ?_
    refine Ca.mono h (fun r hr => ?_)
    obtain ⟨M3, v4, rfl, h⟩ := hr
    show En 51 7 [some (.inr (.inr 6)), some (.inl p1), none] [.inl v4] S M3 Q
    refine e_c hP rfl ?_
    obtain ⟨hs5, h⟩ := h
    refine e_sub hP rfl hs5 ?_
    refine e_st (L' := [some (.inr (.inr 6)), some (.inl p1), some (.inl (v4 - (48 : Int)))]) hP rfl rfl ?_
    refine e_ld hP rfl rfl ?_
    refine e_dupR hP rfl ?_
    refine e_gI (a := 5) 5 (sh_5 hS) hP rfl (by decide) ?_
    refine e_c hP rfl ?_
    obtain ⟨hs6, h⟩ := h
    refine e_add hP rfl hs6 ?_
    refine e_pI (a := 5) 5 (sh_5 hS) (by decide) hP rfl (by decide) ?_
    refine e_ld hP rfl rfl ?_
    refine e_call hP rfl rfl rfl (Nat.le_of_ble_eq_true rfl) (Nat.le_of_ble_eq_true rfl) (rcv0 (sh_5 hS) (by decide)) ?_
    refine Ca.mono h (fun r hr => ?_)
    obtain ⟨M7, v8, rfl, h⟩ := hr
    show En 51 18 [some (.inr (.inr 6)), some (.inl p1), some (.inl (v4 - (48 : Int)))] [.inl v8] S M7 Q
    refine e_zeq hP rfl (fun hc => ?_) (fun hc => ?_)
    · have h := h.1 hc
      refine e_ld hP rfl rfl ?_
      refine e_ld hP rfl rfl ?_
      refine e_cgt hP rfl (fun hc => ?_) (fun hc => ?_)
      · have h := h.1 hc
        refine e_c hP rfl ?_
        exact e_ret hP rfl rfl h
      · have h := h.2 hc
        refine e_ld hP rfl rfl ?_
        refine e_go hP rfl ?_
        exact e_ret hP rfl rfl h
    · have h := h.2 hc
      refine e_ld hP rfl rfl ?_
      refine e_c hP rfl ?_
      obtain ⟨hs9, h⟩ := h
      refine e_mul hP rfl hs9 ?_
      refine e_ld hP rfl rfl ?_
      refine e_call hP rfl rfl rfl (Nat.le_of_ble_eq_true rfl) (Nat.le_of_ble_eq_true rfl) (rcv0 (sh_5 hS) (by decide)) ?_
      refine Ca.mono h (fun r hr => ?_)
      obtain ⟨M10, v11, rfl, h⟩ := hr
      show En 51 24 [some (.inr (.inr 6)), some (.inl p1), some (.inl (v4 - (48 : Int)))] [.inl v11, .inl ((v4 - (48 : Int)) * (10 : Int))] S M10 Q
      obtain ⟨hs12, h⟩ := h
      refine e_add hP rfl hs12 ?_
      refine e_c hP rfl ?_
      obtain ⟨hs13, h⟩ := h
      refine e_sub hP rfl hs13 ?_
      refine e_st (L' := [some (.inr (.inr 6)), some (.inl p1), some (.inl ((((v4 - (48 : Int)) * (10 : Int)) + v11) - (48 : Int)))]) hP rfl rfl ?_
      refine e_ld hP rfl rfl ?_
      refine e_dupR hP rfl ?_
      refine e_gI (a := 5) 5 (sh_5 hS) hP rfl (by decide) ?_
      refine e_c hP rfl ?_
      obtain ⟨hs14, h⟩ := h
      refine e_add hP rfl hs14 ?_
      refine e_pI (a := 5) 5 (sh_5 hS) (by decide) hP rfl (by decide) ?_
      refine e_ld hP rfl rfl ?_
      refine e_ld hP rfl rfl ?_
      refine e_cgt hP rfl (fun hc => ?_) (fun hc => ?_)
      · have h := h.1 hc
        refine e_c hP rfl ?_
        exact e_ret hP rfl rfl h
      · have h := h.2 hc
        refine e_ld hP rfl rfl ?_
        refine e_go hP rfl ?_
        exact e_ret hP rfl rfl h
  · have h := h.2 hc
    refine e_c hP rfl ?_
    exact e_ret hP rfl rfl h
theorem r_X5_atFigure_0 {S : Shp} {M : Mem} {Q : Res → Prop} (hS : KC S) (h : Ca 47 [.inr (.inr 6)] S M (fun r => ∃ (M1 : Mem) (v2 : Int), r = (S, M1, some (.inl v2)) ∧ ((v2 < (48 : Int) → Q (S, M1, some (.inl (0 : Int)))) ∧ ((48 : Int) ≤ v2 → Ca 47 [.inr (.inr 6)] S M1 (fun r => ∃ (M3 : Mem) (v4 : Int), r = (S, M3, some (.inl v4)) ∧ (((57 : Int) < v4 → Q (S, M3, some (.inl (0 : Int)))) ∧ (v4 ≤ (57 : Int) → Q (S, M3, some (.inl (1 : Int)))))))))) : Ca 52 [.inr (.inr 6)] S M Q := by
  have hP : PR 52 = (bc_52, 1) := rfl
  refine ⟨Nat.le_of_ble_eq_true rfl, ?_⟩
  show En 52 0 [some (.inr (.inr 6))] [] S M Q
  refine e_ld hP rfl rfl ?_
  refine e_call hP rfl rfl rfl (Nat.le_of_ble_eq_true rfl) (Nat.le_of_ble_eq_true rfl) (rcv0 (sh_5 hS) (by decide)) ?_
  refine Ca.mono h (fun r hr => ?_)
  obtain ⟨M1, v2, rfl, h⟩ := hr
  show En 52 2 [some (.inr (.inr 6))] [.inl v2] S M1 Q
  refine e_c hP rfl ?_
  refine e_clt hP rfl (fun hc => ?_) (fun hc => ?_)
  · have h := h.1 hc
    refine e_c hP rfl ?_
    exact e_ret hP rfl rfl h
  · have h := h.2 hc
    refine e_ld hP rfl rfl ?_
    refine e_call hP rfl rfl rfl (Nat.le_of_ble_eq_true rfl) (Nat.le_of_ble_eq_true rfl) (rcv0 (sh_5 hS) (by decide)) ?_
    refine Ca.mono h (fun r hr => ?_)
    obtain ⟨M3, v4, rfl, h⟩ := hr
    show En 52 6 [some (.inr (.inr 6))] [.inl v4] S M3 Q
    refine e_c hP rfl ?_
    refine e_cgt hP rfl (fun hc => ?_) (fun hc => ?_)
    · have h := h.1 hc
      refine e_c hP rfl ?_
      exact e_ret hP rfl rfl h
    · have h := h.2 hc
      refine e_c hP rfl ?_
      refine e_go hP rfl ?_
      exact e_ret hP rfl rfl h
