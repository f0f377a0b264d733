/-! REGIONS of X8: by wip/gen/reggen.py -/
theorem r_X8_write_0 {S : Shp} {M : Mem} {Q : Res → Prop} (hS : KC S) {p1 : Int} (h : ((p1 < (32 : Int) → Q (S, M, some (.inl (-1 : Int)))) ∧ ((32 : Int) ≤ p1 → ((p1 ≤ (126 : Int) → Ca 37 [.inr (.inr 6), .inl p1] S M (fun r => ∃ (M1 : Mem) (v2 : Int), r = (S, M1, some (.inl v2)) ∧ ((v2 = 0 → Q (S, M1, some (.inl (-3 : Int)))) ∧ (v2 ≠ 0 → Q (S, M1, some (.inl (M1 5 2))))))) ∧ ((126 : Int) < p1 → Q (S, M, some (.inl (-1 : Int)))))))) : Ca 94 [.inr (.inr 5), .inl p1] S M Q := by
  have hP : PR 94 = (bc_94, 2) := rfl
  refine ⟨Nat.le_of_ble_eq_true rfl, ?_⟩
  show En 94 0 [some (.inr (.inr 5)), some (.inl p1)] [] S M Q
  refine e_ld hP rfl rfl ?_
  refine e_c hP rfl ?_
  refine e_clt hP rfl (fun hc => ?_) (fun hc => ?_)
  · have h := h.1 hc
    refine e_c hP rfl ?_
    exact e_ret hP rfl rfl h
  · have h := h.2 hc
    refine e_ld hP rfl rfl ?_
    refine e_c hP rfl ?_
    refine e_cle hP rfl (fun hc => ?_) (fun hc => ?_)
    · have h := h.1 hc
      refine e_ld hP rfl rfl ?_
      refine e_gR (a := 8) (w := 6) 4 (sh_4 hS) hP rfl (by decide) rfl ?_
      refine e_ld hP rfl rfl ?_
      refine e_call hP rfl rfl rfl (Nat.le_of_ble_eq_true rfl) (Nat.le_of_ble_eq_true rfl) (rcv0 (sh_5 hS) (by decide)) ?_
      refine Ca.mono h (fun r hr => ?_)
      obtain ⟨M1, v2, rfl, h⟩ := hr
      show En 94 12 [some (.inr (.inr 5)), some (.inl p1)] [.inl v2] S M1 Q
      refine e_zeq hP rfl (fun hc => ?_) (fun hc => ?_)
      · have h := h.1 hc
        refine e_c hP rfl ?_
        exact e_ret hP rfl rfl h
      · have h := h.2 hc
        refine e_ld hP rfl rfl ?_
        refine e_gR (a := 8) (w := 6) 4 (sh_4 hS) hP rfl (by decide) rfl ?_
        refine e_gI (a := 5) 5 (sh_5 hS) hP rfl (by decide) ?_
        refine e_go hP rfl ?_
        exact e_ret hP rfl rfl h
    · have h := h.2 hc
      refine e_c hP rfl ?_
      exact e_ret hP rfl rfl h
theorem r_X8_wipe_0 {S : Shp} {M : Mem} {Q : Res → Prop} (hS : KC S) (h : Q (S, up2 M 5 2 (0 : Int), some (.inl (M 5 2)))) : Ca 95 [.inr (.inr 5)] S M Q := by
  have hP : PR 95 = (bc_95, 2) := rfl
  refine ⟨Nat.le_of_ble_eq_true rfl, ?_⟩
  show En 95 0 [some (.inr (.inr 5)), none] [] S M Q
  refine e_ld hP rfl rfl ?_
  refine e_gR (a := 8) (w := 6) 4 (sh_4 hS) hP rfl (by decide) rfl ?_
  refine e_gI (a := 5) 5 (sh_5 hS) hP rfl (by decide) ?_
  refine e_st (L' := [some (.inr (.inr 5)), some (.inl (M 5 2))]) hP rfl rfl ?_
  refine e_ld hP rfl rfl ?_
  refine e_gR (a := 8) (w := 6) 4 (sh_4 hS) hP rfl (by decide) rfl ?_
  refine e_c hP rfl ?_
  refine e_pI (a := 5) 5 (sh_5 hS) (by decide) hP rfl (by decide) ?_
  refine e_ld hP rfl rfl ?_
  exact e_ret hP rfl rfl h
theorem r_X8_fault_0 {S : Shp} {M : Mem} {Q : Res → Prop} (hS : KC S) (h : Ca 38 [.inr (.inr 6), .inr (.inr 20)] S M (fun r => ∃ (M1 : Mem) (v2 : Int), r = (S, M1, some (.inl v2)) ∧ Q (S, M1, some (.inl v2)))) : Ca 96 [.inr (.inr 5)] S M Q := by
  have hP : PR 96 = (bc_96, 1) := rfl
  refine ⟨Nat.le_of_ble_eq_true rfl, ?_⟩
  show En 96 0 [some (.inr (.inr 5))] [] S M Q
  refine e_ld hP rfl rfl ?_
  refine e_gR (a := 8) (w := 6) 4 (sh_4 hS) hP rfl (by decide) rfl ?_
  refine e_ld hP rfl rfl ?_
  refine e_gR (a := 8) (w := 20) 4 (sh_4 hS) hP rfl (by decide) rfl ?_
  refine e_call hP rfl rfl rfl (Nat.le_of_ble_eq_true rfl) (Nat.le_of_ble_eq_true rfl) (rcv0 (sh_5 hS) (by decide)) ?_
  refine Ca.mono h (fun r hr => ?_)
  obtain ⟨M1, v2, rfl, h⟩ := hr
  show En 96 5 [some (.inr (.inr 5))] [.inl v2] S M1 Q
  exact e_ret hP rfl rfl h
theorem r_X8_lay_0 {S : Shp} {M : Mem} {Q : Res → Prop} (hS : KC S) (h : Ca 38 [.inr (.inr 6), .inr (.inr 20)] S M (fun r => ∃ (M1 : Mem) (v2 : Int), r = (S, M1, some (.inl v2)) ∧ ((v2 ≠ (-4 : Int) → Q (S, M1, some (.inl (-2 : Int)))) ∧ (v2 = (-4 : Int) → (((M1 19 0) ≠ 0 → Ca 65 [.inr (.inr 9), .inr (.inr 20)] S M1 (fun r => ∃ M3 : Mem, r = (S, M3, none) ∧ Q (S, up2 (up2 (up2 (up2 M3 4 11 (0 : Int)) 168 2 (0 : Int)) 30 1 (0 : Int)) 120 1 (0 : Int), some (.inl ((up2 (up2 (up2 (up2 M3 4 11 (0 : Int)) 168 2 (0 : Int)) 30 1 (0 : Int)) 120 1 (0 : Int)) 8 0))))) ∧ ((M1 19 0) = 0 → Q (S, M1, some (.inl (-2 : Int))))))))) : Ca 97 [.inr (.inr 5)] S M Q := by
  have hP : PR 97 = (bc_97, 1) := rfl
  refine ⟨Nat.le_of_ble_eq_true rfl, ?_⟩
  show En 97 0 [some (.inr (.inr 5))] [] S M Q
  refine e_ld hP rfl rfl ?_
  refine e_gR (a := 8) (w := 6) 4 (sh_4 hS) hP rfl (by decide) rfl ?_
  refine e_ld hP rfl rfl ?_
  refine e_gR (a := 8) (w := 20) 4 (sh_4 hS) hP rfl (by decide) rfl ?_
  refine e_call hP rfl rfl rfl (Nat.le_of_ble_eq_true rfl) (Nat.le_of_ble_eq_true rfl) (rcv0 (sh_5 hS) (by decide)) ?_
  refine Ca.mono h (fun r hr => ?_)
  obtain ⟨M1, v2, rfl, h⟩ := hr
  show En 97 5 [some (.inr (.inr 5))] [.inl v2] S M1 Q
  refine e_c hP rfl ?_
  refine e_cne hP rfl (fun hc => ?_) (fun hc => ?_)
  · have h := h.1 hc
    refine e_c hP rfl ?_
    exact e_ret hP rfl rfl h
  · have h := h.2 hc
    refine e_ld hP rfl rfl ?_
    refine e_gR (a := 8) (w := 20) 4 (sh_4 hS) hP rfl (by decide) rfl ?_
    refine e_gI (a := 7) 19 (sh_19 hS) hP rfl (by decide) ?_
    refine e_zne hP rfl (fun hc => ?_) (fun hc => ?_)
    · have h := h.1 hc
      refine e_ld hP rfl rfl ?_
      refine e_gR (a := 8) (w := 9) 4 (sh_4 hS) hP rfl (by decide) rfl ?_
      refine e_ld hP rfl rfl ?_
      refine e_gR (a := 8) (w := 20) 4 (sh_4 hS) hP rfl (by decide) rfl ?_
      refine e_call hP rfl rfl rfl (Nat.le_of_ble_eq_true rfl) (Nat.le_of_ble_eq_true rfl) (rcv0 (sh_8 hS) (by decide)) ?_
      refine Ca.mono h (fun r hr => ?_)
      obtain ⟨M3, rfl, h⟩ := hr
      show En 97 18 [some (.inr (.inr 5))] [] S M3 Q
      refine e_ld hP rfl rfl ?_
      refine e_c hP rfl ?_
      refine e_pI (a := 8) 4 (sh_4 hS) (by decide) hP rfl (by decide) ?_
      refine e_ld hP rfl rfl ?_
      refine e_gR (a := 8) (w := 169) 4 (sh_4 hS) hP rfl (by decide) rfl ?_
      refine e_c hP rfl ?_
      refine e_pI (a := 1) 168 (sh_168 hS) (by decide) hP rfl (by decide) ?_
      refine e_ld hP rfl rfl ?_
      refine e_gR (a := 8) (w := 31) 4 (sh_4 hS) hP rfl (by decide) rfl ?_
      refine e_c hP rfl ?_
      refine e_pI (a := 4) 30 (sh_30 hS) (by decide) hP rfl (by decide) ?_
      refine e_ld hP rfl rfl ?_
      refine e_gR (a := 8) (w := 121) 4 (sh_4 hS) hP rfl (by decide) rfl ?_
      refine e_c hP rfl ?_
      refine e_pI (a := 4) 120 (sh_120 hS) (by decide) hP rfl (by decide) ?_
      refine e_ld hP rfl rfl ?_
      refine e_gR (a := 8) (w := 9) 4 (sh_4 hS) hP rfl (by decide) rfl ?_
      refine e_gI (a := 7) 8 (sh_8 hS) hP rfl (by decide) ?_
      exact e_ret hP rfl rfl h
    · have h := h.2 hc
      refine e_c hP rfl ?_
      exact e_ret hP rfl rfl h
theorem r_X8_person_0 {S : Shp} {M : Mem} {Q : Res → Prop} (hS : KC S) {p1 p2 : Int} (h : Ca 132 [.inr (.inr 5), .inl p1] S M (fun r => ∃ (M1 : Mem) (v2 : Int), r = (S, M1, some (.inl v2)) ∧ ((v2 ≠ 0 → (((p2 < 0 ∨ 0 + 8 ≤ p2) → Q (S, M1, some (.inl (-1 : Int)))) ∧ (p2 = 0 → (0 ≤ p1 ∧ p1 < 8) ∧ Q (S, M1, some (.inl (M1 9 p1.toNat)))) ∧ (p2 = 1 → (0 ≤ p1 ∧ p1 < 8) ∧ Q (S, M1, some (.inl (M1 11 p1.toNat)))) ∧ (p2 = 2 → (0 ≤ p1 ∧ p1 < 8) ∧ Q (S, M1, some (.inl (M1 12 p1.toNat)))) ∧ (p2 = 3 → (0 ≤ p1 ∧ p1 < 8) ∧ Q (S, M1, some (.inl (M1 13 p1.toNat)))) ∧ (p2 = 4 → (0 ≤ p1 ∧ p1 < 8) ∧ Q (S, M1, some (.inl (M1 14 p1.toNat)))) ∧ (p2 = 5 → Ca 136 [.inr (.inr 5)] S M1 (fun r => ∃ M8 : Mem, r = (S, M8, some (.inr (.inr 145))) ∧ Ca 16 [.inr (.inr 145), .inl p1] S M8 (fun r => ∃ (M9 : Mem) (v10 : Int), r = (S, M9, some (.inl v10)) ∧ Q (S, M9, some (.inl v10))))) ∧ (p2 = 6 → Ca 136 [.inr (.inr 5)] S M1 (fun r => ∃ M11 : Mem, r = (S, M11, some (.inr (.inr 145))) ∧ Ca 18 [.inr (.inr 145), .inl p1] S M11 (fun r => ∃ (M12 : Mem) (v13 : Int), r = (S, M12, some (.inl v13)) ∧ Q (S, M12, some (.inl v13))))) ∧ (p2 = 7 → Ca 81 [.inr (.inr 9), .inl p1] S M1 (fun r => ∃ (M14 : Mem) (v15 : Int), r = (S, M14, some (.inl v15)) ∧ ((v15 = 0 → Q (S, M14, some (.inl (0 : Int)))) ∧ (v15 ≠ 0 → Q (S, M14, some (.inl (1 : Int))))))))) ∧ (v2 = 0 → Q (S, M1, some (.inl (-1 : Int))))))) : Ca 98 [.inr (.inr 5), .inl p1, .inl p2] S M Q := by
  have hP : PR 98 = (bc_98, 3) := rfl
  refine ⟨Nat.le_of_ble_eq_true rfl, ?_⟩
  show En 98 0 [some (.inr (.inr 5)), some (.inl p1), some (.inl p2)] [] S M Q
  refine e_ld hP rfl rfl ?_
  refine e_ld hP rfl rfl ?_
  refine e_call hP rfl rfl rfl (Nat.le_of_ble_eq_true rfl) (Nat.le_of_ble_eq_true rfl) (rcv0 (sh_4 hS) (by decide)) ?_
  refine Ca.mono h (fun r hr => ?_)
  obtain ⟨M1, v2, rfl, h⟩ := hr
  show En 98 3 [some (.inr (.inr 5)), some (.inl p1), some (.inl p2)] [.inl v2] S M1 Q
  refine e_zne hP rfl (fun hc => ?_) (fun hc => ?_)
  · have h := h.1 hc
    refine e_ld hP rfl rfl ?_
    refine e_tab hP rfl (fun hc => ?_) (fun k t hk hx => ?_)
    · have h := h.1 hc
      refine e_c hP rfl ?_
      exact e_ret hP rfl rfl h
    · match k, hk, hx with
      | 0, hk, hx =>
        cases hk
        have h := h.2.1 (by simpa using hx)
        refine e_ld hP rfl rfl ?_
        refine e_gR (a := 8) (w := 9) 4 (sh_4 hS) hP rfl (by decide) rfl ?_
        refine e_gR (a := 7) (w := 10) 8 (sh_8 hS) hP rfl (by decide) rfl ?_
        refine e_ld hP rfl rfl ?_
        obtain ⟨hs3, h⟩ := h
        refine e_al 9 (sh_9 hS) hP rfl hs3 ?_
        exact e_ret hP rfl rfl h
      | 1, hk, hx =>
        cases hk
        have h := h.2.2.1 (by simpa using hx)
        refine e_ld hP rfl rfl ?_
        refine e_gR (a := 8) (w := 9) 4 (sh_4 hS) hP rfl (by decide) rfl ?_
        refine e_gR (a := 7) (w := 12) 8 (sh_8 hS) hP rfl (by decide) rfl ?_
        refine e_ld hP rfl rfl ?_
        obtain ⟨hs4, h⟩ := h
        refine e_al 11 (sh_11 hS) hP rfl hs4 ?_
        exact e_ret hP rfl rfl h
      | 2, hk, hx =>
        cases hk
        have h := h.2.2.2.1 (by simpa using hx)
        refine e_ld hP rfl rfl ?_
        refine e_gR (a := 8) (w := 9) 4 (sh_4 hS) hP rfl (by decide) rfl ?_
        refine e_gR (a := 7) (w := 13) 8 (sh_8 hS) hP rfl (by decide) rfl ?_
        refine e_ld hP rfl rfl ?_
        obtain ⟨hs5, h⟩ := h
        refine e_al 12 (sh_12 hS) hP rfl hs5 ?_
        exact e_ret hP rfl rfl h
      | 3, hk, hx =>
        cases hk
        have h := h.2.2.2.2.1 (by simpa using hx)
        refine e_ld hP rfl rfl ?_
        refine e_gR (a := 8) (w := 9) 4 (sh_4 hS) hP rfl (by decide) rfl ?_
        refine e_gR (a := 7) (w := 14) 8 (sh_8 hS) hP rfl (by decide) rfl ?_
        refine e_ld hP rfl rfl ?_
        obtain ⟨hs6, h⟩ := h
        refine e_al 13 (sh_13 hS) hP rfl hs6 ?_
        exact e_ret hP rfl rfl h
      | 4, hk, hx =>
        cases hk
        have h := h.2.2.2.2.2.1 (by simpa using hx)
        refine e_ld hP rfl rfl ?_
        refine e_gR (a := 8) (w := 9) 4 (sh_4 hS) hP rfl (by decide) rfl ?_
        refine e_gR (a := 7) (w := 15) 8 (sh_8 hS) hP rfl (by decide) rfl ?_
        refine e_ld hP rfl rfl ?_
        obtain ⟨hs7, h⟩ := h
        refine e_al 14 (sh_14 hS) hP rfl hs7 ?_
        exact e_ret hP rfl rfl h
      | 5, hk, hx =>
        cases hk
        have h := h.2.2.2.2.2.2.1 (by simpa using hx)
        refine e_ld hP rfl rfl ?_
        refine e_call hP rfl rfl rfl (Nat.le_of_ble_eq_true rfl) (Nat.le_of_ble_eq_true rfl) (rcv0 (sh_4 hS) (by decide)) ?_
        refine Ca.mono h (fun r hr => ?_)
        obtain ⟨M8, rfl, h⟩ := hr
        show En 98 40 [some (.inr (.inr 5)), some (.inl p1), some (.inl p2)] [.inr (.inr 145)] S M8 Q
        refine e_ld hP rfl rfl ?_
        refine e_call hP rfl rfl rfl (Nat.le_of_ble_eq_true rfl) (Nat.le_of_ble_eq_true rfl) (rcv0 (sh_144 hS) (by decide)) ?_
        refine Ca.mono h (fun r hr => ?_)
        obtain ⟨M9, v10, rfl, h⟩ := hr
        show En 98 42 [some (.inr (.inr 5)), some (.inl p1), some (.inl p2)] [.inl v10] S M9 Q
        exact e_ret hP rfl rfl h
      | 6, hk, hx =>
        cases hk
        have h := h.2.2.2.2.2.2.2.1 (by simpa using hx)
        refine e_ld hP rfl rfl ?_
        refine e_call hP rfl rfl rfl (Nat.le_of_ble_eq_true rfl) (Nat.le_of_ble_eq_true rfl) (rcv0 (sh_4 hS) (by decide)) ?_
        refine Ca.mono h (fun r hr => ?_)
        obtain ⟨M11, rfl, h⟩ := hr
        show En 98 45 [some (.inr (.inr 5)), some (.inl p1), some (.inl p2)] [.inr (.inr 145)] S M11 Q
        refine e_ld hP rfl rfl ?_
        refine e_call hP rfl rfl rfl (Nat.le_of_ble_eq_true rfl) (Nat.le_of_ble_eq_true rfl) (rcv0 (sh_144 hS) (by decide)) ?_
        refine Ca.mono h (fun r hr => ?_)
        obtain ⟨M12, v13, rfl, h⟩ := hr
        show En 98 47 [some (.inr (.inr 5)), some (.inl p1), some (.inl p2)] [.inl v13] S M12 Q
        exact e_ret hP rfl rfl h
      | 7, hk, hx =>
        cases hk
        have h := h.2.2.2.2.2.2.2.2 (by simpa using hx)
        refine e_ld hP rfl rfl ?_
        refine e_gR (a := 8) (w := 9) 4 (sh_4 hS) hP rfl (by decide) rfl ?_
        refine e_ld hP rfl rfl ?_
        refine e_call hP rfl rfl rfl (Nat.le_of_ble_eq_true rfl) (Nat.le_of_ble_eq_true rfl) (rcv0 (sh_8 hS) (by decide)) ?_
        refine Ca.mono h (fun r hr => ?_)
        obtain ⟨M14, v15, rfl, h⟩ := hr
        show En 98 52 [some (.inr (.inr 5)), some (.inl p1), some (.inl p2)] [.inl v15] S M14 Q
        refine e_zeq hP rfl (fun hc => ?_) (fun hc => ?_)
        · have h := h.1 hc
          refine e_c hP rfl ?_
          exact e_ret hP rfl rfl h
        · have h := h.2 hc
          refine e_c hP rfl ?_
          refine e_go hP rfl ?_
          exact e_ret hP rfl rfl h
      | k + 8, hk, hx => simp at hk
  · have h := h.2 hc
    refine e_c hP rfl ?_
    exact e_ret hP rfl rfl h
theorem r_X8_letter_0 {S : Shp} {M : Mem} {Q : Res → Prop} (hS : KC S) {p1 p2 : Int} (h : Ca 132 [.inr (.inr 5), .inl p1] S M (fun r => ∃ (M1 : Mem) (v2 : Int), r = (S, M1, some (.inl v2)) ∧ ((v2 = 0 → Q (S, M1, some (.inl (-1 : Int)))) ∧ (v2 ≠ 0 → ((0 ≤ p2 → Ca 75 [.inr (.inr 9), .inl p1, .inl p2] S M1 (fun r => ∃ (M3 : Mem) (v4 : Int), r = (S, M3, some (.inl v4)) ∧ Q (S, M3, some (.inl v4)))) ∧ (p2 < 0 → Q (S, M1, some (.inl (-1 : Int))))))))) : Ca 99 [.inr (.inr 5), .inl p1, .inl p2] S M Q := by
  have hP : PR 99 = (bc_99, 3) := rfl
  refine ⟨Nat.le_of_ble_eq_true rfl, ?_⟩
  show En 99 0 [some (.inr (.inr 5)), some (.inl p1), some (.inl p2)] [] S M Q
  refine e_ld hP rfl rfl ?_
  refine e_ld hP rfl rfl ?_
  refine e_call hP rfl rfl rfl (Nat.le_of_ble_eq_true rfl) (Nat.le_of_ble_eq_true rfl) (rcv0 (sh_4 hS) (by decide)) ?_
  refine Ca.mono h (fun r hr => ?_)
  obtain ⟨M1, v2, rfl, h⟩ := hr
  show En 99 3 [some (.inr (.inr 5)), some (.inl p1), some (.inl p2)] [.inl v2] S M1 Q
  refine e_zeq hP rfl (fun hc => ?_) (fun hc => ?_)
  · have h := h.1 hc
    refine e_c hP rfl ?_
    exact e_ret hP rfl rfl h
  · have h := h.2 hc
    refine e_ld hP rfl rfl ?_
    refine e_zge hP rfl (fun hc => ?_) (fun hc => ?_)
    · have h := h.1 hc
      refine e_ld hP rfl rfl ?_
      refine e_gR (a := 8) (w := 9) 4 (sh_4 hS) hP rfl (by decide) rfl ?_
      refine e_ld hP rfl rfl ?_
      refine e_ld hP rfl rfl ?_
      refine e_call hP rfl rfl rfl (Nat.le_of_ble_eq_true rfl) (Nat.le_of_ble_eq_true rfl) (rcv0 (sh_8 hS) (by decide)) ?_
      refine Ca.mono h (fun r hr => ?_)
      obtain ⟨M3, v4, rfl, h⟩ := hr
      show En 99 13 [some (.inr (.inr 5)), some (.inl p1), some (.inl p2)] [.inl v4] S M3 Q
      exact e_ret hP rfl rfl h
    · have h := h.2 hc
      refine e_c hP rfl ?_
      exact e_ret hP rfl rfl h
theorem r_X8_alphabet_0 {S : Shp} {M : Mem} {Q : Res → Prop} (hS : KC S) {p1 p2 : Int} (h : Ca 134 [.inl p1] S M (fun r => ∃ (M1 : Mem) (v2 : Int), r = (S, M1, some (.inl v2)) ∧ ((v2 ≠ 0 → (((p2 < 0 ∨ 0 + 3 ≤ p2) → Q (S, M1, some (.inl (-1 : Int)))) ∧ (p2 = 0 → (0 ≤ p1 ∧ p1 < 26) ∧ Q (S, M1, some (.inl (M1 16 p1.toNat)))) ∧ (p2 = 1 → (0 ≤ p1 ∧ p1 < 26) ∧ Q (S, M1, some (.inl (M1 17 p1.toNat)))) ∧ (p2 = 2 → Ca 73 [.inr (.inr 9), .inl p1] S M1 (fun r => ∃ (M5 : Mem) (v6 : Int), r = (S, M5, some (.inl v6)) ∧ ((v6 = 0 → Q (S, M5, some (.inl (0 : Int)))) ∧ (v6 ≠ 0 → Q (S, M5, some (.inl (1 : Int))))))))) ∧ (v2 = 0 → Q (S, M1, some (.inl (-1 : Int))))))) : Ca 100 [.inr (.inr 5), .inl p1, .inl p2] S M Q := by
  have hP : PR 100 = (bc_100, 3) := rfl
  refine ⟨Nat.le_of_ble_eq_true rfl, ?_⟩
  show En 100 0 [some (.inr (.inr 5)), some (.inl p1), some (.inl p2)] [] S M Q
  refine e_ld hP rfl rfl ?_
  refine e_call hP rfl rfl rfl (Nat.le_of_ble_eq_true rfl) (Nat.le_of_ble_eq_true rfl) rcv1 ?_
  refine Ca.mono h (fun r hr => ?_)
  obtain ⟨M1, v2, rfl, h⟩ := hr
  show En 100 2 [some (.inr (.inr 5)), some (.inl p1), some (.inl p2)] [.inl v2] S M1 Q
  refine e_zne hP rfl (fun hc => ?_) (fun hc => ?_)
  · have h := h.1 hc
    refine e_ld hP rfl rfl ?_
    refine e_tab hP rfl (fun hc => ?_) (fun k t hk hx => ?_)
    · have h := h.1 hc
      refine e_c hP rfl ?_
      exact e_ret hP rfl rfl h
    · match k, hk, hx with
      | 0, hk, hx =>
        cases hk
        have h := h.2.1 (by simpa using hx)
        refine e_ld hP rfl rfl ?_
        refine e_gR (a := 8) (w := 9) 4 (sh_4 hS) hP rfl (by decide) rfl ?_
        refine e_gR (a := 7) (w := 17) 8 (sh_8 hS) hP rfl (by decide) rfl ?_
        refine e_ld hP rfl rfl ?_
        obtain ⟨hs3, h⟩ := h
        refine e_al 16 (sh_16 hS) hP rfl hs3 ?_
        exact e_ret hP rfl rfl h
      | 1, hk, hx =>
        cases hk
        have h := h.2.2.1 (by simpa using hx)
        refine e_ld hP rfl rfl ?_
        refine e_gR (a := 8) (w := 9) 4 (sh_4 hS) hP rfl (by decide) rfl ?_
        refine e_gR (a := 7) (w := 18) 8 (sh_8 hS) hP rfl (by decide) rfl ?_
        refine e_ld hP rfl rfl ?_
        obtain ⟨hs4, h⟩ := h
        refine e_al 17 (sh_17 hS) hP rfl hs4 ?_
        exact e_ret hP rfl rfl h
      | 2, hk, hx =>
        cases hk
        have h := h.2.2.2 (by simpa using hx)
        refine e_ld hP rfl rfl ?_
        refine e_gR (a := 8) (w := 9) 4 (sh_4 hS) hP rfl (by decide) rfl ?_
        refine e_ld hP rfl rfl ?_
        refine e_call hP rfl rfl rfl (Nat.le_of_ble_eq_true rfl) (Nat.le_of_ble_eq_true rfl) (rcv0 (sh_8 hS) (by decide)) ?_
        refine Ca.mono h (fun r hr => ?_)
        obtain ⟨M5, v6, rfl, h⟩ := hr
        show En 100 23 [some (.inr (.inr 5)), some (.inl p1), some (.inl p2)] [.inl v6] S M5 Q
        refine e_zeq hP rfl (fun hc => ?_) (fun hc => ?_)
        · have h := h.1 hc
          refine e_c hP rfl ?_
          exact e_ret hP rfl rfl h
        · have h := h.2 hc
          refine e_c hP rfl ?_
          refine e_go hP rfl ?_
          exact e_ret hP rfl rfl h
      | k + 3, hk, hx => simp at hk
  · have h := h.2 hc
    refine e_c hP rfl ?_
    exact e_ret hP rfl rfl h
theorem r_X8_quarrel_0 {S : Shp} {M : Mem} {Q : Res → Prop} (hS : KC S) {p1 p2 : Int} (h : Ca 134 [.inl p1] S M (fun r => ∃ (M1 : Mem) (v2 : Int), r = (S, M1, some (.inl v2)) ∧ ((v2 = 0 → Q (S, M1, some (.inl (-1 : Int)))) ∧ (v2 ≠ 0 → Ca 134 [.inl p2] S M1 (fun r => ∃ (M3 : Mem) (v4 : Int), r = (S, M3, some (.inl v4)) ∧ ((v4 ≠ 0 → Ca 72 [.inr (.inr 9), .inl p1, .inl p2] S M3 (fun r => ∃ (M5 : Mem) (v6 : Int), r = (S, M5, some (.inl v6)) ∧ ((v6 = 0 → Q (S, M5, some (.inl (0 : Int)))) ∧ (v6 ≠ 0 → Q (S, M5, some (.inl (1 : Int))))))) ∧ (v4 = 0 → Q (S, M3, some (.inl (-1 : Int)))))))))) : Ca 101 [.inr (.inr 5), .inl p1, .inl p2] S M Q := by
  have hP : PR 101 = (bc_101, 3) := rfl
  refine ⟨Nat.le_of_ble_eq_true rfl, ?_⟩
  show En 101 0 [some (.inr (.inr 5)), some (.inl p1), some (.inl p2)] [] S M Q
  refine e_ld hP rfl rfl ?_
  refine e_call hP rfl rfl rfl (Nat.le_of_ble_eq_true rfl) (Nat.le_of_ble_eq_true rfl) rcv1 ?_
  refine Ca.mono h (fun r hr => ?_)
  obtain ⟨M1, v2, rfl, h⟩ := hr
  show En 101 2 [some (.inr (.inr 5)), some (.inl p1), some (.inl p2)] [.inl v2] S M1 Q
  refine e_zeq hP rfl (fun hc => ?_) (fun hc => ?_)
  · have h := h.1 hc
    refine e_c hP rfl ?_
    exact e_ret hP rfl rfl h
  · have h := h.2 hc
    refine e_ld hP rfl rfl ?_
    refine e_call hP rfl rfl rfl (Nat.le_of_ble_eq_true rfl) (Nat.le_of_ble_eq_true rfl) rcv1 ?_
    refine Ca.mono h (fun r hr => ?_)
    obtain ⟨M3, v4, rfl, h⟩ := hr
    show En 101 5 [some (.inr (.inr 5)), some (.inl p1), some (.inl p2)] [.inl v4] S M3 Q
    refine e_zne hP rfl (fun hc => ?_) (fun hc => ?_)
    · have h := h.1 hc
      refine e_ld hP rfl rfl ?_
      refine e_gR (a := 8) (w := 9) 4 (sh_4 hS) hP rfl (by decide) rfl ?_
      refine e_ld hP rfl rfl ?_
      refine e_ld hP rfl rfl ?_
      refine e_call hP rfl rfl rfl (Nat.le_of_ble_eq_true rfl) (Nat.le_of_ble_eq_true rfl) (rcv0 (sh_8 hS) (by decide)) ?_
      refine Ca.mono h (fun r hr => ?_)
      obtain ⟨M5, v6, rfl, h⟩ := hr
      show En 101 13 [some (.inr (.inr 5)), some (.inl p1), some (.inl p2)] [.inl v6] S M5 Q
      refine e_zeq hP rfl (fun hc => ?_) (fun hc => ?_)
      · have h := h.1 hc
        refine e_c hP rfl ?_
        exact e_ret hP rfl rfl h
      · have h := h.2 hc
        refine e_c hP rfl ?_
        refine e_go hP rfl ?_
        exact e_ret hP rfl rfl h
    · have h := h.2 hc
      refine e_c hP rfl ?_
      exact e_ret hP rfl rfl h
theorem r_X8_spell_0 {S : Shp} {M : Mem} {Q : Res → Prop} (hS : KC S) {p1 : Int} (h : Ca 134 [.inl p1] S M (fun r => ∃ (M1 : Mem) (v2 : Int), r = (S, M1, some (.inl v2)) ∧ ((v2 ≠ 0 → (((M1 4 11) < (6 : Int) → (0 ≤ (M1 4 11) ∧ (M1 4 11) < 6) ∧ (inR (((up2 M1 171 (M1 4 11).toNat p1) 4 11) + (1 : Int))) ∧ Q (S, up2 (up2 M1 171 (M1 4 11).toNat p1) 4 11 (((up2 M1 171 (M1 4 11).toNat p1) 4 11) + (1 : Int)), some (.inl ((up2 (up2 M1 171 (M1 4 11).toNat p1) 4 11 (((up2 M1 171 (M1 4 11).toNat p1) 4 11) + (1 : Int))) 4 11)))) ∧ ((6 : Int) ≤ (M1 4 11) → Q (S, M1, some (.inl (-3 : Int)))))) ∧ (v2 = 0 → Q (S, M1, some (.inl (-1 : Int))))))) : Ca 102 [.inr (.inr 5), .inl p1] S M Q := by
  have hP : PR 102 = (bc_102, 2) := rfl
  refine ⟨Nat.le_of_ble_eq_true rfl, ?_⟩
  show En 102 0 [some (.inr (.inr 5)), some (.inl p1)] [] S M Q
  refine e_ld hP rfl rfl ?_
  refine e_call hP rfl rfl rfl (Nat.le_of_ble_eq_true rfl) (Nat.le_of_ble_eq_true rfl) rcv1 ?_
  refine Ca.mono h (fun r hr => ?_)
  obtain ⟨M1, v2, rfl, h⟩ := hr
  show En 102 2 [some (.inr (.inr 5)), some (.inl p1)] [.inl v2] S M1 Q
  refine e_zne hP rfl (fun hc => ?_) (fun hc => ?_)
  · have h := h.1 hc
    refine e_ld hP rfl rfl ?_
    refine e_gI (a := 8) 4 (sh_4 hS) hP rfl (by decide) ?_
    refine e_c hP rfl ?_
    refine e_clt hP rfl (fun hc => ?_) (fun hc => ?_)
    · have h := h.1 hc
      refine e_ld hP rfl rfl ?_
      refine e_gR (a := 8) (w := 172) 4 (sh_4 hS) hP rfl (by decide) rfl ?_
      refine e_ld hP rfl rfl ?_
      refine e_gI (a := 8) 4 (sh_4 hS) hP rfl (by decide) ?_
      refine e_ld hP rfl rfl ?_
      obtain ⟨hs3, h⟩ := h
      refine e_as 171 (sh_171 hS) (by decide) hP rfl hs3 ?_
      refine e_ld hP rfl rfl ?_
      refine e_dupR hP rfl ?_
      refine e_gI (a := 8) 4 (sh_4 hS) hP rfl (by decide) ?_
      refine e_c hP rfl ?_
      obtain ⟨hs4, h⟩ := h
      refine e_add hP rfl hs4 ?_
      refine e_pI (a := 8) 4 (sh_4 hS) (by decide) hP rfl (by decide) ?_
      refine e_ld hP rfl rfl ?_
      refine e_gI (a := 8) 4 (sh_4 hS) hP rfl (by decide) ?_
      exact e_ret hP rfl rfl h
    · have h := h.2 hc
      refine e_c hP rfl ?_
      exact e_ret hP rfl rfl h
  · have h := h.2 hc
    refine e_c hP rfl ?_
    exact e_ret hP rfl rfl h
theorem r_X8_unspell_0 {S : Shp} {M : Mem} {Q : Res → Prop} (hS : KC S) (h : Q (S, up2 M 4 11 (0 : Int), some (.inl (M 4 11)))) : Ca 103 [.inr (.inr 5)] S M Q := by
  have hP : PR 103 = (bc_103, 2) := rfl
  refine ⟨Nat.le_of_ble_eq_true rfl, ?_⟩
  show En 103 0 [some (.inr (.inr 5)), none] [] S M Q
  refine e_ld hP rfl rfl ?_
  refine e_gI (a := 8) 4 (sh_4 hS) hP rfl (by decide) ?_
  refine e_st (L' := [some (.inr (.inr 5)), some (.inl (M 4 11))]) hP rfl rfl ?_
  refine e_ld hP rfl rfl ?_
  refine e_c hP rfl ?_
  refine e_pI (a := 8) 4 (sh_4 hS) (by decide) hP rfl (by decide) ?_
  refine e_ld hP rfl rfl ?_
  exact e_ret hP rfl rfl h
theorem r_X8_price_0 {S : Shp} {M : Mem} {Q : Res → Prop} (hS : KC S) {p1 : Int} (h : Ca 132 [.inr (.inr 5), .inl p1] S M (fun r => ∃ (M1 : Mem) (v2 : Int), r = (S, M1, some (.inl v2)) ∧ ((v2 = 0 → Q (S, M1, some (.inl (-1 : Int)))) ∧ (v2 ≠ 0 → Ca 137 [.inr (.inr 5), .inl p1] S M1 (fun r => ∃ (M3 : Mem) (v4 : Int), r = (S, M3, some (.inl v4)) ∧ Q (S, M3, some (.inl v4))))))) : Ca 104 [.inr (.inr 5), .inl p1] S M Q := by
  have hP : PR 104 = (bc_104, 2) := rfl
  refine ⟨Nat.le_of_ble_eq_true rfl, ?_⟩
  show En 104 0 [some (.inr (.inr 5)), some (.inl p1)] [] S M Q
  refine e_ld hP rfl rfl ?_
  refine e_ld hP rfl rfl ?_
  refine e_call hP rfl rfl rfl (Nat.le_of_ble_eq_true rfl) (Nat.le_of_ble_eq_true rfl) (rcv0 (sh_4 hS) (by decide)) ?_
  refine Ca.mono h (fun r hr => ?_)
  obtain ⟨M1, v2, rfl, h⟩ := hr
  show En 104 3 [some (.inr (.inr 5)), some (.inl p1)] [.inl v2] S M1 Q
  refine e_zeq hP rfl (fun hc => ?_) (fun hc => ?_)
  · have h := h.1 hc
    refine e_c hP rfl ?_
    exact e_ret hP rfl rfl h
  · have h := h.2 hc
    refine e_ld hP rfl rfl ?_
    refine e_ld hP rfl rfl ?_
    refine e_call hP rfl rfl rfl (Nat.le_of_ble_eq_true rfl) (Nat.le_of_ble_eq_true rfl) (rcv0 (sh_4 hS) (by decide)) ?_
    refine Ca.mono h (fun r hr => ?_)
    obtain ⟨M3, v4, rfl, h⟩ := hr
    show En 104 7 [some (.inr (.inr 5)), some (.inl p1)] [.inl v4] S M3 Q
    refine e_go hP rfl ?_
    exact e_ret hP rfl rfl h
theorem r_X8_rename_0 {S : Shp} {M : Mem} {Q : Res → Prop} (hS : KC S) {p1 : Int} (h : Ca 132 [.inr (.inr 5), .inl p1] S M (fun r => ∃ (M1 : Mem) (v2 : Int), r = (S, M1, some (.inl v2)) ∧ ((v2 ≠ 0 → Ca 137 [.inr (.inr 5), .inl p1] S M1 (fun r => ∃ (M3 : Mem) (v4 : Int), r = (S, M3, some (.inl v4)) ∧ (0 ≤ p1 ∧ p1 < 8) ∧ (((M3 14 p1.toNat) = (1 : Int) → Q (S, M3, some (.inl (-2 : Int)))) ∧ ((M3 14 p1.toNat) ≠ (1 : Int) → (0 ≤ p1 ∧ p1 < 8) ∧ ((v4 ≤ (M3 12 p1.toNat) → Ca 33 [.inr (.inr 31), .inr (.inr 9)] S M3 (fun r => ∃ M7 : Mem, r = (S, M7, none) ∧ Ca 67 [.inr (.inr 9), .inl p1, .inr (.inr 172), .inl (M7 4 11)] S M7 (fun r => ∃ M8 : Mem, r = (S, M8, none) ∧ (0 ≤ p1 ∧ p1 < 8) ∧ (0 ≤ p1 ∧ p1 < 8) ∧ (inR (((up2 M8 14 p1.toNat (1 : Int)) 12 p1.toNat) - v4)) ∧ (0 ≤ p1 ∧ p1 < 8) ∧ (0 ≤ p1 ∧ p1 < 8) ∧ Q (S, up2 (up2 M8 14 p1.toNat (1 : Int)) 12 p1.toNat (((up2 M8 14 p1.toNat (1 : Int)) 12 p1.toNat) - v4), some (.inl ((up2 (up2 M8 14 p1.toNat (1 : Int)) 12 p1.toNat (((up2 M8 14 p1.toNat (1 : Int)) 12 p1.toNat) - v4)) 12 p1.toNat)))))) ∧ ((M3 12 p1.toNat) < v4 → Q (S, M3, some (.inl (-2 : Int))))))))) ∧ (v2 = 0 → Q (S, M1, some (.inl (-1 : Int))))))) : Ca 105 [.inr (.inr 5), .inl p1] S M Q := by
  have hP : PR 105 = (bc_105, 3) := rfl
  refine ⟨Nat.le_of_ble_eq_true rfl, ?_⟩
  show En 105 0 [some (.inr (.inr 5)), some (.inl p1), none] [] S M Q
  refine e_ld hP rfl rfl ?_
  refine e_ld hP rfl rfl ?_
  refine e_call hP rfl rfl rfl (Nat.le_of_ble_eq_true rfl) (Nat.le_of_ble_eq_true rfl) (rcv0 (sh_4 hS) (by decide)) ?_
  refine Ca.mono h (fun r hr => ?_)
  obtain ⟨M1, v2, rfl, h⟩ := hr
  show En 105 3 [some (.inr (.inr 5)), some (.inl p1), none] [.inl v2] S M1 Q
  refine e_zne hP rfl (fun hc => ?_) (fun hc => ?_)
  · have h := h.1 hc
    refine e_ld hP rfl rfl ?_
    refine e_ld hP rfl rfl ?_
    refine e_call hP rfl rfl rfl (Nat.le_of_ble_eq_true rfl) (Nat.le_of_ble_eq_true rfl) (rcv0 (sh_4 hS) (by decide)) ?_
    refine Ca.mono h (fun r hr => ?_)
    obtain ⟨M3, v4, rfl, h⟩ := hr
    show En 105 9 [some (.inr (.inr 5)), some (.inl p1), none] [.inl v4] S M3 Q
    refine e_st (L' := [some (.inr (.inr 5)), some (.inl p1), some (.inl v4)]) hP rfl rfl ?_
    refine e_ld hP rfl rfl ?_
    refine e_gR (a := 8) (w := 9) 4 (sh_4 hS) hP rfl (by decide) rfl ?_
    refine e_gR (a := 7) (w := 15) 8 (sh_8 hS) hP rfl (by decide) rfl ?_
    refine e_ld hP rfl rfl ?_
    obtain ⟨hs5, h⟩ := h
    refine e_al 14 (sh_14 hS) hP rfl hs5 ?_
    refine e_c hP rfl ?_
    refine e_ceq hP rfl (fun hc => ?_) (fun hc => ?_)
    · have h := h.1 hc
      refine e_c hP rfl ?_
      exact e_ret hP rfl rfl h
    · have h := h.2 hc
      refine e_ld hP rfl rfl ?_
      refine e_gR (a := 8) (w := 9) 4 (sh_4 hS) hP rfl (by decide) rfl ?_
      refine e_gR (a := 7) (w := 13) 8 (sh_8 hS) hP rfl (by decide) rfl ?_
      refine e_ld hP rfl rfl ?_
      obtain ⟨hs6, h⟩ := h
      refine e_al 12 (sh_12 hS) hP rfl hs6 ?_
      refine e_ld hP rfl rfl ?_
      refine e_cge hP rfl (fun hc => ?_) (fun hc => ?_)
      · have h := h.1 hc
        refine e_ld hP rfl rfl ?_
        refine e_gR (a := 8) (w := 31) 4 (sh_4 hS) hP rfl (by decide) rfl ?_
        refine e_ld hP rfl rfl ?_
        refine e_gR (a := 8) (w := 9) 4 (sh_4 hS) hP rfl (by decide) rfl ?_
        refine e_call hP rfl rfl rfl (Nat.le_of_ble_eq_true rfl) (Nat.le_of_ble_eq_true rfl) (rcv0 (sh_30 hS) (by decide)) ?_
        refine Ca.mono h (fun r hr => ?_)
        obtain ⟨M7, rfl, h⟩ := hr
        show En 105 31 [some (.inr (.inr 5)), some (.inl p1), some (.inl v4)] [] S M7 Q
        refine e_ld hP rfl rfl ?_
        refine e_gR (a := 8) (w := 9) 4 (sh_4 hS) hP rfl (by decide) rfl ?_
        refine e_ld hP rfl rfl ?_
        refine e_ld hP rfl rfl ?_
        refine e_gR (a := 8) (w := 172) 4 (sh_4 hS) hP rfl (by decide) rfl ?_
        refine e_ld hP rfl rfl ?_
        refine e_gI (a := 8) 4 (sh_4 hS) hP rfl (by decide) ?_
        refine e_call hP rfl rfl rfl (Nat.le_of_ble_eq_true rfl) (Nat.le_of_ble_eq_true rfl) (rcv0 (sh_8 hS) (by decide)) ?_
        refine Ca.mono h (fun r hr => ?_)
        obtain ⟨M8, rfl, h⟩ := hr
        show En 105 39 [some (.inr (.inr 5)), some (.inl p1), some (.inl v4)] [] S M8 Q
        refine e_ld hP rfl rfl ?_
        refine e_gR (a := 8) (w := 9) 4 (sh_4 hS) hP rfl (by decide) rfl ?_
        refine e_gR (a := 7) (w := 15) 8 (sh_8 hS) hP rfl (by decide) rfl ?_
        refine e_ld hP rfl rfl ?_
        refine e_c hP rfl ?_
        obtain ⟨hs9, h⟩ := h
        refine e_as 14 (sh_14 hS) (by decide) hP rfl hs9 ?_
        refine e_ld hP rfl rfl ?_
        refine e_gR (a := 8) (w := 9) 4 (sh_4 hS) hP rfl (by decide) rfl ?_
        refine e_gR (a := 7) (w := 13) 8 (sh_8 hS) hP rfl (by decide) rfl ?_
        refine e_ld hP rfl rfl ?_
        refine e_dup2 hP rfl ?_
        obtain ⟨hs10, h⟩ := h
        refine e_al 12 (sh_12 hS) hP rfl hs10 ?_
        refine e_ld hP rfl rfl ?_
        obtain ⟨hs11, h⟩ := h
        refine e_sub hP rfl hs11 ?_
        obtain ⟨hs12, h⟩ := h
        refine e_as 12 (sh_12 hS) (by decide) hP rfl hs12 ?_
        refine e_ld hP rfl rfl ?_
        refine e_gR (a := 8) (w := 9) 4 (sh_4 hS) hP rfl (by decide) rfl ?_
        refine e_gR (a := 7) (w := 13) 8 (sh_8 hS) hP rfl (by decide) rfl ?_
        refine e_ld hP rfl rfl ?_
        obtain ⟨hs13, h⟩ := h
        refine e_al 12 (sh_12 hS) hP rfl hs13 ?_
        exact e_ret hP rfl rfl h
      · have h := h.2 hc
        refine e_c hP rfl ?_
        exact e_ret hP rfl rfl h
  · have h := h.2 hc
    refine e_c hP rfl ?_
    exact e_ret hP rfl rfl h
theorem r_X8_may_0 {S : Shp} {M : Mem} {Q : Res → Prop} (hS : KC S) {p1 p2 : Int} (h : Ca 133 [.inr (.inr 5), .inl p1, .inl p2] S M (fun r => ∃ (M1 : Mem) (v2 : Int), r = (S, M1, some (.inl v2)) ∧ ((v2 ≠ 0 → Ca 84 [.inr (.inr 9), .inl p1, .inl p2, .inl (M1 8 2)] S M1 (fun r => ∃ (M3 : Mem) (v4 : Int), r = (S, M3, some (.inl v4)) ∧ ((v4 = 0 → Q (S, M3, some (.inl (0 : Int)))) ∧ (v4 ≠ 0 → Q (S, M3, some (.inl (1 : Int))))))) ∧ (v2 = 0 → Q (S, M1, some (.inl (-1 : Int))))))) : Ca 106 [.inr (.inr 5), .inl p1, .inl p2] S M Q := by
  have hP : PR 106 = (bc_106, 3) := rfl
  refine ⟨Nat.le_of_ble_eq_true rfl, ?_⟩
  show En 106 0 [some (.inr (.inr 5)), some (.inl p1), some (.inl p2)] [] S M Q
  refine e_ld hP rfl rfl ?_
  refine e_ld hP rfl rfl ?_
  refine e_ld hP rfl rfl ?_
  refine e_call hP rfl rfl rfl (Nat.le_of_ble_eq_true rfl) (Nat.le_of_ble_eq_true rfl) (rcv0 (sh_4 hS) (by decide)) ?_
  refine Ca.mono h (fun r hr => ?_)
  obtain ⟨M1, v2, rfl, h⟩ := hr
  show En 106 4 [some (.inr (.inr 5)), some (.inl p1), some (.inl p2)] [.inl v2] S M1 Q
  refine e_zne hP rfl (fun hc => ?_) (fun hc => ?_)
  · have h := h.1 hc
    refine e_ld hP rfl rfl ?_
    refine e_gR (a := 8) (w := 9) 4 (sh_4 hS) hP rfl (by decide) rfl ?_
    refine e_ld hP rfl rfl ?_
    refine e_ld hP rfl rfl ?_
    refine e_ld hP rfl rfl ?_
    refine e_gR (a := 8) (w := 9) 4 (sh_4 hS) hP rfl (by decide) rfl ?_
    refine e_gI (a := 7) 8 (sh_8 hS) hP rfl (by decide) ?_
    refine e_call hP rfl rfl rfl (Nat.le_of_ble_eq_true rfl) (Nat.le_of_ble_eq_true rfl) (rcv0 (sh_8 hS) (by decide)) ?_
    refine Ca.mono h (fun r hr => ?_)
    obtain ⟨M3, v4, rfl, h⟩ := hr
    show En 106 15 [some (.inr (.inr 5)), some (.inl p1), some (.inl p2)] [.inl v4] S M3 Q
    refine e_zeq hP rfl (fun hc => ?_) (fun hc => ?_)
    · have h := h.1 hc
      refine e_c hP rfl ?_
      exact e_ret hP rfl rfl h
    · have h := h.2 hc
      refine e_c hP rfl ?_
      refine e_go hP rfl ?_
      exact e_ret hP rfl rfl h
  · have h := h.2 hc
    refine e_c hP rfl ?_
    exact e_ret hP rfl rfl h
theorem r_X8_wed_0 {S : Shp} {M : Mem} {Q : Res → Prop} (hS : KC S) {p1 p2 : Int} (h : Ca 133 [.inr (.inr 5), .inl p1, .inl p2] S M (fun r => ∃ (M1 : Mem) (v2 : Int), r = (S, M1, some (.inl v2)) ∧ ((v2 ≠ 0 → Ca 84 [.inr (.inr 9), .inl p1, .inl p2, .inl (M1 8 2)] S M1 (fun r => ∃ (M3 : Mem) (v4 : Int), r = (S, M3, some (.inl v4)) ∧ ((v4 ≠ 0 → Ca 33 [.inr (.inr 31), .inr (.inr 9)] S M3 (fun r => ∃ M5 : Mem, r = (S, M5, none) ∧ (0 ≤ p1 ∧ p1 < 8) ∧ (0 ≤ p2 ∧ p2 < 8) ∧ Ca 85 [.inr (.inr 9)] S (up2 (up2 M5 13 p1.toNat p2) 13 p2.toNat p1) (fun r => ∃ (M8 : Mem) (v9 : Int), r = (S, M8, some (.inl v9)) ∧ Q (S, M8, some (.inl v9))))) ∧ (v4 = 0 → Q (S, M3, some (.inl (-2 : Int))))))) ∧ (v2 = 0 → Q (S, M1, some (.inl (-1 : Int))))))) : Ca 107 [.inr (.inr 5), .inl p1, .inl p2] S M Q := by
  have hP : PR 107 = (bc_107, 3) := rfl
  refine ⟨Nat.le_of_ble_eq_true rfl, ?_⟩
  show En 107 0 [some (.inr (.inr 5)), some (.inl p1), some (.inl p2)] [] S M Q
  refine e_ld hP rfl rfl ?_
  refine e_ld hP rfl rfl ?_
  refine e_ld hP rfl rfl ?_
  refine e_call hP rfl rfl rfl (Nat.le_of_ble_eq_true rfl) (Nat.le_of_ble_eq_true rfl) (rcv0 (sh_4 hS) (by decide)) ?_
  refine Ca.mono h (fun r hr => ?_)
  obtain ⟨M1, v2, rfl, h⟩ := hr
  show En 107 4 [some (.inr (.inr 5)), some (.inl p1), some (.inl p2)] [.inl v2] S M1 Q
  refine e_zne hP rfl (fun hc => ?_) (fun hc => ?_)
  · have h := h.1 hc
    refine e_ld hP rfl rfl ?_
    refine e_gR (a := 8) (w := 9) 4 (sh_4 hS) hP rfl (by decide) rfl ?_
    refine e_ld hP rfl rfl ?_
    refine e_ld hP rfl rfl ?_
    refine e_ld hP rfl rfl ?_
    refine e_gR (a := 8) (w := 9) 4 (sh_4 hS) hP rfl (by decide) rfl ?_
    refine e_gI (a := 7) 8 (sh_8 hS) hP rfl (by decide) ?_
    refine e_call hP rfl rfl rfl (Nat.le_of_ble_eq_true rfl) (Nat.le_of_ble_eq_true rfl) (rcv0 (sh_8 hS) (by decide)) ?_
    refine Ca.mono h (fun r hr => ?_)
    obtain ⟨M3, v4, rfl, h⟩ := hr
    show En 107 15 [some (.inr (.inr 5)), some (.inl p1), some (.inl p2)] [.inl v4] S M3 Q
    refine e_zne hP rfl (fun hc => ?_) (fun hc => ?_)
    · have h := h.1 hc
      refine e_ld hP rfl rfl ?_
      refine e_gR (a := 8) (w := 31) 4 (sh_4 hS) hP rfl (by decide) rfl ?_
      refine e_ld hP rfl rfl ?_
      refine e_gR (a := 8) (w := 9) 4 (sh_4 hS) hP rfl (by decide) rfl ?_
      refine e_call hP rfl rfl rfl (Nat.le_of_ble_eq_true rfl) (Nat.le_of_ble_eq_true rfl) (rcv0 (sh_30 hS) (by decide)) ?_
      refine Ca.mono h (fun r hr => ?_)
      obtain ⟨M5, rfl, h⟩ := hr
      show En 107 23 [some (.inr (.inr 5)), some (.inl p1), some (.inl p2)] [] S M5 Q
      refine e_ld hP rfl rfl ?_
      refine e_gR (a := 8) (w := 9) 4 (sh_4 hS) hP rfl (by decide) rfl ?_
      refine e_gR (a := 7) (w := 14) 8 (sh_8 hS) hP rfl (by decide) rfl ?_
      refine e_ld hP rfl rfl ?_
      refine e_ld hP rfl rfl ?_
      obtain ⟨hs6, h⟩ := h
      refine e_as 13 (sh_13 hS) (by decide) hP rfl hs6 ?_
      refine e_ld hP rfl rfl ?_
      refine e_gR (a := 8) (w := 9) 4 (sh_4 hS) hP rfl (by decide) rfl ?_
      refine e_gR (a := 7) (w := 14) 8 (sh_8 hS) hP rfl (by decide) rfl ?_
      refine e_ld hP rfl rfl ?_
      refine e_ld hP rfl rfl ?_
      obtain ⟨hs7, h⟩ := h
      refine e_as 13 (sh_13 hS) (by decide) hP rfl hs7 ?_
      refine e_ld hP rfl rfl ?_
      refine e_gR (a := 8) (w := 9) 4 (sh_4 hS) hP rfl (by decide) rfl ?_
      refine e_call hP rfl rfl rfl (Nat.le_of_ble_eq_true rfl) (Nat.le_of_ble_eq_true rfl) (rcv0 (sh_8 hS) (by decide)) ?_
      refine Ca.mono h (fun r hr => ?_)
      obtain ⟨M8, v9, rfl, h⟩ := hr
      show En 107 38 [some (.inr (.inr 5)), some (.inl p1), some (.inl p2)] [.inl v9] S M8 Q
      exact e_ret hP rfl rfl h
    · have h := h.2 hc
      refine e_c hP rfl ?_
      exact e_ret hP rfl rfl h
  · have h := h.2 hc
    refine e_c hP rfl ?_
    exact e_ret hP rfl rfl h
theorem r_X8_lend_0 {S : Shp} {M : Mem} {Q : Res → Prop} (hS : KC S) {p1 p2 p3 : Int} (h : Ca 133 [.inr (.inr 5), .inl p1, .inl p2] S M (fun r => ∃ (M1 : Mem) (v2 : Int), r = (S, M1, some (.inl v2)) ∧ ((v2 = 0 → Q (S, M1, some (.inl (-1 : Int)))) ∧ (v2 ≠ 0 → ((p3 < (1 : Int) → Q (S, M1, some (.inl (-1 : Int)))) ∧ ((1 : Int) ≤ p3 → ((p3 ≤ (99 : Int) → Ca 88 [.inr (.inr 9), .inl p1, .inl p2] S M1 (fun r => ∃ (M3 : Mem) (v4 : Int), r = (S, M3, some (.inl v4)) ∧ (inR (v4 + p3)) ∧ (0 ≤ p1 ∧ p1 < 8) ∧ (((M3 12 p1.toNat) < p3 → Q (S, M3, some (.inl (-2 : Int)))) ∧ (p3 ≤ (M3 12 p1.toNat) → (((999 : Int) < (v4 + p3) → Q (S, M3, some (.inl (-2 : Int)))) ∧ ((v4 + p3) ≤ (999 : Int) → Ca 86 [.inr (.inr 9), .inl p1, .inl p2] S M3 (fun r => ∃ (M7 : Mem) (v8 : Int), r = (S, M7, some (.inl v8)) ∧ ((v8 ≠ 0 → Ca 33 [.inr (.inr 31), .inr (.inr 9)] S M7 (fun r => ∃ M9 : Mem, r = (S, M9, none) ∧ Ca 87 [.inr (.inr 9), .inl p1, .inl p2, .inl p3] S M9 (fun r => ∃ M10 : Mem, r = (S, M10, none) ∧ Ca 89 [.inr (.inr 9), .inl p1, .inl p2, .inl (v4 + p3)] S M10 (fun r => ∃ M11 : Mem, r = (S, M11, none) ∧ Q (S, M11, some (.inl (v4 + p3))))))) ∧ (v8 = 0 → Q (S, M7, some (.inl (-2 : Int)))))))))))) ∧ ((99 : Int) < p3 → Q (S, M1, some (.inl (-1 : Int))))))))))) : Ca 108 [.inr (.inr 5), .inl p1, .inl p2, .inl p3] S M Q := by
  have hP : PR 108 = (bc_108, 5) := rfl
  refine ⟨Nat.le_of_ble_eq_true rfl, ?_⟩
  show En 108 0 [some (.inr (.inr 5)), some (.inl p1), some (.inl p2), some (.inl p3), none] [] S M Q
  refine e_ld hP rfl rfl ?_
  refine e_ld hP rfl rfl ?_
  refine e_ld hP rfl rfl ?_
  refine e_call hP rfl rfl rfl (Nat.le_of_ble_eq_true rfl) (Nat.le_of_ble_eq_true rfl) (rcv0 (sh_4 hS) (by decide)) ?_
  refine Ca.mono h (fun r hr => ?_)
  obtain ⟨M1, v2, rfl, h⟩ := hr
  show En 108 4 [some (.inr (.inr 5)), some (.inl p1), some (.inl p2), some (.inl p3), none] [.inl v2] S M1 Q
  refine e_zeq hP rfl (fun hc => ?_) (fun hc => ?_)
  · have h := h.1 hc
    refine e_c hP rfl ?_
    exact e_ret hP rfl rfl h
  · have h := h.2 hc
    refine e_ld hP rfl rfl ?_
    refine e_c hP rfl ?_
    refine e_clt hP rfl (fun hc => ?_) (fun hc => ?_)
    · have h := h.1 hc
      refine e_c hP rfl ?_
      exact e_ret hP rfl rfl h
    · have h := h.2 hc
      refine e_ld hP rfl rfl ?_
      refine e_c hP rfl ?_
      refine e_cle hP rfl (fun hc => ?_) (fun hc => ?_)
      · have h := h.1 hc
        refine e_ld hP rfl rfl ?_
        refine e_gR (a := 8) (w := 9) 4 (sh_4 hS) hP rfl (by decide) rfl ?_
        refine e_ld hP rfl rfl ?_
        refine e_ld hP rfl rfl ?_
        refine e_call hP rfl rfl rfl (Nat.le_of_ble_eq_true rfl) (Nat.le_of_ble_eq_true rfl) (rcv0 (sh_8 hS) (by decide)) ?_
        refine Ca.mono h (fun r hr => ?_)
        obtain ⟨M3, v4, rfl, h⟩ := hr
        show En 108 18 [some (.inr (.inr 5)), some (.inl p1), some (.inl p2), some (.inl p3), none] [.inl v4] S M3 Q
        refine e_ld hP rfl rfl ?_
        obtain ⟨hs5, h⟩ := h
        refine e_add hP rfl hs5 ?_
        refine e_st (L' := [some (.inr (.inr 5)), some (.inl p1), some (.inl p2), some (.inl p3), some (.inl (v4 + p3))]) hP rfl rfl ?_
        refine e_ld hP rfl rfl ?_
        refine e_gR (a := 8) (w := 9) 4 (sh_4 hS) hP rfl (by decide) rfl ?_
        refine e_gR (a := 7) (w := 13) 8 (sh_8 hS) hP rfl (by decide) rfl ?_
        refine e_ld hP rfl rfl ?_
        obtain ⟨hs6, h⟩ := h
        refine e_al 12 (sh_12 hS) hP rfl hs6 ?_
        refine e_ld hP rfl rfl ?_
        refine e_clt hP rfl (fun hc => ?_) (fun hc => ?_)
        · have h := h.1 hc
          refine e_c hP rfl ?_
          exact e_ret hP rfl rfl h
        · have h := h.2 hc
          refine e_ld hP rfl rfl ?_
          refine e_c hP rfl ?_
          refine e_cgt hP rfl (fun hc => ?_) (fun hc => ?_)
          · have h := h.1 hc
            refine e_c hP rfl ?_
            exact e_ret hP rfl rfl h
          · have h := h.2 hc
            refine e_ld hP rfl rfl ?_
            refine e_gR (a := 8) (w := 9) 4 (sh_4 hS) hP rfl (by decide) rfl ?_
            refine e_ld hP rfl rfl ?_
            refine e_ld hP rfl rfl ?_
            refine e_call hP rfl rfl rfl (Nat.le_of_ble_eq_true rfl) (Nat.le_of_ble_eq_true rfl) (rcv0 (sh_8 hS) (by decide)) ?_
            refine Ca.mono h (fun r hr => ?_)
            obtain ⟨M7, v8, rfl, h⟩ := hr
            show En 108 36 [some (.inr (.inr 5)), some (.inl p1), some (.inl p2), some (.inl p3), some (.inl (v4 + p3))] [.inl v8] S M7 Q
            refine e_zne hP rfl (fun hc => ?_) (fun hc => ?_)
            · have h := h.1 hc
              refine e_ld hP rfl rfl ?_
              refine e_gR (a := 8) (w := 31) 4 (sh_4 hS) hP rfl (by decide) rfl ?_
              refine e_ld hP rfl rfl ?_
              refine e_gR (a := 8) (w := 9) 4 (sh_4 hS) hP rfl (by decide) rfl ?_
              refine e_call hP rfl rfl rfl (Nat.le_of_ble_eq_true rfl) (Nat.le_of_ble_eq_true rfl) (rcv0 (sh_30 hS) (by decide)) ?_
              refine Ca.mono h (fun r hr => ?_)
              obtain ⟨M9, rfl, h⟩ := hr
              show En 108 44 [some (.inr (.inr 5)), some (.inl p1), some (.inl p2), some (.inl p3), some (.inl (v4 + p3))] [] S M9 Q
              refine e_ld hP rfl rfl ?_
              refine e_gR (a := 8) (w := 9) 4 (sh_4 hS) hP rfl (by decide) rfl ?_
              refine e_ld hP rfl rfl ?_
              refine e_ld hP rfl rfl ?_
              refine e_ld hP rfl rfl ?_
              refine e_call hP rfl rfl rfl (Nat.le_of_ble_eq_true rfl) (Nat.le_of_ble_eq_true rfl) (rcv0 (sh_8 hS) (by decide)) ?_
              refine Ca.mono h (fun r hr => ?_)
              obtain ⟨M10, rfl, h⟩ := hr
              show En 108 50 [some (.inr (.inr 5)), some (.inl p1), some (.inl p2), some (.inl p3), some (.inl (v4 + p3))] [] S M10 Q
              refine e_ld hP rfl rfl ?_
              refine e_gR (a := 8) (w := 9) 4 (sh_4 hS) hP rfl (by decide) rfl ?_
              refine e_ld hP rfl rfl ?_
              refine e_ld hP rfl rfl ?_
              refine e_ld hP rfl rfl ?_
              refine e_call hP rfl rfl rfl (Nat.le_of_ble_eq_true rfl) (Nat.le_of_ble_eq_true rfl) (rcv0 (sh_8 hS) (by decide)) ?_
              refine Ca.mono h (fun r hr => ?_)
              obtain ⟨M11, rfl, h⟩ := hr
              show En 108 56 [some (.inr (.inr 5)), some (.inl p1), some (.inl p2), some (.inl p3), some (.inl (v4 + p3))] [] S M11 Q
              refine e_ld hP rfl rfl ?_
              exact e_ret hP rfl rfl h
            · have h := h.2 hc
              refine e_c hP rfl ?_
              exact e_ret hP rfl rfl h
      · have h := h.2 hc
        refine e_c hP rfl ?_
        exact e_ret hP rfl rfl h
theorem r_X8_repay_0 {S : Shp} {M : Mem} {Q : Res → Prop} (hS : KC S) {p1 p2 p3 : Int} (h : Ca 133 [.inr (.inr 5), .inl p1, .inl p2] S M (fun r => ∃ (M1 : Mem) (v2 : Int), r = (S, M1, some (.inl v2)) ∧ ((v2 = 0 → Q (S, M1, some (.inl (-1 : Int)))) ∧ (v2 ≠ 0 → ((p3 < (1 : Int) → Q (S, M1, some (.inl (-1 : Int)))) ∧ ((1 : Int) ≤ p3 → ((p3 ≤ (99 : Int) → Ca 88 [.inr (.inr 9), .inl p1, .inl p2] S M1 (fun r => ∃ (M3 : Mem) (v4 : Int), r = (S, M3, some (.inl v4)) ∧ (inR (v4 - p3)) ∧ (((v4 - p3) < 0 → Q (S, M3, some (.inl (-2 : Int)))) ∧ (0 ≤ (v4 - p3) → (0 ≤ p2 ∧ p2 < 8) ∧ ((p3 ≤ (M3 12 p2.toNat) → Ca 33 [.inr (.inr 31), .inr (.inr 9)] S M3 (fun r => ∃ M7 : Mem, r = (S, M7, none) ∧ Ca 87 [.inr (.inr 9), .inl p2, .inl p1, .inl p3] S M7 (fun r => ∃ M8 : Mem, r = (S, M8, none) ∧ Ca 89 [.inr (.inr 9), .inl p1, .inl p2, .inl (v4 - p3)] S M8 (fun r => ∃ M9 : Mem, r = (S, M9, none) ∧ Q (S, M9, some (.inl (v4 - p3))))))) ∧ ((M3 12 p2.toNat) < p3 → Q (S, M3, some (.inl (-2 : Int))))))))) ∧ ((99 : Int) < p3 → Q (S, M1, some (.inl (-1 : Int))))))))))) : Ca 109 [.inr (.inr 5), .inl p1, .inl p2, .inl p3] S M Q := by
  have hP : PR 109 = (bc_109, 5) := rfl
  refine ⟨Nat.le_of_ble_eq_true rfl, ?_⟩
  show En 109 0 [some (.inr (.inr 5)), some (.inl p1), some (.inl p2), some (.inl p3), none] [] S M Q
  refine e_ld hP rfl rfl ?_
  refine e_ld hP rfl rfl ?_
  refine e_ld hP rfl rfl ?_
  refine e_call hP rfl rfl rfl (Nat.le_of_ble_eq_true rfl) (Nat.le_of_ble_eq_true rfl) (rcv0 (sh_4 hS) (by decide)) ?_
  refine Ca.mono h (fun r hr => ?_)
  obtain ⟨M1, v2, rfl, h⟩ := hr
  show En 109 4 [some (.inr (.inr 5)), some (.inl p1), some (.inl p2), some (.inl p3), none] [.inl v2] S M1 Q
  refine e_zeq hP rfl (fun hc => ?_) (fun hc => ?_)
  · have h := h.1 hc
    refine e_c hP rfl ?_
    exact e_ret hP rfl rfl h
  · have h := h.2 hc
    refine e_ld hP rfl rfl ?_
    refine e_c hP rfl ?_
    refine e_clt hP rfl (fun hc => ?_) (fun hc => ?_)
    · have h := h.1 hc
      refine e_c hP rfl ?_
      exact e_ret hP rfl rfl h
    · have h := h.2 hc
      refine e_ld hP rfl rfl ?_
      refine e_c hP rfl ?_
      refine e_cle hP rfl (fun hc => ?_) (fun hc => ?_)
      · have h := h.1 hc
        refine e_ld hP rfl rfl ?_
        refine e_gR (a := 8) (w := 9) 4 (sh_4 hS) hP rfl (by decide) rfl ?_
        refine e_ld hP rfl rfl ?_
        refine e_ld hP rfl rfl ?_
        refine e_call hP rfl rfl rfl (Nat.le_of_ble_eq_true rfl) (Nat.le_of_ble_eq_true rfl) (rcv0 (sh_8 hS) (by decide)) ?_
        refine Ca.mono h (fun r hr => ?_)
        obtain ⟨M3, v4, rfl, h⟩ := hr
        show En 109 18 [some (.inr (.inr 5)), some (.inl p1), some (.inl p2), some (.inl p3), none] [.inl v4] S M3 Q
        refine e_ld hP rfl rfl ?_
        obtain ⟨hs5, h⟩ := h
        refine e_sub hP rfl hs5 ?_
        refine e_st (L' := [some (.inr (.inr 5)), some (.inl p1), some (.inl p2), some (.inl p3), some (.inl (v4 - p3))]) hP rfl rfl ?_
        refine e_ld hP rfl rfl ?_
        refine e_zlt hP rfl (fun hc => ?_) (fun hc => ?_)
        · have h := h.1 hc
          refine e_c hP rfl ?_
          exact e_ret hP rfl rfl h
        · have h := h.2 hc
          refine e_ld hP rfl rfl ?_
          refine e_gR (a := 8) (w := 9) 4 (sh_4 hS) hP rfl (by decide) rfl ?_
          refine e_gR (a := 7) (w := 13) 8 (sh_8 hS) hP rfl (by decide) rfl ?_
          refine e_ld hP rfl rfl ?_
          obtain ⟨hs6, h⟩ := h
          refine e_al 12 (sh_12 hS) hP rfl hs6 ?_
          refine e_ld hP rfl rfl ?_
          refine e_cge hP rfl (fun hc => ?_) (fun hc => ?_)
          · have h := h.1 hc
            refine e_ld hP rfl rfl ?_
            refine e_gR (a := 8) (w := 31) 4 (sh_4 hS) hP rfl (by decide) rfl ?_
            refine e_ld hP rfl rfl ?_
            refine e_gR (a := 8) (w := 9) 4 (sh_4 hS) hP rfl (by decide) rfl ?_
            refine e_call hP rfl rfl rfl (Nat.le_of_ble_eq_true rfl) (Nat.le_of_ble_eq_true rfl) (rcv0 (sh_30 hS) (by decide)) ?_
            refine Ca.mono h (fun r hr => ?_)
            obtain ⟨M7, rfl, h⟩ := hr
            show En 109 37 [some (.inr (.inr 5)), some (.inl p1), some (.inl p2), some (.inl p3), some (.inl (v4 - p3))] [] S M7 Q
            refine e_ld hP rfl rfl ?_
            refine e_gR (a := 8) (w := 9) 4 (sh_4 hS) hP rfl (by decide) rfl ?_
            refine e_ld hP rfl rfl ?_
            refine e_ld hP rfl rfl ?_
            refine e_ld hP rfl rfl ?_
            refine e_call hP rfl rfl rfl (Nat.le_of_ble_eq_true rfl) (Nat.le_of_ble_eq_true rfl) (rcv0 (sh_8 hS) (by decide)) ?_
            refine Ca.mono h (fun r hr => ?_)
            obtain ⟨M8, rfl, h⟩ := hr
            show En 109 43 [some (.inr (.inr 5)), some (.inl p1), some (.inl p2), some (.inl p3), some (.inl (v4 - p3))] [] S M8 Q
            refine e_ld hP rfl rfl ?_
            refine e_gR (a := 8) (w := 9) 4 (sh_4 hS) hP rfl (by decide) rfl ?_
            refine e_ld hP rfl rfl ?_
            refine e_ld hP rfl rfl ?_
            refine e_ld hP rfl rfl ?_
            refine e_call hP rfl rfl rfl (Nat.le_of_ble_eq_true rfl) (Nat.le_of_ble_eq_true rfl) (rcv0 (sh_8 hS) (by decide)) ?_
            refine Ca.mono h (fun r hr => ?_)
            obtain ⟨M9, rfl, h⟩ := hr
            show En 109 49 [some (.inr (.inr 5)), some (.inl p1), some (.inl p2), some (.inl p3), some (.inl (v4 - p3))] [] S M9 Q
            refine e_ld hP rfl rfl ?_
            exact e_ret hP rfl rfl h
          · have h := h.2 hc
            refine e_c hP rfl ?_
            exact e_ret hP rfl rfl h
      · have h := h.2 hc
        refine e_c hP rfl ?_
        exact e_ret hP rfl rfl h
theorem r_X8_swap_0 {S : Shp} {M : Mem} {Q : Res → Prop} (hS : KC S) {p1 p2 : Int} (h : Ca 134 [.inl p1] S M (fun r => ∃ (M1 : Mem) (v2 : Int), r = (S, M1, some (.inl v2)) ∧ ((v2 = 0 → Q (S, M1, some (.inl (-1 : Int)))) ∧ (v2 ≠ 0 → Ca 134 [.inl p2] S M1 (fun r => ∃ (M3 : Mem) (v4 : Int), r = (S, M3, some (.inl v4)) ∧ ((v4 = 0 → Q (S, M3, some (.inl (-1 : Int)))) ∧ (v4 ≠ 0 → ((p1 ≠ p2 → Ca 33 [.inr (.inr 31), .inr (.inr 9)] S M3 (fun r => ∃ M5 : Mem, r = (S, M5, none) ∧ Ca 70 [.inr (.inr 9), .inl p1, .inl p2] S M5 (fun r => ∃ M6 : Mem, r = (S, M6, none) ∧ (0 ≤ p1 ∧ p1 < 26) ∧ Q (S, M6, some (.inl (M6 16 p1.toNat)))))) ∧ (p1 = p2 → Q (S, M3, some (.inl (-1 : Int)))))))))))) : Ca 110 [.inr (.inr 5), .inl p1, .inl p2] S M Q := by
  have hP : PR 110 = (bc_110, 3) := rfl
  refine ⟨Nat.le_of_ble_eq_true rfl, ?_⟩
  show En 110 0 [some (.inr (.inr 5)), some (.inl p1), some (.inl p2)] [] S M Q
  refine e_ld hP rfl rfl ?_
  refine e_call hP rfl rfl rfl (Nat.le_of_ble_eq_true rfl) (Nat.le_of_ble_eq_true rfl) rcv1 ?_
  refine Ca.mono h (fun r hr => ?_)
  obtain ⟨M1, v2, rfl, h⟩ := hr
  show En 110 2 [some (.inr (.inr 5)), some (.inl p1), some (.inl p2)] [.inl v2] S M1 Q
  refine e_zeq hP rfl (fun hc => ?_) (fun hc => ?_)
  · have h := h.1 hc
    refine e_c hP rfl ?_
    exact e_ret hP rfl rfl h
  · have h := h.2 hc
    refine e_ld hP rfl rfl ?_
    refine e_call hP rfl rfl rfl (Nat.le_of_ble_eq_true rfl) (Nat.le_of_ble_eq_true rfl) rcv1 ?_
    refine Ca.mono h (fun r hr => ?_)
    obtain ⟨M3, v4, rfl, h⟩ := hr
    show En 110 5 [some (.inr (.inr 5)), some (.inl p1), some (.inl p2)] [.inl v4] S M3 Q
    refine e_zeq hP rfl (fun hc => ?_) (fun hc => ?_)
    · have h := h.1 hc
      refine e_c hP rfl ?_
      exact e_ret hP rfl rfl h
    · have h := h.2 hc
      refine e_ld hP rfl rfl ?_
      refine e_ld hP rfl rfl ?_
      refine e_cne hP rfl (fun hc => ?_) (fun hc => ?_)
      · have h := h.1 hc
        refine e_ld hP rfl rfl ?_
        refine e_gR (a := 8) (w := 31) 4 (sh_4 hS) hP rfl (by decide) rfl ?_
        refine e_ld hP rfl rfl ?_
        refine e_gR (a := 8) (w := 9) 4 (sh_4 hS) hP rfl (by decide) rfl ?_
        refine e_call hP rfl rfl rfl (Nat.le_of_ble_eq_true rfl) (Nat.le_of_ble_eq_true rfl) (rcv0 (sh_30 hS) (by decide)) ?_
        refine Ca.mono h (fun r hr => ?_)
        obtain ⟨M5, rfl, h⟩ := hr
        show En 110 16 [some (.inr (.inr 5)), some (.inl p1), some (.inl p2)] [] S M5 Q
        refine e_ld hP rfl rfl ?_
        refine e_gR (a := 8) (w := 9) 4 (sh_4 hS) hP rfl (by decide) rfl ?_
        refine e_ld hP rfl rfl ?_
        refine e_ld hP rfl rfl ?_
        refine e_call hP rfl rfl rfl (Nat.le_of_ble_eq_true rfl) (Nat.le_of_ble_eq_true rfl) (rcv0 (sh_8 hS) (by decide)) ?_
        refine Ca.mono h (fun r hr => ?_)
        obtain ⟨M6, rfl, h⟩ := hr
        show En 110 21 [some (.inr (.inr 5)), some (.inl p1), some (.inl p2)] [] S M6 Q
        refine e_ld hP rfl rfl ?_
        refine e_gR (a := 8) (w := 9) 4 (sh_4 hS) hP rfl (by decide) rfl ?_
        refine e_gR (a := 7) (w := 17) 8 (sh_8 hS) hP rfl (by decide) rfl ?_
        refine e_ld hP rfl rfl ?_
        obtain ⟨hs7, h⟩ := h
        refine e_al 16 (sh_16 hS) hP rfl hs7 ?_
        exact e_ret hP rfl rfl h
      · have h := h.2 hc
        refine e_c hP rfl ?_
        exact e_ret hP rfl rfl h
theorem r_X8_newYear_0 {S : Shp} {M : Mem} {Q : Res → Prop} (hS : KC S) (h : Ca 33 [.inr (.inr 31), .inr (.inr 9)] S M (fun r => ∃ M1 : Mem, r = (S, M1, none) ∧ En 111 9 [some (.inr (.inr 5)), some (.inl (0 : Int)), some (.inl (0 : Int))] [] S M1 Q)) : Ca 111 [.inr (.inr 5)] S M Q := by
  have hP : PR 111 = (bc_111, 3) := rfl
  refine ⟨Nat.le_of_ble_eq_true rfl, ?_⟩
  show En 111 0 [some (.inr (.inr 5)), none, none] [] S M Q
  refine e_ld hP rfl rfl ?_
  refine e_gR (a := 8) (w := 31) 4 (sh_4 hS) hP rfl (by decide) rfl ?_
  refine e_ld hP rfl rfl ?_
  refine e_gR (a := 8) (w := 9) 4 (sh_4 hS) hP rfl (by decide) rfl ?_
  refine e_call hP rfl rfl rfl (Nat.le_of_ble_eq_true rfl) (Nat.le_of_ble_eq_true rfl) (rcv0 (sh_30 hS) (by decide)) ?_
  refine Ca.mono h (fun r hr => ?_)
  obtain ⟨M1, rfl, h⟩ := hr
  show En 111 5 [some (.inr (.inr 5)), none, none] [] S M1 Q
  refine e_c hP rfl ?_
  refine e_st (L' := [some (.inr (.inr 5)), some (.inl (0 : Int)), none]) hP rfl rfl ?_
  refine e_c hP rfl ?_
  refine e_st (L' := [some (.inr (.inr 5)), some (.inl (0 : Int)), some (.inl (0 : Int))]) hP rfl rfl ?_
  exact h
theorem r_X8_newYear_9 {S : Shp} {M : Mem} {Q : Res → Prop} (hS : KC S) {x1 x2 : Int} (h : (((M 8 0) ≤ x2 → Q (S, M, some (.inl x1))) ∧ (x2 < (M 8 0) → (0 ≤ x2 ∧ x2 < 8) ∧ (inR (x1 + (M 14 x2.toNat))) ∧ (0 ≤ x2 ∧ x2 < 8) ∧ (inR (x2 + 1)) ∧ En 111 9 [some (.inr (.inr 5)), some (.inl (x1 + (M 14 x2.toNat))), some (.inl (x2 + 1))] [] S (up2 M 14 x2.toNat (0 : Int)) Q))) : En 111 9 [some (.inr (.inr 5)), some (.inl x1), some (.inl x2)] [] S M Q := by
  have hP : PR 111 = (bc_111, 3) := rfl
  refine e_ld hP rfl rfl ?_
  refine e_ld hP rfl rfl ?_
  refine e_gR (a := 8) (w := 9) 4 (sh_4 hS) hP rfl (by decide) rfl ?_
  refine e_gI (a := 7) 8 (sh_8 hS) hP rfl (by decide) ?_
  refine e_cge hP rfl (fun hc => ?_) (fun hc => ?_)
  · have h := h.1 hc
    refine e_ld hP rfl rfl ?_
    exact e_ret hP rfl rfl h
  · have h := h.2 hc
    refine e_ld hP rfl rfl ?_
    refine e_ld hP rfl rfl ?_
    refine e_gR (a := 8) (w := 9) 4 (sh_4 hS) hP rfl (by decide) rfl ?_
    refine e_gR (a := 7) (w := 15) 8 (sh_8 hS) hP rfl (by decide) rfl ?_
    refine e_ld hP rfl rfl ?_
    obtain ⟨hs1, h⟩ := h
    refine e_al 14 (sh_14 hS) hP rfl hs1 ?_
    obtain ⟨hs2, h⟩ := h
    refine e_add hP rfl hs2 ?_
    refine e_st (L' := [some (.inr (.inr 5)), some (.inl (x1 + (M 14 x2.toNat))), some (.inl x2)]) hP rfl rfl ?_
    refine e_ld hP rfl rfl ?_
    refine e_gR (a := 8) (w := 9) 4 (sh_4 hS) hP rfl (by decide) rfl ?_
    refine e_gR (a := 7) (w := 15) 8 (sh_8 hS) hP rfl (by decide) rfl ?_
    refine e_ld hP rfl rfl ?_
    refine e_c hP rfl ?_
    obtain ⟨hs3, h⟩ := h
    refine e_as 14 (sh_14 hS) (by decide) hP rfl hs3 ?_
    obtain ⟨hs4, h⟩ := h
    refine e_inc (L' := [some (.inr (.inr 5)), some (.inl (x1 + (M 14 x2.toNat))), some (.inl (x2 + 1))]) hP rfl rfl hs4 rfl ?_
    refine e_go hP rfl ?_
    exact h
theorem r_X8_undo_0 {S : Shp} {M : Mem} {Q : Res → Prop} (hS : KC S) (h : Ca 34 [.inr (.inr 31), .inr (.inr 9)] S M (fun r => ∃ (M1 : Mem) (v2 : Int), r = (S, M1, some (.inl v2)) ∧ ((v2 = 0 → Q (S, M1, some (.inl (-2 : Int)))) ∧ (v2 ≠ 0 → Q (S, M1, some (.inl (M1 30 1))))))) : Ca 112 [.inr (.inr 5)] S M Q := by
  have hP : PR 112 = (bc_112, 1) := rfl
  refine ⟨Nat.le_of_ble_eq_true rfl, ?_⟩
  show En 112 0 [some (.inr (.inr 5))] [] S M Q
  refine e_ld hP rfl rfl ?_
  refine e_gR (a := 8) (w := 31) 4 (sh_4 hS) hP rfl (by decide) rfl ?_
  refine e_ld hP rfl rfl ?_
  refine e_gR (a := 8) (w := 9) 4 (sh_4 hS) hP rfl (by decide) rfl ?_
  refine e_call hP rfl rfl rfl (Nat.le_of_ble_eq_true rfl) (Nat.le_of_ble_eq_true rfl) (rcv0 (sh_30 hS) (by decide)) ?_
  refine Ca.mono h (fun r hr => ?_)
  obtain ⟨M1, v2, rfl, h⟩ := hr
  show En 112 5 [some (.inr (.inr 5))] [.inl v2] S M1 Q
  refine e_zeq hP rfl (fun hc => ?_) (fun hc => ?_)
  · have h := h.1 hc
    refine e_c hP rfl ?_
    exact e_ret hP rfl rfl h
  · have h := h.2 hc
    refine e_ld hP rfl rfl ?_
    refine e_gR (a := 8) (w := 31) 4 (sh_4 hS) hP rfl (by decide) rfl ?_
    refine e_gI (a := 4) 30 (sh_30 hS) hP rfl (by decide) ?_
    refine e_go hP rfl ?_
    exact e_ret hP rfl rfl h
theorem r_X8_change_0 {S : Shp} {M : Mem} {Q : Res → Prop} (hS : KC S) {p1 p2 : Int} (h : Ca 132 [.inr (.inr 5), .inl p1] S M (fun r => ∃ (M1 : Mem) (v2 : Int), r = (S, M1, some (.inl v2)) ∧ ((v2 = 0 → Q (S, M1, some (.inl (-1 : Int)))) ∧ (v2 ≠ 0 → ((p2 < 0 → Q (S, M1, some (.inl (-1 : Int)))) ∧ (0 ≤ p2 → ((p2 ≤ (1 : Int) → Ca 74 [.inr (.inr 9), .inl p1] S M1 (fun r => ∃ (M3 : Mem) (v4 : Int), r = (S, M3, some (.inl v4)) ∧ ((v4 = 0 → Ca 136 [.inr (.inr 5)] S M3 (fun r => ∃ M5 : Mem, r = (S, M5, some (.inr (.inr 145))) ∧ Ca 23 [.inr (.inr 145), .inl p1] S M5 (fun r => ∃ (M6 : Mem) (v7 : Int), r = (S, M6, some (.inl v7)) ∧ ((p2 ≠ 0 → Ca 22 [.inr (.inr 145), .inl p1, .inl v7] S M6 (fun r => ∃ (M8 : Mem) (v9 : Int), r = (S, M8, some (.inl v9)) ∧ (inR (v9 + (100 : Int))) ∧ Q (S, M8, some (.inl (v9 + (100 : Int)))))) ∧ (p2 = 0 → Q (S, M6, some (.inl v7))))))) ∧ (v4 ≠ 0 → Q (S, M3, some (.inl (-2 : Int))))))) ∧ ((1 : Int) < p2 → Q (S, M1, some (.inl (-1 : Int))))))))))) : Ca 113 [.inr (.inr 5), .inl p1, .inl p2] S M Q := by
  have hP : PR 113 = (bc_113, 4) := rfl
  refine ⟨Nat.le_of_ble_eq_true rfl, ?_⟩
  show En 113 0 [some (.inr (.inr 5)), some (.inl p1), some (.inl p2), none] [] S M Q
  refine e_ld hP rfl rfl ?_
  refine e_ld hP rfl rfl ?_
  refine e_call hP rfl rfl rfl (Nat.le_of_ble_eq_true rfl) (Nat.le_of_ble_eq_true rfl) (rcv0 (sh_4 hS) (by decide)) ?_
  refine Ca.mono h (fun r hr => ?_)
  obtain ⟨M1, v2, rfl, h⟩ := hr
  show En 113 3 [some (.inr (.inr 5)), some (.inl p1), some (.inl p2), none] [.inl v2] S M1 Q
  refine e_zeq hP rfl (fun hc => ?_) (fun hc => ?_)
  · have h := h.1 hc
    refine e_c hP rfl ?_
    exact e_ret hP rfl rfl h
  · have h := h.2 hc
    refine e_ld hP rfl rfl ?_
    refine e_zlt hP rfl (fun hc => ?_) (fun hc => ?_)
    · have h := h.1 hc
      refine e_c hP rfl ?_
      exact e_ret hP rfl rfl h
    · have h := h.2 hc
      refine e_ld hP rfl rfl ?_
      refine e_c hP rfl ?_
      refine e_cle hP rfl (fun hc => ?_) (fun hc => ?_)
      · have h := h.1 hc
        refine e_ld hP rfl rfl ?_
        refine e_gR (a := 8) (w := 9) 4 (sh_4 hS) hP rfl (by decide) rfl ?_
        refine e_ld hP rfl rfl ?_
        refine e_call hP rfl rfl rfl (Nat.le_of_ble_eq_true rfl) (Nat.le_of_ble_eq_true rfl) (rcv0 (sh_8 hS) (by decide)) ?_
        refine Ca.mono h (fun r hr => ?_)
        obtain ⟨M3, v4, rfl, h⟩ := hr
        show En 113 15 [some (.inr (.inr 5)), some (.inl p1), some (.inl p2), none] [.inl v4] S M3 Q
        refine e_zeq hP rfl (fun hc => ?_) (fun hc => ?_)
        · have h := h.1 hc
          refine e_ld hP rfl rfl ?_
          refine e_call hP rfl rfl rfl (Nat.le_of_ble_eq_true rfl) (Nat.le_of_ble_eq_true rfl) (rcv0 (sh_4 hS) (by decide)) ?_
          refine Ca.mono h (fun r hr => ?_)
          obtain ⟨M5, rfl, h⟩ := hr
          show En 113 20 [some (.inr (.inr 5)), some (.inl p1), some (.inl p2), none] [.inr (.inr 145)] S M5 Q
          refine e_popR hP rfl ?_
          refine e_ld hP rfl rfl ?_
          refine e_gR (a := 8) (w := 145) 4 (sh_4 hS) hP rfl (by decide) rfl ?_
          refine e_ld hP rfl rfl ?_
          refine e_call hP rfl rfl rfl (Nat.le_of_ble_eq_true rfl) (Nat.le_of_ble_eq_true rfl) (rcv0 (sh_144 hS) (by decide)) ?_
          refine Ca.mono h (fun r hr => ?_)
          obtain ⟨M6, v7, rfl, h⟩ := hr
          show En 113 25 [some (.inr (.inr 5)), some (.inl p1), some (.inl p2), none] [.inl v7] S M6 Q
          refine e_st (L' := [some (.inr (.inr 5)), some (.inl p1), some (.inl p2), some (.inl v7)]) hP rfl rfl ?_
          refine e_ld hP rfl rfl ?_
          refine e_zne hP rfl (fun hc => ?_) (fun hc => ?_)
          · have h := h.1 hc
            refine e_ld hP rfl rfl ?_
            refine e_gR (a := 8) (w := 145) 4 (sh_4 hS) hP rfl (by decide) rfl ?_
            refine e_ld hP rfl rfl ?_
            refine e_ld hP rfl rfl ?_
            refine e_call hP rfl rfl rfl (Nat.le_of_ble_eq_true rfl) (Nat.le_of_ble_eq_true rfl) (rcv0 (sh_144 hS) (by decide)) ?_
            refine Ca.mono h (fun r hr => ?_)
            obtain ⟨M8, v9, rfl, h⟩ := hr
            show En 113 35 [some (.inr (.inr 5)), some (.inl p1), some (.inl p2), some (.inl v7)] [.inl v9] S M8 Q
            refine e_c hP rfl ?_
            obtain ⟨hs10, h⟩ := h
            refine e_add hP rfl hs10 ?_
            exact e_ret hP rfl rfl h
          · have h := h.2 hc
            refine e_ld hP rfl rfl ?_
            refine e_go hP rfl ?_
            exact e_ret hP rfl rfl h
        · have h := h.2 hc
          refine e_c hP rfl ?_
          exact e_ret hP rfl rfl h
      · have h := h.2 hc
        refine e_c hP rfl ?_
        exact e_ret hP rfl rfl h
theorem r_X8_run_0 {S : Shp} {M : Mem} {Q : Res → Prop} (hS : KC S) {p1 : Int} (h : ((p1 = (-1 : Int) → ((p1 = (-1 : Int) → Ca 136 [.inr (.inr 5)] S M (fun r => ∃ M1 : Mem, r = (S, M1, some (.inr (.inr 145))) ∧ En 114 24 [some (.inr (.inr 5)), some (.inl p1), some (.inl (0 : Int))] [] S M1 Q)) ∧ (p1 ≠ (-1 : Int) → Ca 74 [.inr (.inr 9), .inl p1] S M (fun r => ∃ (M2 : Mem) (v3 : Int), r = (S, M2, some (.inl v3)) ∧ ((v3 = 0 → Ca 136 [.inr (.inr 5)] S M2 (fun r => ∃ M4 : Mem, r = (S, M4, some (.inr (.inr 145))) ∧ En 114 24 [some (.inr (.inr 5)), some (.inl p1), some (.inl (0 : Int))] [] S M4 Q)) ∧ (v3 ≠ 0 → Q (S, M2, some (.inl (-4 : Int))))))))) ∧ (p1 ≠ (-1 : Int) → Ca 132 [.inr (.inr 5), .inl p1] S M (fun r => ∃ (M5 : Mem) (v6 : Int), r = (S, M5, some (.inl v6)) ∧ ((v6 ≠ 0 → ((p1 = (-1 : Int) → Ca 136 [.inr (.inr 5)] S M5 (fun r => ∃ M7 : Mem, r = (S, M7, some (.inr (.inr 145))) ∧ En 114 24 [some (.inr (.inr 5)), some (.inl p1), some (.inl (0 : Int))] [] S M7 Q)) ∧ (p1 ≠ (-1 : Int) → Ca 74 [.inr (.inr 9), .inl p1] S M5 (fun r => ∃ (M8 : Mem) (v9 : Int), r = (S, M8, some (.inl v9)) ∧ ((v9 = 0 → Ca 136 [.inr (.inr 5)] S M8 (fun r => ∃ M10 : Mem, r = (S, M10, some (.inr (.inr 145))) ∧ En 114 24 [some (.inr (.inr 5)), some (.inl p1), some (.inl (0 : Int))] [] S M10 Q)) ∧ (v9 ≠ 0 → Q (S, M8, some (.inl (-4 : Int))))))))) ∧ (v6 = 0 → Q (S, M5, some (.inl (-1 : Int))))))))) : Ca 114 [.inr (.inr 5), .inl p1] S M Q := by
  have hP : PR 114 = (bc_114, 3) := rfl
  refine ⟨Nat.le_of_ble_eq_true rfl, ?_⟩
  show En 114 0 [some (.inr (.inr 5)), some (.inl p1), none] [] S M Q
  refine e_ld hP rfl rfl ?_
  refine e_c hP rfl ?_
  refine e_ceq hP rfl (fun hc => ?_) (fun hc => ?_)
  · have h := h.1 hc
    refine e_ld hP rfl rfl ?_
    refine e_c hP rfl ?_
    refine e_ceq hP rfl (fun hc => ?_) (fun hc => ?_)
    · have h := h.1 hc
      refine e_ld hP rfl rfl ?_
      refine e_call hP rfl rfl rfl (Nat.le_of_ble_eq_true rfl) (Nat.le_of_ble_eq_true rfl) (rcv0 (sh_4 hS) (by decide)) ?_
      refine Ca.mono h (fun r hr => ?_)
      obtain ⟨M1, rfl, h⟩ := hr
      show En 114 21 [some (.inr (.inr 5)), some (.inl p1), none] [.inr (.inr 145)] S M1 Q
      refine e_popR hP rfl ?_
      refine e_c hP rfl ?_
      refine e_st (L' := [some (.inr (.inr 5)), some (.inl p1), some (.inl (0 : Int))]) hP rfl rfl ?_
      exact h
    · have h := h.2 hc
      refine e_ld hP rfl rfl ?_
      refine e_gR (a := 8) (w := 9) 4 (sh_4 hS) hP rfl (by decide) rfl ?_
      refine e_ld hP rfl rfl ?_
      refine e_call hP rfl rfl rfl (Nat.le_of_ble_eq_true rfl) (Nat.le_of_ble_eq_true rfl) (rcv0 (sh_8 hS) (by decide)) ?_
      refine Ca.mono h (fun r hr => ?_)
      obtain ⟨M2, v3, rfl, h⟩ := hr
      show En 114 16 [some (.inr (.inr 5)), some (.inl p1), none] [.inl v3] S M2 Q
      refine e_zeq hP rfl (fun hc => ?_) (fun hc => ?_)
      · have h := h.1 hc
        refine e_ld hP rfl rfl ?_
        refine e_call hP rfl rfl rfl (Nat.le_of_ble_eq_true rfl) (Nat.le_of_ble_eq_true rfl) (rcv0 (sh_4 hS) (by decide)) ?_
        refine Ca.mono h (fun r hr => ?_)
        obtain ⟨M4, rfl, h⟩ := hr
        show En 114 21 [some (.inr (.inr 5)), some (.inl p1), none] [.inr (.inr 145)] S M4 Q
        refine e_popR hP rfl ?_
        refine e_c hP rfl ?_
        refine e_st (L' := [some (.inr (.inr 5)), some (.inl p1), some (.inl (0 : Int))]) hP rfl rfl ?_
        exact h
      · have h := h.2 hc
        refine e_c hP rfl ?_
        exact e_ret hP rfl rfl h
  · have h := h.2 hc
    refine e_ld hP rfl rfl ?_
    refine e_ld hP rfl rfl ?_
    refine e_call hP rfl rfl rfl (Nat.le_of_ble_eq_true rfl) (Nat.le_of_ble_eq_true rfl) (rcv0 (sh_4 hS) (by decide)) ?_
    refine Ca.mono h (fun r hr => ?_)
    obtain ⟨M5, v6, rfl, h⟩ := hr
    show En 114 6 [some (.inr (.inr 5)), some (.inl p1), none] [.inl v6] S M5 Q
    refine e_zne hP rfl (fun hc => ?_) (fun hc => ?_)
    · have h := h.1 hc
      refine e_ld hP rfl rfl ?_
      refine e_c hP rfl ?_
      refine e_ceq hP rfl (fun hc => ?_) (fun hc => ?_)
      · have h := h.1 hc
        refine e_ld hP rfl rfl ?_
        refine e_call hP rfl rfl rfl (Nat.le_of_ble_eq_true rfl) (Nat.le_of_ble_eq_true rfl) (rcv0 (sh_4 hS) (by decide)) ?_
        refine Ca.mono h (fun r hr => ?_)
        obtain ⟨M7, rfl, h⟩ := hr
        show En 114 21 [some (.inr (.inr 5)), some (.inl p1), none] [.inr (.inr 145)] S M7 Q
        refine e_popR hP rfl ?_
        refine e_c hP rfl ?_
        refine e_st (L' := [some (.inr (.inr 5)), some (.inl p1), some (.inl (0 : Int))]) hP rfl rfl ?_
        exact h
      · have h := h.2 hc
        refine e_ld hP rfl rfl ?_
        refine e_gR (a := 8) (w := 9) 4 (sh_4 hS) hP rfl (by decide) rfl ?_
        refine e_ld hP rfl rfl ?_
        refine e_call hP rfl rfl rfl (Nat.le_of_ble_eq_true rfl) (Nat.le_of_ble_eq_true rfl) (rcv0 (sh_8 hS) (by decide)) ?_
        refine Ca.mono h (fun r hr => ?_)
        obtain ⟨M8, v9, rfl, h⟩ := hr
        show En 114 16 [some (.inr (.inr 5)), some (.inl p1), none] [.inl v9] S M8 Q
        refine e_zeq hP rfl (fun hc => ?_) (fun hc => ?_)
        · have h := h.1 hc
          refine e_ld hP rfl rfl ?_
          refine e_call hP rfl rfl rfl (Nat.le_of_ble_eq_true rfl) (Nat.le_of_ble_eq_true rfl) (rcv0 (sh_4 hS) (by decide)) ?_
          refine Ca.mono h (fun r hr => ?_)
          obtain ⟨M10, rfl, h⟩ := hr
          show En 114 21 [some (.inr (.inr 5)), some (.inl p1), none] [.inr (.inr 145)] S M10 Q
          refine e_popR hP rfl ?_
          refine e_c hP rfl ?_
          refine e_st (L' := [some (.inr (.inr 5)), some (.inl p1), some (.inl (0 : Int))]) hP rfl rfl ?_
          exact h
        · have h := h.2 hc
          refine e_c hP rfl ?_
          exact e_ret hP rfl rfl h
    · have h := h.2 hc
      refine e_c hP rfl ?_
      exact e_ret hP rfl rfl h
theorem r_X8_run_24 {S : Shp} {M : Mem} {Q : Res → Prop} (hS : KC S) {x1 x2 : Int} (h : (((20 : Int) ≤ x2 → ((x1 = (-1 : Int) → ((x2 ≠ (20 : Int) → Q (S, M, some (.inl x2))) ∧ (x2 = (20 : Int) → Ca 24 [.inr (.inr 145)] S M (fun r => ∃ (M1 : Mem) (v2 : Int), r = (S, M1, some (.inl v2)) ∧ ((v2 = 0 → Q (S, M1, some (.inl x2))) ∧ (v2 ≠ 0 → Q (S, M1, some (.inl (-4 : Int))))))))) ∧ (x1 ≠ (-1 : Int) → Ca 76 [.inr (.inr 147), .inl x1] S M (fun r => ∃ (M3 : Mem) (v4 : Int), r = (S, M3, some (.inl v4)) ∧ Q (S, M3, some (.inl v4)))))) ∧ (x2 < (20 : Int) → Ca 24 [.inr (.inr 145)] S M (fun r => ∃ (M5 : Mem) (v6 : Int), r = (S, M5, some (.inl v6)) ∧ ((v6 = 0 → ((x1 = (-1 : Int) → ((x2 ≠ (20 : Int) → Q (S, M5, some (.inl x2))) ∧ (x2 = (20 : Int) → Ca 24 [.inr (.inr 145)] S M5 (fun r => ∃ (M7 : Mem) (v8 : Int), r = (S, M7, some (.inl v8)) ∧ ((v8 = 0 → Q (S, M7, some (.inl x2))) ∧ (v8 ≠ 0 → Q (S, M7, some (.inl (-4 : Int))))))))) ∧ (x1 ≠ (-1 : Int) → Ca 76 [.inr (.inr 147), .inl x1] S M5 (fun r => ∃ (M9 : Mem) (v10 : Int), r = (S, M9, some (.inl v10)) ∧ Q (S, M9, some (.inl v10)))))) ∧ (v6 ≠ 0 → (inR (x2 + 1)) ∧ En 114 24 [some (.inr (.inr 5)), some (.inl x1), some (.inl (x2 + 1))] [] S M5 Q)))))) : En 114 24 [some (.inr (.inr 5)), some (.inl x1), some (.inl x2)] [] S M Q := by
  have hP : PR 114 = (bc_114, 3) := rfl
  refine e_ld hP rfl rfl ?_
  refine e_c hP rfl ?_
  refine e_cge hP rfl (fun hc => ?_) (fun hc => ?_)
  · have h := h.1 hc
    refine e_ld hP rfl rfl ?_
    refine e_c hP rfl ?_
    refine e_ceq hP rfl (fun hc => ?_) (fun hc => ?_)
    · have h := h.1 hc
      refine e_ld hP rfl rfl ?_
      refine e_c hP rfl ?_
      refine e_cne hP rfl (fun hc => ?_) (fun hc => ?_)
      · have h := h.1 hc
        refine e_ld hP rfl rfl ?_
        exact e_ret hP rfl rfl h
      · have h := h.2 hc
        refine e_ld hP rfl rfl ?_
        refine e_gR (a := 8) (w := 145) 4 (sh_4 hS) hP rfl (by decide) rfl ?_
        refine e_call hP rfl rfl rfl (Nat.le_of_ble_eq_true rfl) (Nat.le_of_ble_eq_true rfl) (rcv0 (sh_144 hS) (by decide)) ?_
        refine Ca.mono h (fun r hr => ?_)
        obtain ⟨M1, v2, rfl, h⟩ := hr
        show En 114 48 [some (.inr (.inr 5)), some (.inl x1), some (.inl x2)] [.inl v2] S M1 Q
        refine e_zeq hP rfl (fun hc => ?_) (fun hc => ?_)
        · have h := h.1 hc
          refine e_ld hP rfl rfl ?_
          exact e_ret hP rfl rfl h
        · have h := h.2 hc
          refine e_c hP rfl ?_
          refine e_go hP rfl ?_
          exact e_ret hP rfl rfl h
    · have h := h.2 hc
      refine e_ld hP rfl rfl ?_
      refine e_gR (a := 8) (w := 145) 4 (sh_4 hS) hP rfl (by decide) rfl ?_
      refine e_gR (a := 2) (w := 147) 144 (sh_144 hS) hP rfl (by decide) rfl ?_
      refine e_ld hP rfl rfl ?_
      refine e_call hP rfl rfl rfl (Nat.le_of_ble_eq_true rfl) (Nat.le_of_ble_eq_true rfl) (rcv0 (sh_146 hS) (by decide)) ?_
      refine Ca.mono h (fun r hr => ?_)
      obtain ⟨M3, v4, rfl, h⟩ := hr
      show En 114 41 [some (.inr (.inr 5)), some (.inl x1), some (.inl x2)] [.inl v4] S M3 Q
      exact e_ret hP rfl rfl h
  · have h := h.2 hc
    refine e_ld hP rfl rfl ?_
    refine e_gR (a := 8) (w := 145) 4 (sh_4 hS) hP rfl (by decide) rfl ?_
    refine e_call hP rfl rfl rfl (Nat.le_of_ble_eq_true rfl) (Nat.le_of_ble_eq_true rfl) (rcv0 (sh_144 hS) (by decide)) ?_
    refine Ca.mono h (fun r hr => ?_)
    obtain ⟨M5, v6, rfl, h⟩ := hr
    show En 114 30 [some (.inr (.inr 5)), some (.inl x1), some (.inl x2)] [.inl v6] S M5 Q
    refine e_zeq hP rfl (fun hc => ?_) (fun hc => ?_)
    · have h := h.1 hc
      refine e_ld hP rfl rfl ?_
      refine e_c hP rfl ?_
      refine e_ceq hP rfl (fun hc => ?_) (fun hc => ?_)
      · have h := h.1 hc
        refine e_ld hP rfl rfl ?_
        refine e_c hP rfl ?_
        refine e_cne hP rfl (fun hc => ?_) (fun hc => ?_)
        · have h := h.1 hc
          refine e_ld hP rfl rfl ?_
          exact e_ret hP rfl rfl h
        · have h := h.2 hc
          refine e_ld hP rfl rfl ?_
          refine e_gR (a := 8) (w := 145) 4 (sh_4 hS) hP rfl (by decide) rfl ?_
          refine e_call hP rfl rfl rfl (Nat.le_of_ble_eq_true rfl) (Nat.le_of_ble_eq_true rfl) (rcv0 (sh_144 hS) (by decide)) ?_
          refine Ca.mono h (fun r hr => ?_)
          obtain ⟨M7, v8, rfl, h⟩ := hr
          show En 114 48 [some (.inr (.inr 5)), some (.inl x1), some (.inl x2)] [.inl v8] S M7 Q
          refine e_zeq hP rfl (fun hc => ?_) (fun hc => ?_)
          · have h := h.1 hc
            refine e_ld hP rfl rfl ?_
            exact e_ret hP rfl rfl h
          · have h := h.2 hc
            refine e_c hP rfl ?_
            refine e_go hP rfl ?_
            exact e_ret hP rfl rfl h
      · have h := h.2 hc
        refine e_ld hP rfl rfl ?_
        refine e_gR (a := 8) (w := 145) 4 (sh_4 hS) hP rfl (by decide) rfl ?_
        refine e_gR (a := 2) (w := 147) 144 (sh_144 hS) hP rfl (by decide) rfl ?_
        refine e_ld hP rfl rfl ?_
        refine e_call hP rfl rfl rfl (Nat.le_of_ble_eq_true rfl) (Nat.le_of_ble_eq_true rfl) (rcv0 (sh_146 hS) (by decide)) ?_
        refine Ca.mono h (fun r hr => ?_)
        obtain ⟨M9, v10, rfl, h⟩ := hr
        show En 114 41 [some (.inr (.inr 5)), some (.inl x1), some (.inl x2)] [.inl v10] S M9 Q
        exact e_ret hP rfl rfl h
    · have h := h.2 hc
      obtain ⟨hs11, h⟩ := h
      refine e_inc (L' := [some (.inr (.inr 5)), some (.inl x1), some (.inl (x2 + 1))]) hP rfl rfl hs11 rfl ?_
      refine e_go hP rfl ?_
      exact h
theorem r_X8_shortest_0 {S : Shp} {M : Mem} {Q : Res → Prop} (hS : KC S) {p1 p2 p3 p4 p5 : Int} (h : Ca 132 [.inr (.inr 5), .inl p1] S M (fun r => ∃ (M1 : Mem) (v2 : Int), r = (S, M1, some (.inl v2)) ∧ ((v2 = 0 → Q (S, M1, some (.inl (-1 : Int)))) ∧ (v2 ≠ 0 → Ca 132 [.inr (.inr 5), .inl p3] S M1 (fun r => ∃ (M3 : Mem) (v4 : Int), r = (S, M3, some (.inl v4)) ∧ ((v4 = 0 → Q (S, M3, some (.inl (-1 : Int)))) ∧ (v4 ≠ 0 → Ca 132 [.inr (.inr 5), .inl p4] S M3 (fun r => ∃ (M5 : Mem) (v6 : Int), r = (S, M5, some (.inl v6)) ∧ ((v6 ≠ 0 → ((p2 < 0 → Q (S, M5, some (.inl (-1 : Int)))) ∧ (0 ≤ p2 → (((7 : Int) < p2 → Q (S, M5, some (.inl (-1 : Int)))) ∧ (p2 ≤ (7 : Int) → ((p5 < 0 → Q (S, M5, some (.inl (-1 : Int)))) ∧ (0 ≤ p5 → ((p5 ≤ (3 : Int) → ((p5 ≤ (1 : Int) → Ca 138 [.inr (.inr 5), .inl p1, .inl p2, .inl p3, .inl p4] S M5 (fun r => ∃ (M7 : Mem) (v8 : Int), r = (S, M7, some (.inl v8)) ∧ ((v8 ≠ (-4 : Int) → ((p5 ≠ 0 → Q (S, M7, some (.inl v8))) ∧ (p5 = 0 → Q (S, M7, some (.inl (1 : Int)))))) ∧ (v8 = (-4 : Int) → Q (S, M7, some (.inl (-4 : Int))))))) ∧ ((1 : Int) < p5 → (((-4 : Int) ≠ (-4 : Int) → ((p5 ≠ 0 → Q (S, M5, some (.inl (-4 : Int)))) ∧ (p5 = 0 → Q (S, M5, some (.inl (1 : Int)))))) ∧ ((-4 : Int) = (-4 : Int) → Q (S, M5, some (.inl (-4 : Int)))))))) ∧ ((3 : Int) < p5 → Q (S, M5, some (.inl (-1 : Int)))))))))))) ∧ (v6 = 0 → Q (S, M5, some (.inl (-1 : Int))))))))))))) : Ca 115 [.inr (.inr 5), .inl p1, .inl p2, .inl p3, .inl p4, .inl p5] S M Q := by
  have hP : PR 115 = (bc_115, 7) := rfl
  refine ⟨Nat.le_of_ble_eq_true rfl, ?_⟩
  show En 115 0 [some (.inr (.inr 5)), some (.inl p1), some (.inl p2), some (.inl p3), some (.inl p4), some (.inl p5), none] [] S M Q
  refine e_ld hP rfl rfl ?_
  refine e_ld hP rfl rfl ?_
  refine e_call hP rfl rfl rfl (Nat.le_of_ble_eq_true rfl) (Nat.le_of_ble_eq_true rfl) (rcv0 (sh_4 hS) (by decide)) ?_
  refine Ca.mono h (fun r hr => ?_)
  obtain ⟨M1, v2, rfl, h⟩ := hr
  show En 115 3 [some (.inr (.inr 5)), some (.inl p1), some (.inl p2), some (.inl p3), some (.inl p4), some (.inl p5), none] [.inl v2] S M1 Q
  refine e_zeq hP rfl (fun hc => ?_) (fun hc => ?_)
  · have h := h.1 hc
    refine e_c hP rfl ?_
    exact e_ret hP rfl rfl h
  · have h := h.2 hc
    refine e_ld hP rfl rfl ?_
    refine e_ld hP rfl rfl ?_
    refine e_call hP rfl rfl rfl (Nat.le_of_ble_eq_true rfl) (Nat.le_of_ble_eq_true rfl) (rcv0 (sh_4 hS) (by decide)) ?_
    refine Ca.mono h (fun r hr => ?_)
    obtain ⟨M3, v4, rfl, h⟩ := hr
    show En 115 7 [some (.inr (.inr 5)), some (.inl p1), some (.inl p2), some (.inl p3), some (.inl p4), some (.inl p5), none] [.inl v4] S M3 Q
    refine e_zeq hP rfl (fun hc => ?_) (fun hc => ?_)
    · have h := h.1 hc
      refine e_c hP rfl ?_
      exact e_ret hP rfl rfl h
    · have h := h.2 hc
      refine e_ld hP rfl rfl ?_
      refine e_ld hP rfl rfl ?_
      refine e_call hP rfl rfl rfl (Nat.le_of_ble_eq_true rfl) (Nat.le_of_ble_eq_true rfl) (rcv0 (sh_4 hS) (by decide)) ?_
      refine Ca.mono h (fun r hr => ?_)
      obtain ⟨M5, v6, rfl, h⟩ := hr
      show En 115 11 [some (.inr (.inr 5)), some (.inl p1), some (.inl p2), some (.inl p3), some (.inl p4), some (.inl p5), none] [.inl v6] S M5 Q
      refine e_zne hP rfl (fun hc => ?_) (fun hc => ?_)
      · have h := h.1 hc
        refine e_ld hP rfl rfl ?_
        refine e_zlt hP rfl (fun hc => ?_) (fun hc => ?_)
        · have h := h.1 hc
          refine e_c hP rfl ?_
          exact e_ret hP rfl rfl h
        · have h := h.2 hc
          refine e_ld hP rfl rfl ?_
          refine e_c hP rfl ?_
          refine e_cgt hP rfl (fun hc => ?_) (fun hc => ?_)
          · have h := h.1 hc
            refine e_c hP rfl ?_
            exact e_ret hP rfl rfl h
          · have h := h.2 hc
            refine e_ld hP rfl rfl ?_
            refine e_zlt hP rfl (fun hc => ?_) (fun hc => ?_)
            · have h := h.1 hc
              refine e_c hP rfl ?_
              exact e_ret hP rfl rfl h
            · have h := h.2 hc
              refine e_ld hP rfl rfl ?_
              refine e_c hP rfl ?_
              refine e_cle hP rfl (fun hc => ?_) (fun hc => ?_)
              · have h := h.1 hc
                refine e_ld hP rfl rfl ?_
                refine e_c hP rfl ?_
                refine e_cle hP rfl (fun hc => ?_) (fun hc => ?_)
                · have h := h.1 hc
                  refine e_ld hP rfl rfl ?_
                  refine e_ld hP rfl rfl ?_
                  refine e_ld hP rfl rfl ?_
                  refine e_ld hP rfl rfl ?_
                  refine e_ld hP rfl rfl ?_
                  refine e_call hP rfl rfl rfl (Nat.le_of_ble_eq_true rfl) (Nat.le_of_ble_eq_true rfl) (rcv0 (sh_4 hS) (by decide)) ?_
                  refine Ca.mono h (fun r hr => ?_)
                  obtain ⟨M7, v8, rfl, h⟩ := hr
                  show En 115 37 [some (.inr (.inr 5)), some (.inl p1), some (.inl p2), some (.inl p3), some (.inl p4), some (.inl p5), none] [.inl v8] S M7 Q
                  refine e_st (L' := [some (.inr (.inr 5)), some (.inl p1), some (.inl p2), some (.inl p3), some (.inl p4), some (.inl p5), some (.inl v8)]) hP rfl rfl ?_
                  refine e_ld hP rfl rfl ?_
                  refine e_c hP rfl ?_
                  refine e_cne hP rfl (fun hc => ?_) (fun hc => ?_)
                  · have h := h.1 hc
                    refine e_ld hP rfl rfl ?_
                    refine e_zne hP rfl (fun hc => ?_) (fun hc => ?_)
                    · have h := h.1 hc
                      refine e_ld hP rfl rfl ?_
                      exact e_ret hP rfl rfl h
                    · have h := h.2 hc
                      refine e_c hP rfl ?_
                      refine e_go hP rfl ?_
                      exact e_ret hP rfl rfl h
                  · have h := h.2 hc
                    refine e_c hP rfl ?_
                    exact e_ret hP rfl rfl h
                · have h := h.2 hc
                  refine e_c hP rfl ?_
                  refine e_go hP rfl ?_
                  refine e_st (L' := [some (.inr (.inr 5)), some (.inl p1), some (.inl p2), some (.inl p3), some (.inl p4), some (.inl p5), some (.inl (-4 : Int))]) hP rfl rfl ?_
                  refine e_ld hP rfl rfl ?_
                  refine e_c hP rfl ?_
                  refine e_cne hP rfl (fun hc => ?_) (fun hc => ?_)
                  · have h := h.1 hc
                    refine e_ld hP rfl rfl ?_
                    refine e_zne hP rfl (fun hc => ?_) (fun hc => ?_)
                    · have h := h.1 hc
                      refine e_ld hP rfl rfl ?_
                      exact e_ret hP rfl rfl h
                    · have h := h.2 hc
                      refine e_c hP rfl ?_
                      refine e_go hP rfl ?_
                      exact e_ret hP rfl rfl h
                  · have h := h.2 hc
                    refine e_c hP rfl ?_
                    exact e_ret hP rfl rfl h
              · have h := h.2 hc
                refine e_c hP rfl ?_
                exact e_ret hP rfl rfl h
      · have h := h.2 hc
        refine e_c hP rfl ?_
        exact e_ret hP rfl rfl h
theorem r_X8_match_0 {S : Shp} {M : Mem} {Q : Res → Prop} (hS : KC S) {p1 : Int} (h : ((p1 = (-1 : Int) → Ca 26 [.inr (.inr 158), .inr (.inr 9), .inl (M 8 2)] S M (fun r => ∃ (M1 : Mem) (v2 : Int), r = (S, M1, some (.inl v2)) ∧ ((p1 ≠ (-1 : Int) → Ca 29 [.inr (.inr 158), .inl p1, .inl (M1 8 0)] S M1 (fun r => ∃ (M3 : Mem) (v4 : Int), r = (S, M3, some (.inl v4)) ∧ Q (S, M3, some (.inl v4)))) ∧ (p1 = (-1 : Int) → Q (S, M1, some (.inl v2)))))) ∧ (p1 ≠ (-1 : Int) → Ca 132 [.inr (.inr 5), .inl p1] S M (fun r => ∃ (M5 : Mem) (v6 : Int), r = (S, M5, some (.inl v6)) ∧ ((v6 ≠ 0 → Ca 26 [.inr (.inr 158), .inr (.inr 9), .inl (M5 8 2)] S M5 (fun r => ∃ (M7 : Mem) (v8 : Int), r = (S, M7, some (.inl v8)) ∧ ((p1 ≠ (-1 : Int) → Ca 29 [.inr (.inr 158), .inl p1, .inl (M7 8 0)] S M7 (fun r => ∃ (M9 : Mem) (v10 : Int), r = (S, M9, some (.inl v10)) ∧ Q (S, M9, some (.inl v10)))) ∧ (p1 = (-1 : Int) → Q (S, M7, some (.inl v8)))))) ∧ (v6 = 0 → Q (S, M5, some (.inl (-1 : Int))))))))) : Ca 116 [.inr (.inr 5), .inl p1] S M Q := by
  have hP : PR 116 = (bc_116, 3) := rfl
  refine ⟨Nat.le_of_ble_eq_true rfl, ?_⟩
  show En 116 0 [some (.inr (.inr 5)), some (.inl p1), none] [] S M Q
  refine e_ld hP rfl rfl ?_
  refine e_c hP rfl ?_
  refine e_ceq hP rfl (fun hc => ?_) (fun hc => ?_)
  · have h := h.1 hc
    refine e_ld hP rfl rfl ?_
    refine e_gR (a := 8) (w := 158) 4 (sh_4 hS) hP rfl (by decide) rfl ?_
    refine e_ld hP rfl rfl ?_
    refine e_gR (a := 8) (w := 9) 4 (sh_4 hS) hP rfl (by decide) rfl ?_
    refine e_ld hP rfl rfl ?_
    refine e_gR (a := 8) (w := 9) 4 (sh_4 hS) hP rfl (by decide) rfl ?_
    refine e_gI (a := 7) 8 (sh_8 hS) hP rfl (by decide) ?_
    refine e_call hP rfl rfl rfl (Nat.le_of_ble_eq_true rfl) (Nat.le_of_ble_eq_true rfl) (rcv0 (sh_157 hS) (by decide)) ?_
    refine Ca.mono h (fun r hr => ?_)
    obtain ⟨M1, v2, rfl, h⟩ := hr
    show En 116 17 [some (.inr (.inr 5)), some (.inl p1), none] [.inl v2] S M1 Q
    refine e_st (L' := [some (.inr (.inr 5)), some (.inl p1), some (.inl v2)]) hP rfl rfl ?_
    refine e_ld hP rfl rfl ?_
    refine e_c hP rfl ?_
    refine e_cne hP rfl (fun hc => ?_) (fun hc => ?_)
    · have h := h.1 hc
      refine e_ld hP rfl rfl ?_
      refine e_gR (a := 8) (w := 158) 4 (sh_4 hS) hP rfl (by decide) rfl ?_
      refine e_ld hP rfl rfl ?_
      refine e_ld hP rfl rfl ?_
      refine e_gR (a := 8) (w := 9) 4 (sh_4 hS) hP rfl (by decide) rfl ?_
      refine e_gI (a := 7) 8 (sh_8 hS) hP rfl (by decide) ?_
      refine e_call hP rfl rfl rfl (Nat.le_of_ble_eq_true rfl) (Nat.le_of_ble_eq_true rfl) (rcv0 (sh_157 hS) (by decide)) ?_
      refine Ca.mono h (fun r hr => ?_)
      obtain ⟨M3, v4, rfl, h⟩ := hr
      show En 116 30 [some (.inr (.inr 5)), some (.inl p1), some (.inl v2)] [.inl v4] S M3 Q
      exact e_ret hP rfl rfl h
    · have h := h.2 hc
      refine e_ld hP rfl rfl ?_
      refine e_go hP rfl ?_
      exact e_ret hP rfl rfl h
  · have h := h.2 hc
    refine e_ld hP rfl rfl ?_
    refine e_ld hP rfl rfl ?_
    refine e_call hP rfl rfl rfl (Nat.le_of_ble_eq_true rfl) (Nat.le_of_ble_eq_true rfl) (rcv0 (sh_4 hS) (by decide)) ?_
    refine Ca.mono h (fun r hr => ?_)
    obtain ⟨M5, v6, rfl, h⟩ := hr
    show En 116 6 [some (.inr (.inr 5)), some (.inl p1), none] [.inl v6] S M5 Q
    refine e_zne hP rfl (fun hc => ?_) (fun hc => ?_)
    · have h := h.1 hc
      refine e_ld hP rfl rfl ?_
      refine e_gR (a := 8) (w := 158) 4 (sh_4 hS) hP rfl (by decide) rfl ?_
      refine e_ld hP rfl rfl ?_
      refine e_gR (a := 8) (w := 9) 4 (sh_4 hS) hP rfl (by decide) rfl ?_
      refine e_ld hP rfl rfl ?_
      refine e_gR (a := 8) (w := 9) 4 (sh_4 hS) hP rfl (by decide) rfl ?_
      refine e_gI (a := 7) 8 (sh_8 hS) hP rfl (by decide) ?_
      refine e_call hP rfl rfl rfl (Nat.le_of_ble_eq_true rfl) (Nat.le_of_ble_eq_true rfl) (rcv0 (sh_157 hS) (by decide)) ?_
      refine Ca.mono h (fun r hr => ?_)
      obtain ⟨M7, v8, rfl, h⟩ := hr
      show En 116 17 [some (.inr (.inr 5)), some (.inl p1), none] [.inl v8] S M7 Q
      refine e_st (L' := [some (.inr (.inr 5)), some (.inl p1), some (.inl v8)]) hP rfl rfl ?_
      refine e_ld hP rfl rfl ?_
      refine e_c hP rfl ?_
      refine e_cne hP rfl (fun hc => ?_) (fun hc => ?_)
      · have h := h.1 hc
        refine e_ld hP rfl rfl ?_
        refine e_gR (a := 8) (w := 158) 4 (sh_4 hS) hP rfl (by decide) rfl ?_
        refine e_ld hP rfl rfl ?_
        refine e_ld hP rfl rfl ?_
        refine e_gR (a := 8) (w := 9) 4 (sh_4 hS) hP rfl (by decide) rfl ?_
        refine e_gI (a := 7) 8 (sh_8 hS) hP rfl (by decide) ?_
        refine e_call hP rfl rfl rfl (Nat.le_of_ble_eq_true rfl) (Nat.le_of_ble_eq_true rfl) (rcv0 (sh_157 hS) (by decide)) ?_
        refine Ca.mono h (fun r hr => ?_)
        obtain ⟨M9, v10, rfl, h⟩ := hr
        show En 116 30 [some (.inr (.inr 5)), some (.inl p1), some (.inl v8)] [.inl v10] S M9 Q
        exact e_ret hP rfl rfl h
      · have h := h.2 hc
        refine e_ld hP rfl rfl ?_
        refine e_go hP rfl ?_
        exact e_ret hP rfl rfl h
    · have h := h.2 hc
      refine e_c hP rfl ?_
      exact e_ret hP rfl rfl h
theorem r_X8_wide_0 {S : Shp} {M : Mem} {Q : Res → Prop} (hS : KC S) {p1 : Int} (h : ((p1 < (1 : Int) → Q (S, M, some (.inl (-1 : Int)))) ∧ ((1 : Int) ≤ p1 → ((p1 ≤ (4 : Int) → Ca 26 [.inr (.inr 158), .inr (.inr 9), .inl (25 : Int)] S M (fun r => ∃ (M1 : Mem) (v2 : Int), r = (S, M1, some (.inl v2)) ∧ ((p1 ≤ v2 → En 117 24 [some (.inr (.inr 5)), some (.inl p1), some (.inl (0 : Int)), some (.inl (25 : Int)), some (.inl (0 : Int)), none] [] S M1 Q) ∧ (v2 < p1 → Q (S, M1, some (.inl (-4 : Int))))))) ∧ ((4 : Int) < p1 → Q (S, M, some (.inl (-1 : Int)))))))) : Ca 117 [.inr (.inr 5), .inl p1] S M Q := by
  have hP : PR 117 = (bc_117, 6) := rfl
  refine ⟨Nat.le_of_ble_eq_true rfl, ?_⟩
  show En 117 0 [some (.inr (.inr 5)), some (.inl p1), none, none, none, none] [] S M Q
  refine e_ld hP rfl rfl ?_
  refine e_c hP rfl ?_
  refine e_clt hP rfl (fun hc => ?_) (fun hc => ?_)
  · have h := h.1 hc
    refine e_c hP rfl ?_
    exact e_ret hP rfl rfl h
  · have h := h.2 hc
    refine e_ld hP rfl rfl ?_
    refine e_c hP rfl ?_
    refine e_cle hP rfl (fun hc => ?_) (fun hc => ?_)
    · have h := h.1 hc
      refine e_ld hP rfl rfl ?_
      refine e_gR (a := 8) (w := 158) 4 (sh_4 hS) hP rfl (by decide) rfl ?_
      refine e_ld hP rfl rfl ?_
      refine e_gR (a := 8) (w := 9) 4 (sh_4 hS) hP rfl (by decide) rfl ?_
      refine e_c hP rfl ?_
      refine e_call hP rfl rfl rfl (Nat.le_of_ble_eq_true rfl) (Nat.le_of_ble_eq_true rfl) (rcv0 (sh_157 hS) (by decide)) ?_
      refine Ca.mono h (fun r hr => ?_)
      obtain ⟨M1, v2, rfl, h⟩ := hr
      show En 117 14 [some (.inr (.inr 5)), some (.inl p1), none, none, none, none] [.inl v2] S M1 Q
      refine e_ld hP rfl rfl ?_
      refine e_cge hP rfl (fun hc => ?_) (fun hc => ?_)
      · have h := h.1 hc
        refine e_c hP rfl ?_
        refine e_st (L' := [some (.inr (.inr 5)), some (.inl p1), some (.inl (0 : Int)), none, none, none]) hP rfl rfl ?_
        refine e_c hP rfl ?_
        refine e_st (L' := [some (.inr (.inr 5)), some (.inl p1), some (.inl (0 : Int)), some (.inl (25 : Int)), none, none]) hP rfl rfl ?_
        refine e_c hP rfl ?_
        refine e_st (L' := [some (.inr (.inr 5)), some (.inl p1), some (.inl (0 : Int)), some (.inl (25 : Int)), some (.inl (0 : Int)), none]) hP rfl rfl ?_
        exact h
      · have h := h.2 hc
        refine e_c hP rfl ?_
        exact e_ret hP rfl rfl h
    · have h := h.2 hc
      refine e_c hP rfl ?_
      exact e_ret hP rfl rfl h
theorem r_X8_wide_24 {S : Shp} {M : Mem} {Q : Res → Prop} (hS : KC S) {x1 x2 x3 x4 : Int} (h : (((26 : Int) ≤ x4 → Q (S, M, some (.inl x3))) ∧ (x4 < (26 : Int) → ((x3 ≤ x2 → Q (S, M, some (.inl x3))) ∧ (x2 < x3 → (inR (x2 + x3)) ∧ (0 ≤ (x2 + x3) ∧ 0 ≤ (1 : Int) ∧ (1 : Int) < 32) ∧ Ca 26 [.inr (.inr 158), .inr (.inr 9), .inl ((x2 + x3) / 2 ^ (1 : Int).toNat)] S M (fun r => ∃ (M3 : Mem) (v4 : Int), r = (S, M3, some (.inl v4)) ∧ ((v4 < x1 → (inR (((x2 + x3) / 2 ^ (1 : Int).toNat) + (1 : Int))) ∧ (inR (x4 + 1)) ∧ En 117 24 [some (.inr (.inr 5)), some (.inl x1), some (.inl (((x2 + x3) / 2 ^ (1 : Int).toNat) + (1 : Int))), some (.inl x3), some (.inl (x4 + 1)), none] [] S M3 Q) ∧ (x1 ≤ v4 → (inR (x4 + 1)) ∧ En 117 24 [some (.inr (.inr 5)), some (.inl x1), some (.inl x2), some (.inl ((x2 + x3) / 2 ^ (1 : Int).toNat)), some (.inl (x4 + 1)), none] [] S M3 Q)))))))) : En 117 24 [some (.inr (.inr 5)), some (.inl x1), some (.inl x2), some (.inl x3), some (.inl x4), none] [] S M Q := by
  have hP : PR 117 = (bc_117, 6) := rfl
  refine e_ld hP rfl rfl ?_
  refine e_c hP rfl ?_
  refine e_cge hP rfl (fun hc => ?_) (fun hc => ?_)
  · have h := h.1 hc
    refine e_ld hP rfl rfl ?_
    exact e_ret hP rfl rfl h
  · have h := h.2 hc
    refine e_ld hP rfl rfl ?_
    refine e_ld hP rfl rfl ?_
    refine e_cge hP rfl (fun hc => ?_) (fun hc => ?_)
    · have h := h.1 hc
      refine e_ld hP rfl rfl ?_
      exact e_ret hP rfl rfl h
    · have h := h.2 hc
      refine e_ld hP rfl rfl ?_
      refine e_ld hP rfl rfl ?_
      obtain ⟨hs1, h⟩ := h
      refine e_add hP rfl hs1 ?_
      refine e_c hP rfl ?_
      obtain ⟨hs2, h⟩ := h
      refine e_shr hP rfl hs2 ?_
      refine e_st (L' := [some (.inr (.inr 5)), some (.inl x1), some (.inl x2), some (.inl x3), some (.inl x4), some (.inl ((x2 + x3) / 2 ^ (1 : Int).toNat))]) hP rfl rfl ?_
      refine e_ld hP rfl rfl ?_
      refine e_gR (a := 8) (w := 158) 4 (sh_4 hS) hP rfl (by decide) rfl ?_
      refine e_ld hP rfl rfl ?_
      refine e_gR (a := 8) (w := 9) 4 (sh_4 hS) hP rfl (by decide) rfl ?_
      refine e_ld hP rfl rfl ?_
      refine e_call hP rfl rfl rfl (Nat.le_of_ble_eq_true rfl) (Nat.le_of_ble_eq_true rfl) (rcv0 (sh_157 hS) (by decide)) ?_
      refine Ca.mono h (fun r hr => ?_)
      obtain ⟨M3, v4, rfl, h⟩ := hr
      show En 117 42 [some (.inr (.inr 5)), some (.inl x1), some (.inl x2), some (.inl x3), some (.inl x4), some (.inl ((x2 + x3) / 2 ^ (1 : Int).toNat))] [.inl v4] S M3 Q
      refine e_ld hP rfl rfl ?_
      refine e_clt hP rfl (fun hc => ?_) (fun hc => ?_)
      · have h := h.1 hc
        refine e_ld hP rfl rfl ?_
        refine e_c hP rfl ?_
        obtain ⟨hs5, h⟩ := h
        refine e_add hP rfl hs5 ?_
        refine e_st (L' := [some (.inr (.inr 5)), some (.inl x1), some (.inl (((x2 + x3) / 2 ^ (1 : Int).toNat) + (1 : Int))), some (.inl x3), some (.inl x4), some (.inl ((x2 + x3) / 2 ^ (1 : Int).toNat))]) hP rfl rfl ?_
        obtain ⟨hs6, h⟩ := h
        refine e_inc (L' := [some (.inr (.inr 5)), some (.inl x1), some (.inl (((x2 + x3) / 2 ^ (1 : Int).toNat) + (1 : Int))), some (.inl x3), some (.inl (x4 + 1)), some (.inl ((x2 + x3) / 2 ^ (1 : Int).toNat))]) hP rfl rfl hs6 rfl ?_
        refine e_go hP rfl ?_
        exact en_fg h ⟨Or.inr rfl, Or.inr rfl, Or.inr rfl, Or.inr rfl, Or.inr rfl, Or.inl rfl, trivial⟩
      · have h := h.2 hc
        refine e_ld hP rfl rfl ?_
        refine e_st (L' := [some (.inr (.inr 5)), some (.inl x1), some (.inl x2), some (.inl ((x2 + x3) / 2 ^ (1 : Int).toNat)), some (.inl x4), some (.inl ((x2 + x3) / 2 ^ (1 : Int).toNat))]) hP rfl rfl ?_
        refine e_go hP rfl ?_
        obtain ⟨hs7, h⟩ := h
        refine e_inc (L' := [some (.inr (.inr 5)), some (.inl x1), some (.inl x2), some (.inl ((x2 + x3) / 2 ^ (1 : Int).toNat)), some (.inl (x4 + 1)), some (.inl ((x2 + x3) / 2 ^ (1 : Int).toNat))]) hP rfl rfl hs7 rfl ?_
        refine e_go hP rfl ?_
        exact en_fg h ⟨Or.inr rfl, Or.inr rfl, Or.inr rfl, Or.inr rfl, Or.inr rfl, Or.inl rfl, trivial⟩
theorem r_X8_owed_0 {S : Shp} {M : Mem} {Q : Res → Prop} (hS : KC S) {p1 p2 : Int} (h : Ca 132 [.inr (.inr 5), .inl p1] S M (fun r => ∃ (M1 : Mem) (v2 : Int), r = (S, M1, some (.inl v2)) ∧ ((v2 = 0 → Q (S, M1, some (.inl (-1 : Int)))) ∧ (v2 ≠ 0 → Ca 132 [.inr (.inr 5), .inl p2] S M1 (fun r => ∃ (M3 : Mem) (v4 : Int), r = (S, M3, some (.inl v4)) ∧ ((v4 = 0 → Q (S, M3, some (.inl (-1 : Int)))) ∧ (v4 ≠ 0 → Ca 88 [.inr (.inr 9), .inl p1, .inl p2] S M3 (fun r => ∃ (M5 : Mem) (v6 : Int), r = (S, M5, some (.inl v6)) ∧ Q (S, M5, some (.inl v6)))))))))) : Ca 118 [.inr (.inr 5), .inl p1, .inl p2] S M Q := by
  have hP : PR 118 = (bc_118, 3) := rfl
  refine ⟨Nat.le_of_ble_eq_true rfl, ?_⟩
  show En 118 0 [some (.inr (.inr 5)), some (.inl p1), some (.inl p2)] [] S M Q
  refine e_ld hP rfl rfl ?_
  refine e_ld hP rfl rfl ?_
  refine e_call hP rfl rfl rfl (Nat.le_of_ble_eq_true rfl) (Nat.le_of_ble_eq_true rfl) (rcv0 (sh_4 hS) (by decide)) ?_
  refine Ca.mono h (fun r hr => ?_)
  obtain ⟨M1, v2, rfl, h⟩ := hr
  show En 118 3 [some (.inr (.inr 5)), some (.inl p1), some (.inl p2)] [.inl v2] S M1 Q
  refine e_zeq hP rfl (fun hc => ?_) (fun hc => ?_)
  · have h := h.1 hc
    refine e_c hP rfl ?_
    exact e_ret hP rfl rfl h
  · have h := h.2 hc
    refine e_ld hP rfl rfl ?_
    refine e_ld hP rfl rfl ?_
    refine e_call hP rfl rfl rfl (Nat.le_of_ble_eq_true rfl) (Nat.le_of_ble_eq_true rfl) (rcv0 (sh_4 hS) (by decide)) ?_
    refine Ca.mono h (fun r hr => ?_)
    obtain ⟨M3, v4, rfl, h⟩ := hr
    show En 118 7 [some (.inr (.inr 5)), some (.inl p1), some (.inl p2)] [.inl v4] S M3 Q
    refine e_zeq hP rfl (fun hc => ?_) (fun hc => ?_)
    · have h := h.1 hc
      refine e_c hP rfl ?_
      exact e_ret hP rfl rfl h
    · have h := h.2 hc
      refine e_ld hP rfl rfl ?_
      refine e_gR (a := 8) (w := 9) 4 (sh_4 hS) hP rfl (by decide) rfl ?_
      refine e_ld hP rfl rfl ?_
      refine e_ld hP rfl rfl ?_
      refine e_call hP rfl rfl rfl (Nat.le_of_ble_eq_true rfl) (Nat.le_of_ble_eq_true rfl) (rcv0 (sh_8 hS) (by decide)) ?_
      refine Ca.mono h (fun r hr => ?_)
      obtain ⟨M5, v6, rfl, h⟩ := hr
      show En 118 13 [some (.inr (.inr 5)), some (.inl p1), some (.inl p2)] [.inl v6] S M5 Q
      refine e_go hP rfl ?_
      exact e_ret hP rfl rfl h
theorem r_X8_net_0 {S : Shp} {M : Mem} {Q : Res → Prop} (hS : KC S) {p1 : Int} (h : Ca 132 [.inr (.inr 5), .inl p1] S M (fun r => ∃ (M1 : Mem) (v2 : Int), r = (S, M1, some (.inl v2)) ∧ ((v2 = 0 → Q (S, M1, some (.inl (-1 : Int)))) ∧ (v2 ≠ 0 → Ca 90 [.inr (.inr 9), .inl p1] S M1 (fun r => ∃ (M3 : Mem) (v4 : Int), r = (S, M3, some (.inl v4)) ∧ (inR (v4 + (10000 : Int))) ∧ Q (S, M3, some (.inl (v4 + (10000 : Int))))))))) : Ca 119 [.inr (.inr 5), .inl p1] S M Q := by
  have hP : PR 119 = (bc_119, 2) := rfl
  refine ⟨Nat.le_of_ble_eq_true rfl, ?_⟩
  show En 119 0 [some (.inr (.inr 5)), some (.inl p1)] [] S M Q
  refine e_ld hP rfl rfl ?_
  refine e_ld hP rfl rfl ?_
  refine e_call hP rfl rfl rfl (Nat.le_of_ble_eq_true rfl) (Nat.le_of_ble_eq_true rfl) (rcv0 (sh_4 hS) (by decide)) ?_
  refine Ca.mono h (fun r hr => ?_)
  obtain ⟨M1, v2, rfl, h⟩ := hr
  show En 119 3 [some (.inr (.inr 5)), some (.inl p1)] [.inl v2] S M1 Q
  refine e_zeq hP rfl (fun hc => ?_) (fun hc => ?_)
  · have h := h.1 hc
    refine e_c hP rfl ?_
    exact e_ret hP rfl rfl h
  · have h := h.2 hc
    refine e_ld hP rfl rfl ?_
    refine e_gR (a := 8) (w := 9) 4 (sh_4 hS) hP rfl (by decide) rfl ?_
    refine e_ld hP rfl rfl ?_
    refine e_call hP rfl rfl rfl (Nat.le_of_ble_eq_true rfl) (Nat.le_of_ble_eq_true rfl) (rcv0 (sh_8 hS) (by decide)) ?_
    refine Ca.mono h (fun r hr => ?_)
    obtain ⟨M3, v4, rfl, h⟩ := hr
    show En 119 8 [some (.inr (.inr 5)), some (.inl p1)] [.inl v4] S M3 Q
    refine e_c hP rfl ?_
    obtain ⟨hs5, h⟩ := h
    refine e_add hP rfl hs5 ?_
    refine e_go hP rfl ?_
    exact e_ret hP rfl rfl h
theorem r_X8_chain_0 {S : Shp} {M : Mem} {Q : Res → Prop} (hS : KC S) (h : Ca 1 [.inr (.inr 165), .inr (.inr 9)] S M (fun r => ∃ (M1 : Mem) (v2 : Int), r = (S, M1, some (.inl v2)) ∧ Q (S, M1, some (.inl v2)))) : Ca 120 [.inr (.inr 5)] S M Q := by
  have hP : PR 120 = (bc_120, 1) := rfl
  refine ⟨Nat.le_of_ble_eq_true rfl, ?_⟩
  show En 120 0 [some (.inr (.inr 5))] [] S M Q
  refine e_ld hP rfl rfl ?_
  refine e_gR (a := 8) (w := 165) 4 (sh_4 hS) hP rfl (by decide) rfl ?_
  refine e_ld hP rfl rfl ?_
  refine e_gR (a := 8) (w := 9) 4 (sh_4 hS) hP rfl (by decide) rfl ?_
  refine e_call hP rfl rfl rfl (Nat.le_of_ble_eq_true rfl) (Nat.le_of_ble_eq_true rfl) (rcv0 (sh_164 hS) (by decide)) ?_
  refine Ca.mono h (fun r hr => ?_)
  obtain ⟨M1, v2, rfl, h⟩ := hr
  show En 120 5 [some (.inr (.inr 5))] [.inl v2] S M1 Q
  exact e_ret hP rfl rfl h
theorem r_X8_payments_0 {S : Shp} {M : Mem} {Q : Res → Prop} (hS : KC S) (h : Ca 3 [.inr (.inr 165), .inr (.inr 9)] S M (fun r => ∃ (M1 : Mem) (v2 : Int), r = (S, M1, some (.inl v2)) ∧ Q (S, M1, some (.inl v2)))) : Ca 121 [.inr (.inr 5)] S M Q := by
  have hP : PR 121 = (bc_121, 1) := rfl
  refine ⟨Nat.le_of_ble_eq_true rfl, ?_⟩
  show En 121 0 [some (.inr (.inr 5))] [] S M Q
  refine e_ld hP rfl rfl ?_
  refine e_gR (a := 8) (w := 165) 4 (sh_4 hS) hP rfl (by decide) rfl ?_
  refine e_ld hP rfl rfl ?_
  refine e_gR (a := 8) (w := 9) 4 (sh_4 hS) hP rfl (by decide) rfl ?_
  refine e_call hP rfl rfl rfl (Nat.le_of_ble_eq_true rfl) (Nat.le_of_ble_eq_true rfl) (rcv0 (sh_164 hS) (by decide)) ?_
  refine Ca.mono h (fun r hr => ?_)
  obtain ⟨M1, v2, rfl, h⟩ := hr
  show En 121 5 [some (.inr (.inr 5))] [.inl v2] S M1 Q
  exact e_ret hP rfl rfl h
theorem r_X8_seats_0 {S : Shp} {M : Mem} {Q : Res → Prop} (hS : KC S) {p1 : Int} (h : ((p1 < (-2 : Int) → Q (S, M, some (.inl (-1 : Int)))) ∧ ((-2 : Int) ≤ p1 → ((p1 < (M 8 0) → Ca 54 [.inr (.inr 161), .inr (.inr 9)] S M (fun r => ∃ M1 : Mem, r = (S, M1, none) ∧ ((p1 ≠ (-1 : Int) → ((p1 ≠ (-2 : Int) → Ca 61 [.inr (.inr 161), .inl p1] S M1 (fun r => ∃ (M2 : Mem) (v3 : Int), r = (S, M2, some (.inl v3)) ∧ Q (S, M2, some (.inl v3)))) ∧ (p1 = (-2 : Int) → Ca 60 [.inr (.inr 161)] S M1 (fun r => ∃ (M4 : Mem) (v5 : Int), r = (S, M4, some (.inl v5)) ∧ Q (S, M4, some (.inl v5)))))) ∧ (p1 = (-1 : Int) → Ca 59 [.inr (.inr 161)] S M1 (fun r => ∃ (M6 : Mem) (v7 : Int), r = (S, M6, some (.inl v7)) ∧ Q (S, M6, some (.inl v7))))))) ∧ ((M 8 0) ≤ p1 → Q (S, M, some (.inl (-1 : Int)))))))) : Ca 122 [.inr (.inr 5), .inl p1] S M Q := by
  have hP : PR 122 = (bc_122, 2) := rfl
  refine ⟨Nat.le_of_ble_eq_true rfl, ?_⟩
  show En 122 0 [some (.inr (.inr 5)), some (.inl p1)] [] S M Q
  refine e_ld hP rfl rfl ?_
  refine e_c hP rfl ?_
  refine e_clt hP rfl (fun hc => ?_) (fun hc => ?_)
  · have h := h.1 hc
    refine e_c hP rfl ?_
    exact e_ret hP rfl rfl h
  · have h := h.2 hc
    refine e_ld hP rfl rfl ?_
    refine e_ld hP rfl rfl ?_
    refine e_gR (a := 8) (w := 9) 4 (sh_4 hS) hP rfl (by decide) rfl ?_
    refine e_gI (a := 7) 8 (sh_8 hS) hP rfl (by decide) ?_
    refine e_clt hP rfl (fun hc => ?_) (fun hc => ?_)
    · have h := h.1 hc
      refine e_ld hP rfl rfl ?_
      refine e_gR (a := 8) (w := 161) 4 (sh_4 hS) hP rfl (by decide) rfl ?_
      refine e_ld hP rfl rfl ?_
      refine e_gR (a := 8) (w := 9) 4 (sh_4 hS) hP rfl (by decide) rfl ?_
      refine e_call hP rfl rfl rfl (Nat.le_of_ble_eq_true rfl) (Nat.le_of_ble_eq_true rfl) (rcv0 (sh_160 hS) (by decide)) ?_
      refine Ca.mono h (fun r hr => ?_)
      obtain ⟨M1, rfl, h⟩ := hr
      show En 122 15 [some (.inr (.inr 5)), some (.inl p1)] [] S M1 Q
      refine e_ld hP rfl rfl ?_
      refine e_c hP rfl ?_
      refine e_cne hP rfl (fun hc => ?_) (fun hc => ?_)
      · have h := h.1 hc
        refine e_ld hP rfl rfl ?_
        refine e_c hP rfl ?_
        refine e_cne hP rfl (fun hc => ?_) (fun hc => ?_)
        · have h := h.1 hc
          refine e_ld hP rfl rfl ?_
          refine e_gR (a := 8) (w := 161) 4 (sh_4 hS) hP rfl (by decide) rfl ?_
          refine e_ld hP rfl rfl ?_
          refine e_call hP rfl rfl rfl (Nat.le_of_ble_eq_true rfl) (Nat.le_of_ble_eq_true rfl) (rcv0 (sh_160 hS) (by decide)) ?_
          refine Ca.mono h (fun r hr => ?_)
          obtain ⟨M2, v3, rfl, h⟩ := hr
          show En 122 33 [some (.inr (.inr 5)), some (.inl p1)] [.inl v3] S M2 Q
          exact e_ret hP rfl rfl h
        · have h := h.2 hc
          refine e_ld hP rfl rfl ?_
          refine e_gR (a := 8) (w := 161) 4 (sh_4 hS) hP rfl (by decide) rfl ?_
          refine e_call hP rfl rfl rfl (Nat.le_of_ble_eq_true rfl) (Nat.le_of_ble_eq_true rfl) (rcv0 (sh_160 hS) (by decide)) ?_
          refine Ca.mono h (fun r hr => ?_)
          obtain ⟨M4, v5, rfl, h⟩ := hr
          show En 122 28 [some (.inr (.inr 5)), some (.inl p1)] [.inl v5] S M4 Q
          refine e_go hP rfl ?_
          exact e_ret hP rfl rfl h
      · have h := h.2 hc
        refine e_ld hP rfl rfl ?_
        refine e_gR (a := 8) (w := 161) 4 (sh_4 hS) hP rfl (by decide) rfl ?_
        refine e_call hP rfl rfl rfl (Nat.le_of_ble_eq_true rfl) (Nat.le_of_ble_eq_true rfl) (rcv0 (sh_160 hS) (by decide)) ?_
        refine Ca.mono h (fun r hr => ?_)
        obtain ⟨M6, v7, rfl, h⟩ := hr
        show En 122 21 [some (.inr (.inr 5)), some (.inl p1)] [.inl v7] S M6 Q
        exact e_ret hP rfl rfl h
    · have h := h.2 hc
      refine e_c hP rfl ?_
      exact e_ret hP rfl rfl h
theorem r_X8_bestSwap_0 {S : Shp} {M : Mem} {Q : Res → Prop} (hS : KC S) {p1 : Int} (h : ((p1 < 0 → Q (S, M, some (.inl (-1 : Int)))) ∧ (0 ≤ p1 → ((p1 ≤ (1 : Int) → Ca 136 [.inr (.inr 5)] S M (fun r => ∃ M1 : Mem, r = (S, M1, some (.inr (.inr 145))) ∧ Ca 19 [.inr (.inr 145)] S M1 (fun r => ∃ (M2 : Mem) (v3 : Int), r = (S, M2, some (.inl v3)) ∧ Ca 78 [.inr (.inr 9)] S M2 (fun r => ∃ (M4 : Mem) (v5 : Int), r = (S, M4, some (.inl v5)) ∧ En 123 19 [some (.inr (.inr 5)), some (.inl p1), some (.inl v3), some (.inl (-4 : Int)), some (.inl v5), some (.inl (0 : Int)), none, none] [] S M4 Q)))) ∧ ((1 : Int) < p1 → Q (S, M, some (.inl (-1 : Int)))))))) : Ca 123 [.inr (.inr 5), .inl p1] S M Q := by
  have hP : PR 123 = (bc_123, 8) := rfl
  refine ⟨Nat.le_of_ble_eq_true rfl, ?_⟩
  show En 123 0 [some (.inr (.inr 5)), some (.inl p1), none, none, none, none, none, none] [] S M Q
  refine e_ld hP rfl rfl ?_
  refine e_zlt hP rfl (fun hc => ?_) (fun hc => ?_)
  · have h := h.1 hc
    refine e_c hP rfl ?_
    exact e_ret hP rfl rfl h
  · have h := h.2 hc
    refine e_ld hP rfl rfl ?_
    refine e_c hP rfl ?_
    refine e_cle hP rfl (fun hc => ?_) (fun hc => ?_)
    · have h := h.1 hc
      refine e_ld hP rfl rfl ?_
      refine e_call hP rfl rfl rfl (Nat.le_of_ble_eq_true rfl) (Nat.le_of_ble_eq_true rfl) (rcv0 (sh_4 hS) (by decide)) ?_
      refine Ca.mono h (fun r hr => ?_)
      obtain ⟨M1, rfl, h⟩ := hr
      show En 123 9 [some (.inr (.inr 5)), some (.inl p1), none, none, none, none, none, none] [.inr (.inr 145)] S M1 Q
      refine e_call hP rfl rfl rfl (Nat.le_of_ble_eq_true rfl) (Nat.le_of_ble_eq_true rfl) (rcv0 (sh_144 hS) (by decide)) ?_
      refine Ca.mono h (fun r hr => ?_)
      obtain ⟨M2, v3, rfl, h⟩ := hr
      show En 123 10 [some (.inr (.inr 5)), some (.inl p1), none, none, none, none, none, none] [.inl v3] S M2 Q
      refine e_st (L' := [some (.inr (.inr 5)), some (.inl p1), some (.inl v3), none, none, none, none, none]) hP rfl rfl ?_
      refine e_c hP rfl ?_
      refine e_st (L' := [some (.inr (.inr 5)), some (.inl p1), some (.inl v3), some (.inl (-4 : Int)), none, none, none, none]) hP rfl rfl ?_
      refine e_ld hP rfl rfl ?_
      refine e_gR (a := 8) (w := 9) 4 (sh_4 hS) hP rfl (by decide) rfl ?_
      refine e_call hP rfl rfl rfl (Nat.le_of_ble_eq_true rfl) (Nat.le_of_ble_eq_true rfl) (rcv0 (sh_8 hS) (by decide)) ?_
      refine Ca.mono h (fun r hr => ?_)
      obtain ⟨M4, v5, rfl, h⟩ := hr
      show En 123 16 [some (.inr (.inr 5)), some (.inl p1), some (.inl v3), some (.inl (-4 : Int)), none, none, none, none] [.inl v5] S M4 Q
      refine e_st (L' := [some (.inr (.inr 5)), some (.inl p1), some (.inl v3), some (.inl (-4 : Int)), some (.inl v5), none, none, none]) hP rfl rfl ?_
      refine e_c hP rfl ?_
      refine e_st (L' := [some (.inr (.inr 5)), some (.inl p1), some (.inl v3), some (.inl (-4 : Int)), some (.inl v5), some (.inl (0 : Int)), none, none]) hP rfl rfl ?_
      exact h
    · have h := h.2 hc
      refine e_c hP rfl ?_
      exact e_ret hP rfl rfl h
theorem r_X8_bestSwap_19 {S : Shp} {M : Mem} {Q : Res → Prop} (hS : KC S) {x1 x2 x3 x4 x5 : Int} (h : (((26 : Int) ≤ x5 → ((x3 = (-4 : Int) → Q (S, M, some (.inl x3))) ∧ (x3 ≠ (-4 : Int) → ((x1 ≠ 0 → Q (S, M, some (.inl x2))) ∧ (x1 = 0 → Q (S, M, some (.inl x3))))))) ∧ (x5 < (26 : Int) → (inR (x5 + (1 : Int))) ∧ En 123 26 [some (.inr (.inr 5)), some (.inl x1), some (.inl x2), some (.inl x3), some (.inl x4), some (.inl x5), some (.inl (x5 + (1 : Int))), none] [] S M Q))) : En 123 19 [some (.inr (.inr 5)), some (.inl x1), some (.inl x2), some (.inl x3), some (.inl x4), some (.inl x5), none, none] [] S M Q := by
  have hP : PR 123 = (bc_123, 8) := rfl
  refine e_ld hP rfl rfl ?_
  refine e_c hP rfl ?_
  refine e_cge hP rfl (fun hc => ?_) (fun hc => ?_)
  · have h := h.1 hc
    refine e_ld hP rfl rfl ?_
    refine e_c hP rfl ?_
    refine e_ceq hP rfl (fun hc => ?_) (fun hc => ?_)
    · have h := h.1 hc
      refine e_ld hP rfl rfl ?_
      refine e_go hP rfl ?_
      exact e_ret hP rfl rfl h
    · have h := h.2 hc
      refine e_ld hP rfl rfl ?_
      refine e_zne hP rfl (fun hc => ?_) (fun hc => ?_)
      · have h := h.1 hc
        refine e_ld hP rfl rfl ?_
        exact e_ret hP rfl rfl h
      · have h := h.2 hc
        refine e_ld hP rfl rfl ?_
        refine e_go hP rfl ?_
        exact e_ret hP rfl rfl h
  · have h := h.2 hc
    refine e_ld hP rfl rfl ?_
    refine e_c hP rfl ?_
    obtain ⟨hs1, h⟩ := h
    refine e_add hP rfl hs1 ?_
    refine e_st (L' := [some (.inr (.inr 5)), some (.inl x1), some (.inl x2), some (.inl x3), some (.inl x4), some (.inl x5), some (.inl (x5 + (1 : Int))), none]) hP rfl rfl ?_
    exact h
theorem r_X8_bestSwap_26 {S : Shp} {M : Mem} {Q : Res → Prop} (hS : KC S) {x1 x2 x3 x4 x5 x6 : Int} (h : (((26 : Int) ≤ x6 → (inR (x5 + 1)) ∧ En 123 19 [some (.inr (.inr 5)), some (.inl x1), some (.inl x2), some (.inl x3), some (.inl x4), some (.inl (x5 + 1)), none, none] [] S M Q) ∧ (x6 < (26 : Int) → Ca 135 [.inl x4, .inl x5] S M (fun r => ∃ (M2 : Mem) (v3 : Int), r = (S, M2, some (.inl v3)) ∧ ((v3 = 0 → (inR (x6 + 1)) ∧ En 123 26 [some (.inr (.inr 5)), some (.inl x1), some (.inl x2), some (.inl x3), some (.inl x4), some (.inl x5), some (.inl (x6 + 1)), none] [] S M2 Q) ∧ (v3 ≠ 0 → Ca 135 [.inl x4, .inl x6] S M2 (fun r => ∃ (M5 : Mem) (v6 : Int), r = (S, M5, some (.inl v6)) ∧ ((v6 = 0 → (inR (x6 + 1)) ∧ En 123 26 [some (.inr (.inr 5)), some (.inl x1), some (.inl x2), some (.inl x3), some (.inl x4), some (.inl x5), some (.inl (x6 + 1)), none] [] S M5 Q) ∧ (v6 ≠ 0 → Ca 20 [.inr (.inr 145), .inl x5, .inl x6] S M5 (fun r => ∃ (M8 : Mem) (v9 : Int), r = (S, M8, some (.inl v9)) ∧ ((v9 ≤ x2 → (inR (x6 + 1)) ∧ En 123 26 [some (.inr (.inr 5)), some (.inl x1), some (.inl x2), some (.inl x3), some (.inl x4), some (.inl x5), some (.inl (x6 + 1)), none] [] S M8 Q) ∧ (x2 < v9 → (inR ((26 : Int) * x5)) ∧ (inR (((26 : Int) * x5) + x6)) ∧ (inR (x6 + 1)) ∧ En 123 26 [some (.inr (.inr 5)), some (.inl x1), some (.inl v9), some (.inl (((26 : Int) * x5) + x6)), some (.inl x4), some (.inl x5), some (.inl (x6 + 1)), none] [] S M8 Q)))))))))))) : En 123 26 [some (.inr (.inr 5)), some (.inl x1), some (.inl x2), some (.inl x3), some (.inl x4), some (.inl x5), some (.inl x6), none] [] S M Q := by
  have hP : PR 123 = (bc_123, 8) := rfl
  refine e_ld hP rfl rfl ?_
  refine e_c hP rfl ?_
  refine e_cge hP rfl (fun hc => ?_) (fun hc => ?_)
  · have h := h.1 hc
    obtain ⟨hs1, h⟩ := h
    refine e_inc (L' := [some (.inr (.inr 5)), some (.inl x1), some (.inl x2), some (.inl x3), some (.inl x4), some (.inl (x5 + 1)), some (.inl x6), none]) hP rfl rfl hs1 rfl ?_
    refine e_go hP rfl ?_
    exact en_fg h ⟨Or.inr rfl, Or.inr rfl, Or.inr rfl, Or.inr rfl, Or.inr rfl, Or.inr rfl, Or.inl rfl, Or.inr rfl, trivial⟩
  · have h := h.2 hc
    refine e_ld hP rfl rfl ?_
    refine e_ld hP rfl rfl ?_
    refine e_call hP rfl rfl rfl (Nat.le_of_ble_eq_true rfl) (Nat.le_of_ble_eq_true rfl) rcv1 ?_
    refine Ca.mono h (fun r hr => ?_)
    obtain ⟨M2, v3, rfl, h⟩ := hr
    show En 123 32 [some (.inr (.inr 5)), some (.inl x1), some (.inl x2), some (.inl x3), some (.inl x4), some (.inl x5), some (.inl x6), none] [.inl v3] S M2 Q
    refine e_zeq hP rfl (fun hc => ?_) (fun hc => ?_)
    · have h := h.1 hc
      obtain ⟨hs4, h⟩ := h
      refine e_inc (L' := [some (.inr (.inr 5)), some (.inl x1), some (.inl x2), some (.inl x3), some (.inl x4), some (.inl x5), some (.inl (x6 + 1)), none]) hP rfl rfl hs4 rfl ?_
      refine e_go hP rfl ?_
      exact h
    · have h := h.2 hc
      refine e_ld hP rfl rfl ?_
      refine e_ld hP rfl rfl ?_
      refine e_call hP rfl rfl rfl (Nat.le_of_ble_eq_true rfl) (Nat.le_of_ble_eq_true rfl) rcv1 ?_
      refine Ca.mono h (fun r hr => ?_)
      obtain ⟨M5, v6, rfl, h⟩ := hr
      show En 123 36 [some (.inr (.inr 5)), some (.inl x1), some (.inl x2), some (.inl x3), some (.inl x4), some (.inl x5), some (.inl x6), none] [.inl v6] S M5 Q
      refine e_zeq hP rfl (fun hc => ?_) (fun hc => ?_)
      · have h := h.1 hc
        obtain ⟨hs7, h⟩ := h
        refine e_inc (L' := [some (.inr (.inr 5)), some (.inl x1), some (.inl x2), some (.inl x3), some (.inl x4), some (.inl x5), some (.inl (x6 + 1)), none]) hP rfl rfl hs7 rfl ?_
        refine e_go hP rfl ?_
        exact h
      · have h := h.2 hc
        refine e_ld hP rfl rfl ?_
        refine e_gR (a := 8) (w := 145) 4 (sh_4 hS) hP rfl (by decide) rfl ?_
        refine e_ld hP rfl rfl ?_
        refine e_ld hP rfl rfl ?_
        refine e_call hP rfl rfl rfl (Nat.le_of_ble_eq_true rfl) (Nat.le_of_ble_eq_true rfl) (rcv0 (sh_144 hS) (by decide)) ?_
        refine Ca.mono h (fun r hr => ?_)
        obtain ⟨M8, v9, rfl, h⟩ := hr
        show En 123 42 [some (.inr (.inr 5)), some (.inl x1), some (.inl x2), some (.inl x3), some (.inl x4), some (.inl x5), some (.inl x6), none] [.inl v9] S M8 Q
        refine e_st (L' := [some (.inr (.inr 5)), some (.inl x1), some (.inl x2), some (.inl x3), some (.inl x4), some (.inl x5), some (.inl x6), some (.inl v9)]) hP rfl rfl ?_
        refine e_ld hP rfl rfl ?_
        refine e_ld hP rfl rfl ?_
        refine e_cle hP rfl (fun hc => ?_) (fun hc => ?_)
        · have h := h.1 hc
          obtain ⟨hs10, h⟩ := h
          refine e_inc (L' := [some (.inr (.inr 5)), some (.inl x1), some (.inl x2), some (.inl x3), some (.inl x4), some (.inl x5), some (.inl (x6 + 1)), some (.inl v9)]) hP rfl rfl hs10 rfl ?_
          refine e_go hP rfl ?_
          exact en_fg h ⟨Or.inr rfl, Or.inr rfl, Or.inr rfl, Or.inr rfl, Or.inr rfl, Or.inr rfl, Or.inr rfl, Or.inl rfl, trivial⟩
        · have h := h.2 hc
          refine e_ld hP rfl rfl ?_
          refine e_st (L' := [some (.inr (.inr 5)), some (.inl x1), some (.inl v9), some (.inl x3), some (.inl x4), some (.inl x5), some (.inl x6), some (.inl v9)]) hP rfl rfl ?_
          refine e_c hP rfl ?_
          refine e_ld hP rfl rfl ?_
          obtain ⟨hs11, h⟩ := h
          refine e_mul hP rfl hs11 ?_
          refine e_ld hP rfl rfl ?_
          obtain ⟨hs12, h⟩ := h
          refine e_add hP rfl hs12 ?_
          refine e_st (L' := [some (.inr (.inr 5)), some (.inl x1), some (.inl v9), some (.inl (((26 : Int) * x5) + x6)), some (.inl x4), some (.inl x5), some (.inl x6), some (.inl v9)]) hP rfl rfl ?_
          obtain ⟨hs13, h⟩ := h
          refine e_inc (L' := [some (.inr (.inr 5)), some (.inl x1), some (.inl v9), some (.inl (((26 : Int) * x5) + x6)), some (.inl x4), some (.inl x5), some (.inl (x6 + 1)), some (.inl v9)]) hP rfl rfl hs13 rfl ?_
          refine e_go hP rfl ?_
          exact en_fg h ⟨Or.inr rfl, Or.inr rfl, Or.inr rfl, Or.inr rfl, Or.inr rfl, Or.inr rfl, Or.inr rfl, Or.inl rfl, trivial⟩
theorem r_X8_enter_0 {S : Shp} {M : Mem} {Q : Res → Prop} (hS : KC S) {p1 p2 : Int} (h : Ca 134 [.inl p1] S M (fun r => ∃ (M1 : Mem) (v2 : Int), r = (S, M1, some (.inl v2)) ∧ ((v2 = 0 → Q (S, M1, some (.inl (-1 : Int)))) ∧ (v2 ≠ 0 → ((p2 < 0 → Q (S, M1, some (.inl (-1 : Int)))) ∧ (0 ≤ p2 → ((p2 ≤ (9 : Int) → Ca 6 [.inr (.inr 169), .inl p1, .inl p2] S M1 (fun r => ∃ (M3 : Mem) (v4 : Int), r = (S, M3, some (.inl v4)) ∧ ((v4 = 0 → Q (S, M3, some (.inl (-3 : Int)))) ∧ (v4 ≠ 0 → Q (S, M3, some (.inl (M3 168 2))))))) ∧ ((9 : Int) < p2 → Q (S, M1, some (.inl (-1 : Int))))))))))) : Ca 124 [.inr (.inr 5), .inl p1, .inl p2] S M Q := by
  have hP : PR 124 = (bc_124, 3) := rfl
  refine ⟨Nat.le_of_ble_eq_true rfl, ?_⟩
  show En 124 0 [some (.inr (.inr 5)), some (.inl p1), some (.inl p2)] [] S M Q
  refine e_ld hP rfl rfl ?_
  refine e_call hP rfl rfl rfl (Nat.le_of_ble_eq_true rfl) (Nat.le_of_ble_eq_true rfl) rcv1 ?_
  refine Ca.mono h (fun r hr => ?_)
  obtain ⟨M1, v2, rfl, h⟩ := hr
  show En 124 2 [some (.inr (.inr 5)), some (.inl p1), some (.inl p2)] [.inl v2] S M1 Q
  refine e_zeq hP rfl (fun hc => ?_) (fun hc => ?_)
  · have h := h.1 hc
    refine e_c hP rfl ?_
    exact e_ret hP rfl rfl h
  · have h := h.2 hc
    refine e_ld hP rfl rfl ?_
    refine e_zlt hP rfl (fun hc => ?_) (fun hc => ?_)
    · have h := h.1 hc
      refine e_c hP rfl ?_
      exact e_ret hP rfl rfl h
    · have h := h.2 hc
      refine e_ld hP rfl rfl ?_
      refine e_c hP rfl ?_
      refine e_cle hP rfl (fun hc => ?_) (fun hc => ?_)
      · have h := h.1 hc
        refine e_ld hP rfl rfl ?_
        refine e_gR (a := 8) (w := 169) 4 (sh_4 hS) hP rfl (by decide) rfl ?_
        refine e_ld hP rfl rfl ?_
        refine e_ld hP rfl rfl ?_
        refine e_call hP rfl rfl rfl (Nat.le_of_ble_eq_true rfl) (Nat.le_of_ble_eq_true rfl) (rcv0 (sh_168 hS) (by decide)) ?_
        refine Ca.mono h (fun r hr => ?_)
        obtain ⟨M3, v4, rfl, h⟩ := hr
        show En 124 15 [some (.inr (.inr 5)), some (.inl p1), some (.inl p2)] [.inl v4] S M3 Q
        refine e_zeq hP rfl (fun hc => ?_) (fun hc => ?_)
        · have h := h.1 hc
          refine e_c hP rfl ?_
          exact e_ret hP rfl rfl h
        · have h := h.2 hc
          refine e_ld hP rfl rfl ?_
          refine e_gR (a := 8) (w := 169) 4 (sh_4 hS) hP rfl (by decide) rfl ?_
          refine e_gI (a := 1) 168 (sh_168 hS) hP rfl (by decide) ?_
          refine e_go hP rfl ?_
          exact e_ret hP rfl rfl h
      · have h := h.2 hc
        refine e_c hP rfl ?_
        exact e_ret hP rfl rfl h
theorem r_X8_close_0 {S : Shp} {M : Mem} {Q : Res → Prop} (hS : KC S) (h : Q (S, up2 M 168 2 (0 : Int), some (.inl (M 168 2)))) : Ca 125 [.inr (.inr 5)] S M Q := by
  have hP : PR 125 = (bc_125, 2) := rfl
  refine ⟨Nat.le_of_ble_eq_true rfl, ?_⟩
  show En 125 0 [some (.inr (.inr 5)), none] [] S M Q
  refine e_ld hP rfl rfl ?_
  refine e_gR (a := 8) (w := 169) 4 (sh_4 hS) hP rfl (by decide) rfl ?_
  refine e_gI (a := 1) 168 (sh_168 hS) hP rfl (by decide) ?_
  refine e_st (L' := [some (.inr (.inr 5)), some (.inl (M 168 2))]) hP rfl rfl ?_
  refine e_ld hP rfl rfl ?_
  refine e_gR (a := 8) (w := 169) 4 (sh_4 hS) hP rfl (by decide) rfl ?_
  refine e_c hP rfl ?_
  refine e_pI (a := 1) 168 (sh_168 hS) (by decide) hP rfl (by decide) ?_
  refine e_ld hP rfl rfl ?_
  exact e_ret hP rfl rfl h
theorem r_X8_fits_0 {S : Shp} {M : Mem} {Q : Res → Prop} (hS : KC S) (h : Ca 136 [.inr (.inr 5)] S M (fun r => ∃ M1 : Mem, r = (S, M1, some (.inr (.inr 145))) ∧ Ca 10 [.inr (.inr 169), .inr (.inr 145)] S M1 (fun r => ∃ (M2 : Mem) (v3 : Int), r = (S, M2, some (.inl v3)) ∧ Q (S, M2, some (.inl v3))))) : Ca 126 [.inr (.inr 5)] S M Q := by
  have hP : PR 126 = (bc_126, 1) := rfl
  refine ⟨Nat.le_of_ble_eq_true rfl, ?_⟩
  show En 126 0 [some (.inr (.inr 5))] [] S M Q
  refine e_ld hP rfl rfl ?_
  refine e_gR (a := 8) (w := 169) 4 (sh_4 hS) hP rfl (by decide) rfl ?_
  refine e_ld hP rfl rfl ?_
  refine e_call hP rfl rfl rfl (Nat.le_of_ble_eq_true rfl) (Nat.le_of_ble_eq_true rfl) (rcv0 (sh_4 hS) (by decide)) ?_
  refine Ca.mono h (fun r hr => ?_)
  obtain ⟨M1, rfl, h⟩ := hr
  show En 126 4 [some (.inr (.inr 5))] [.inr (.inr 145), .inr (.inr 169)] S M1 Q
  refine e_call hP rfl rfl rfl (Nat.le_of_ble_eq_true rfl) (Nat.le_of_ble_eq_true rfl) (rcv0 (sh_168 hS) (by decide)) ?_
  refine Ca.mono h (fun r hr => ?_)
  obtain ⟨M2, v3, rfl, h⟩ := hr
  show En 126 5 [some (.inr (.inr 5))] [.inl v3] S M2 Q
  exact e_ret hP rfl rfl h
theorem r_X8_sure_0 {S : Shp} {M : Mem} {Q : Res → Prop} (hS : KC S) {p1 : Int} (h : ((p1 < 0 → Q (S, M, some (.inl (-1 : Int)))) ∧ (0 ≤ p1 → ((p1 < (M 168 2) → Ca 136 [.inr (.inr 5)] S M (fun r => ∃ M1 : Mem, r = (S, M1, some (.inr (.inr 145))) ∧ Ca 10 [.inr (.inr 169), .inr (.inr 145)] S M1 (fun r => ∃ (M2 : Mem) (v3 : Int), r = (S, M2, some (.inl v3)) ∧ ((v3 ≠ 0 → Ca 11 [.inr (.inr 169), .inl p1, .inr (.inr 145)] S M2 (fun r => ∃ (M4 : Mem) (v5 : Int), r = (S, M4, some (.inl v5)) ∧ Q (S, M4, some (.inl v5)))) ∧ (v3 = 0 → Q (S, M2, some (.inl (-4 : Int)))))))) ∧ ((M 168 2) ≤ p1 → Q (S, M, some (.inl (-1 : Int)))))))) : Ca 127 [.inr (.inr 5), .inl p1] S M Q := by
  have hP : PR 127 = (bc_127, 2) := rfl
  refine ⟨Nat.le_of_ble_eq_true rfl, ?_⟩
  show En 127 0 [some (.inr (.inr 5)), some (.inl p1)] [] S M Q
  refine e_ld hP rfl rfl ?_
  refine e_zlt hP rfl (fun hc => ?_) (fun hc => ?_)
  · have h := h.1 hc
    refine e_c hP rfl ?_
    exact e_ret hP rfl rfl h
  · have h := h.2 hc
    refine e_ld hP rfl rfl ?_
    refine e_ld hP rfl rfl ?_
    refine e_gR (a := 8) (w := 169) 4 (sh_4 hS) hP rfl (by decide) rfl ?_
    refine e_gI (a := 1) 168 (sh_168 hS) hP rfl (by decide) ?_
    refine e_clt hP rfl (fun hc => ?_) (fun hc => ?_)
    · have h := h.1 hc
      refine e_ld hP rfl rfl ?_
      refine e_gR (a := 8) (w := 169) 4 (sh_4 hS) hP rfl (by decide) rfl ?_
      refine e_ld hP rfl rfl ?_
      refine e_call hP rfl rfl rfl (Nat.le_of_ble_eq_true rfl) (Nat.le_of_ble_eq_true rfl) (rcv0 (sh_4 hS) (by decide)) ?_
      refine Ca.mono h (fun r hr => ?_)
      obtain ⟨M1, rfl, h⟩ := hr
      show En 127 13 [some (.inr (.inr 5)), some (.inl p1)] [.inr (.inr 145), .inr (.inr 169)] S M1 Q
      refine e_call hP rfl rfl rfl (Nat.le_of_ble_eq_true rfl) (Nat.le_of_ble_eq_true rfl) (rcv0 (sh_168 hS) (by decide)) ?_
      refine Ca.mono h (fun r hr => ?_)
      obtain ⟨M2, v3, rfl, h⟩ := hr
      show En 127 14 [some (.inr (.inr 5)), some (.inl p1)] [.inl v3] S M2 Q
      refine e_zne hP rfl (fun hc => ?_) (fun hc => ?_)
      · have h := h.1 hc
        refine e_ld hP rfl rfl ?_
        refine e_gR (a := 8) (w := 169) 4 (sh_4 hS) hP rfl (by decide) rfl ?_
        refine e_ld hP rfl rfl ?_
        refine e_ld hP rfl rfl ?_
        refine e_gR (a := 8) (w := 145) 4 (sh_4 hS) hP rfl (by decide) rfl ?_
        refine e_call hP rfl rfl rfl (Nat.le_of_ble_eq_true rfl) (Nat.le_of_ble_eq_true rfl) (rcv0 (sh_168 hS) (by decide)) ?_
        refine Ca.mono h (fun r hr => ?_)
        obtain ⟨M4, v5, rfl, h⟩ := hr
        show En 127 23 [some (.inr (.inr 5)), some (.inl p1)] [.inl v5] S M4 Q
        exact e_ret hP rfl rfl h
      · have h := h.2 hc
        refine e_c hP rfl ?_
        refine e_go hP rfl ?_
        exact e_ret hP rfl rfl h
    · have h := h.2 hc
      refine e_c hP rfl ?_
      exact e_ret hP rfl rfl h
theorem r_X8_year_0 {S : Shp} {M : Mem} {Q : Res → Prop} (hS : KC S) {p1 p2 : Int} (h : ((p1 < 0 → Q (S, M, some (.inl (-1 : Int)))) ∧ (0 ≤ p1 → (((9999 : Int) < p1 → Q (S, M, some (.inl (-1 : Int)))) ∧ (p1 ≤ (9999 : Int) → ((p2 < 0 → Q (S, M, some (.inl (-1 : Int)))) ∧ (0 ≤ p2 → ((p2 ≤ (1 : Int) → Ca 136 [.inr (.inr 5)] S M (fun r => ∃ M1 : Mem, r = (S, M1, some (.inr (.inr 145))) ∧ Ca 92 [.inr (.inr 147), .inl p1] S M1 (fun r => ∃ M2 : Mem, r = (S, M2, none) ∧ Ca 14 [.inr (.inr 145)] S M2 (fun r => ∃ M3 : Mem, r = (S, M3, none) ∧ ((p2 ≠ 0 → Ca 82 [.inr (.inr 147)] S M3 (fun r => ∃ (M4 : Mem) (v5 : Int), r = (S, M4, some (.inl v5)) ∧ Q (S, M4, some (.inl v5)))) ∧ (p2 = 0 → Ca 19 [.inr (.inr 145)] S M3 (fun r => ∃ (M6 : Mem) (v7 : Int), r = (S, M6, some (.inl v7)) ∧ Q (S, M6, some (.inl v7))))))))) ∧ ((1 : Int) < p2 → Q (S, M, some (.inl (-1 : Int)))))))))))) : Ca 128 [.inr (.inr 5), .inl p1, .inl p2] S M Q := by
  have hP : PR 128 = (bc_128, 3) := rfl
  refine ⟨Nat.le_of_ble_eq_true rfl, ?_⟩
  show En 128 0 [some (.inr (.inr 5)), some (.inl p1), some (.inl p2)] [] S M Q
  refine e_ld hP rfl rfl ?_
  refine e_zlt hP rfl (fun hc => ?_) (fun hc => ?_)
  · have h := h.1 hc
    refine e_c hP rfl ?_
    exact e_ret hP rfl rfl h
  · have h := h.2 hc
    refine e_ld hP rfl rfl ?_
    refine e_c hP rfl ?_
    refine e_cgt hP rfl (fun hc => ?_) (fun hc => ?_)
    · have h := h.1 hc
      refine e_c hP rfl ?_
      exact e_ret hP rfl rfl h
    · have h := h.2 hc
      refine e_ld hP rfl rfl ?_
      refine e_zlt hP rfl (fun hc => ?_) (fun hc => ?_)
      · have h := h.1 hc
        refine e_c hP rfl ?_
        exact e_ret hP rfl rfl h
      · have h := h.2 hc
        refine e_ld hP rfl rfl ?_
        refine e_c hP rfl ?_
        refine e_cle hP rfl (fun hc => ?_) (fun hc => ?_)
        · have h := h.1 hc
          refine e_ld hP rfl rfl ?_
          refine e_call hP rfl rfl rfl (Nat.le_of_ble_eq_true rfl) (Nat.le_of_ble_eq_true rfl) (rcv0 (sh_4 hS) (by decide)) ?_
          refine Ca.mono h (fun r hr => ?_)
          obtain ⟨M1, rfl, h⟩ := hr
          show En 128 14 [some (.inr (.inr 5)), some (.inl p1), some (.inl p2)] [.inr (.inr 145)] S M1 Q
          refine e_popR hP rfl ?_
          refine e_ld hP rfl rfl ?_
          refine e_gR (a := 8) (w := 145) 4 (sh_4 hS) hP rfl (by decide) rfl ?_
          refine e_gR (a := 2) (w := 147) 144 (sh_144 hS) hP rfl (by decide) rfl ?_
          refine e_ld hP rfl rfl ?_
          refine e_call hP rfl rfl rfl (Nat.le_of_ble_eq_true rfl) (Nat.le_of_ble_eq_true rfl) (rcv0 (sh_146 hS) (by decide)) ?_
          refine Ca.mono h (fun r hr => ?_)
          obtain ⟨M2, rfl, h⟩ := hr
          show En 128 20 [some (.inr (.inr 5)), some (.inl p1), some (.inl p2)] [] S M2 Q
          refine e_ld hP rfl rfl ?_
          refine e_gR (a := 8) (w := 145) 4 (sh_4 hS) hP rfl (by decide) rfl ?_
          refine e_call hP rfl rfl rfl (Nat.le_of_ble_eq_true rfl) (Nat.le_of_ble_eq_true rfl) (rcv0 (sh_144 hS) (by decide)) ?_
          refine Ca.mono h (fun r hr => ?_)
          obtain ⟨M3, rfl, h⟩ := hr
          show En 128 23 [some (.inr (.inr 5)), some (.inl p1), some (.inl p2)] [] S M3 Q
          refine e_ld hP rfl rfl ?_
          refine e_zne hP rfl (fun hc => ?_) (fun hc => ?_)
          · have h := h.1 hc
            refine e_ld hP rfl rfl ?_
            refine e_gR (a := 8) (w := 145) 4 (sh_4 hS) hP rfl (by decide) rfl ?_
            refine e_gR (a := 2) (w := 147) 144 (sh_144 hS) hP rfl (by decide) rfl ?_
            refine e_call hP rfl rfl rfl (Nat.le_of_ble_eq_true rfl) (Nat.le_of_ble_eq_true rfl) (rcv0 (sh_146 hS) (by decide)) ?_
            refine Ca.mono h (fun r hr => ?_)
            obtain ⟨M4, v5, rfl, h⟩ := hr
            show En 128 33 [some (.inr (.inr 5)), some (.inl p1), some (.inl p2)] [.inl v5] S M4 Q
            exact e_ret hP rfl rfl h
          · have h := h.2 hc
            refine e_ld hP rfl rfl ?_
            refine e_gR (a := 8) (w := 145) 4 (sh_4 hS) hP rfl (by decide) rfl ?_
            refine e_call hP rfl rfl rfl (Nat.le_of_ble_eq_true rfl) (Nat.le_of_ble_eq_true rfl) (rcv0 (sh_144 hS) (by decide)) ?_
            refine Ca.mono h (fun r hr => ?_)
            obtain ⟨M6, v7, rfl, h⟩ := hr
            show En 128 28 [some (.inr (.inr 5)), some (.inl p1), some (.inl p2)] [.inl v7] S M6 Q
            refine e_go hP rfl ?_
            exact e_ret hP rfl rfl h
        · have h := h.2 hc
          refine e_c hP rfl ?_
          exact e_ret hP rfl rfl h
theorem r_X8_keep_0 {S : Shp} {M : Mem} {Q : Res → Prop} (hS : KC S) (h : Ca 32 [.inr (.inr 121)] S M (fun r => ∃ (M1 : Mem) (v2 : Int), r = (S, M1, some (.inl v2)) ∧ ((v2 = 0 → Ca 33 [.inr (.inr 121), .inr (.inr 9)] S M1 (fun r => ∃ M3 : Mem, r = (S, M3, none) ∧ Q (S, M3, some (.inl (M3 120 1))))) ∧ (v2 ≠ 0 → Q (S, M1, some (.inl (-3 : Int))))))) : Ca 129 [.inr (.inr 5)] S M Q := by
  have hP : PR 129 = (bc_129, 1) := rfl
  refine ⟨Nat.le_of_ble_eq_true rfl, ?_⟩
  show En 129 0 [some (.inr (.inr 5))] [] S M Q
  refine e_ld hP rfl rfl ?_
  refine e_gR (a := 8) (w := 121) 4 (sh_4 hS) hP rfl (by decide) rfl ?_
  refine e_call hP rfl rfl rfl (Nat.le_of_ble_eq_true rfl) (Nat.le_of_ble_eq_true rfl) (rcv0 (sh_120 hS) (by decide)) ?_
  refine Ca.mono h (fun r hr => ?_)
  obtain ⟨M1, v2, rfl, h⟩ := hr
  show En 129 3 [some (.inr (.inr 5))] [.inl v2] S M1 Q
  refine e_zeq hP rfl (fun hc => ?_) (fun hc => ?_)
  · have h := h.1 hc
    refine e_ld hP rfl rfl ?_
    refine e_gR (a := 8) (w := 121) 4 (sh_4 hS) hP rfl (by decide) rfl ?_
    refine e_ld hP rfl rfl ?_
    refine e_gR (a := 8) (w := 9) 4 (sh_4 hS) hP rfl (by decide) rfl ?_
    refine e_call hP rfl rfl rfl (Nat.le_of_ble_eq_true rfl) (Nat.le_of_ble_eq_true rfl) (rcv0 (sh_120 hS) (by decide)) ?_
    refine Ca.mono h (fun r hr => ?_)
    obtain ⟨M3, rfl, h⟩ := hr
    show En 129 11 [some (.inr (.inr 5))] [] S M3 Q
    refine e_ld hP rfl rfl ?_
    refine e_gR (a := 8) (w := 121) 4 (sh_4 hS) hP rfl (by decide) rfl ?_
    refine e_gI (a := 4) 120 (sh_120 hS) hP rfl (by decide) ?_
    exact e_ret hP rfl rfl h
  · have h := h.2 hc
    refine e_c hP rfl ?_
    exact e_ret hP rfl rfl h
theorem r_X8_back_0 {S : Shp} {M : Mem} {Q : Res → Prop} (hS : KC S) (h : Ca 34 [.inr (.inr 121), .inr (.inr 9)] S M (fun r => ∃ (M1 : Mem) (v2 : Int), r = (S, M1, some (.inl v2)) ∧ ((v2 ≠ 0 → Q (S, up2 M1 30 1 (0 : Int), some (.inl ((up2 M1 30 1 (0 : Int)) 120 1)))) ∧ (v2 = 0 → Q (S, M1, some (.inl (-2 : Int))))))) : Ca 130 [.inr (.inr 5)] S M Q := by
  have hP : PR 130 = (bc_130, 1) := rfl
  refine ⟨Nat.le_of_ble_eq_true rfl, ?_⟩
  show En 130 0 [some (.inr (.inr 5))] [] S M Q
  refine e_ld hP rfl rfl ?_
  refine e_gR (a := 8) (w := 121) 4 (sh_4 hS) hP rfl (by decide) rfl ?_
  refine e_ld hP rfl rfl ?_
  refine e_gR (a := 8) (w := 9) 4 (sh_4 hS) hP rfl (by decide) rfl ?_
  refine e_call hP rfl rfl rfl (Nat.le_of_ble_eq_true rfl) (Nat.le_of_ble_eq_true rfl) (rcv0 (sh_120 hS) (by decide)) ?_
  refine Ca.mono h (fun r hr => ?_)
  obtain ⟨M1, v2, rfl, h⟩ := hr
  show En 130 5 [some (.inr (.inr 5))] [.inl v2] S M1 Q
  refine e_zne hP rfl (fun hc => ?_) (fun hc => ?_)
  · have h := h.1 hc
    refine e_ld hP rfl rfl ?_
    refine e_gR (a := 8) (w := 31) 4 (sh_4 hS) hP rfl (by decide) rfl ?_
    refine e_c hP rfl ?_
    refine e_pI (a := 4) 30 (sh_30 hS) (by decide) hP rfl (by decide) ?_
    refine e_ld hP rfl rfl ?_
    refine e_gR (a := 8) (w := 121) 4 (sh_4 hS) hP rfl (by decide) rfl ?_
    refine e_gI (a := 4) 120 (sh_120 hS) hP rfl (by decide) ?_
    exact e_ret hP rfl rfl h
  · have h := h.2 hc
    refine e_c hP rfl ?_
    exact e_ret hP rfl rfl h
theorem r_X8_count_0 {S : Shp} {M : Mem} {Q : Res → Prop} (hS : KC S) {p1 : Int} (h : (((p1 < 0 ∨ 0 + 11 ≤ p1) → Q (S, M, some (.inl (-1 : Int)))) ∧ (p1 = 0 → Q (S, M, some (.inl (M 8 0)))) ∧ (p1 = 1 → Q (S, M, some (.inl (M 8 1)))) ∧ (p1 = 2 → Q (S, M, some (.inl (M 8 2)))) ∧ (p1 = 3 → Q (S, M, some (.inl (M 8 3)))) ∧ (p1 = 4 → Q (S, M, some (.inl (M 4 11)))) ∧ (p1 = 5 → Ca 85 [.inr (.inr 9)] S M (fun r => ∃ (M1 : Mem) (v2 : Int), r = (S, M1, some (.inl v2)) ∧ Q (S, M1, some (.inl v2)))) ∧ (p1 = 6 → Q (S, M, some (.inl (M 168 2)))) ∧ (p1 = 7 → Q (S, M, some (.inl (M 30 1)))) ∧ (p1 = 8 → Q (S, M, some (.inl (M 120 1)))) ∧ (p1 = 9 → Q (S, M, some (.inl (M 5 2)))) ∧ (p1 = 10 → Ca 136 [.inr (.inr 5)] S M (fun r => ∃ M3 : Mem, r = (S, M3, some (.inr (.inr 145))) ∧ Ca 19 [.inr (.inr 145)] S M3 (fun r => ∃ (M4 : Mem) (v5 : Int), r = (S, M4, some (.inl v5)) ∧ Q (S, M4, some (.inl v5))))))) : Ca 131 [.inr (.inr 5), .inl p1] S M Q := by
  have hP : PR 131 = (bc_131, 2) := rfl
  refine ⟨Nat.le_of_ble_eq_true rfl, ?_⟩
  show En 131 0 [some (.inr (.inr 5)), some (.inl p1)] [] S M Q
  refine e_ld hP rfl rfl ?_
  refine e_tab hP rfl (fun hc => ?_) (fun k t hk hx => ?_)
  · have h := h.1 hc
    refine e_c hP rfl ?_
    exact e_ret hP rfl rfl h
  · match k, hk, hx with
    | 0, hk, hx =>
      cases hk
      have h := h.2.1 (by simpa using hx)
      refine e_ld hP rfl rfl ?_
      refine e_gR (a := 8) (w := 9) 4 (sh_4 hS) hP rfl (by decide) rfl ?_
      refine e_gI (a := 7) 8 (sh_8 hS) hP rfl (by decide) ?_
      exact e_ret hP rfl rfl h
    | 1, hk, hx =>
      cases hk
      have h := h.2.2.1 (by simpa using hx)
      refine e_ld hP rfl rfl ?_
      refine e_gR (a := 8) (w := 9) 4 (sh_4 hS) hP rfl (by decide) rfl ?_
      refine e_gI (a := 7) 8 (sh_8 hS) hP rfl (by decide) ?_
      exact e_ret hP rfl rfl h
    | 2, hk, hx =>
      cases hk
      have h := h.2.2.2.1 (by simpa using hx)
      refine e_ld hP rfl rfl ?_
      refine e_gR (a := 8) (w := 9) 4 (sh_4 hS) hP rfl (by decide) rfl ?_
      refine e_gI (a := 7) 8 (sh_8 hS) hP rfl (by decide) ?_
      exact e_ret hP rfl rfl h
    | 3, hk, hx =>
      cases hk
      have h := h.2.2.2.2.1 (by simpa using hx)
      refine e_ld hP rfl rfl ?_
      refine e_gR (a := 8) (w := 9) 4 (sh_4 hS) hP rfl (by decide) rfl ?_
      refine e_gI (a := 7) 8 (sh_8 hS) hP rfl (by decide) ?_
      exact e_ret hP rfl rfl h
    | 4, hk, hx =>
      cases hk
      have h := h.2.2.2.2.2.1 (by simpa using hx)
      refine e_ld hP rfl rfl ?_
      refine e_gI (a := 8) 4 (sh_4 hS) hP rfl (by decide) ?_
      exact e_ret hP rfl rfl h
    | 5, hk, hx =>
      cases hk
      have h := h.2.2.2.2.2.2.1 (by simpa using hx)
      refine e_ld hP rfl rfl ?_
      refine e_gR (a := 8) (w := 9) 4 (sh_4 hS) hP rfl (by decide) rfl ?_
      refine e_call hP rfl rfl rfl (Nat.le_of_ble_eq_true rfl) (Nat.le_of_ble_eq_true rfl) (rcv0 (sh_8 hS) (by decide)) ?_
      refine Ca.mono h (fun r hr => ?_)
      obtain ⟨M1, v2, rfl, h⟩ := hr
      show En 131 24 [some (.inr (.inr 5)), some (.inl p1)] [.inl v2] S M1 Q
      exact e_ret hP rfl rfl h
    | 6, hk, hx =>
      cases hk
      have h := h.2.2.2.2.2.2.2.1 (by simpa using hx)
      refine e_ld hP rfl rfl ?_
      refine e_gR (a := 8) (w := 169) 4 (sh_4 hS) hP rfl (by decide) rfl ?_
      refine e_gI (a := 1) 168 (sh_168 hS) hP rfl (by decide) ?_
      exact e_ret hP rfl rfl h
    | 7, hk, hx =>
      cases hk
      have h := h.2.2.2.2.2.2.2.2.1 (by simpa using hx)
      refine e_ld hP rfl rfl ?_
      refine e_gR (a := 8) (w := 31) 4 (sh_4 hS) hP rfl (by decide) rfl ?_
      refine e_gI (a := 4) 30 (sh_30 hS) hP rfl (by decide) ?_
      exact e_ret hP rfl rfl h
    | 8, hk, hx =>
      cases hk
      have h := h.2.2.2.2.2.2.2.2.2.1 (by simpa using hx)
      refine e_ld hP rfl rfl ?_
      refine e_gR (a := 8) (w := 121) 4 (sh_4 hS) hP rfl (by decide) rfl ?_
      refine e_gI (a := 4) 120 (sh_120 hS) hP rfl (by decide) ?_
      exact e_ret hP rfl rfl h
    | 9, hk, hx =>
      cases hk
      have h := h.2.2.2.2.2.2.2.2.2.2.1 (by simpa using hx)
      refine e_ld hP rfl rfl ?_
      refine e_gR (a := 8) (w := 6) 4 (sh_4 hS) hP rfl (by decide) rfl ?_
      refine e_gI (a := 5) 5 (sh_5 hS) hP rfl (by decide) ?_
      exact e_ret hP rfl rfl h
    | 10, hk, hx =>
      cases hk
      have h := h.2.2.2.2.2.2.2.2.2.2.2 (by simpa using hx)
      refine e_ld hP rfl rfl ?_
      refine e_call hP rfl rfl rfl (Nat.le_of_ble_eq_true rfl) (Nat.le_of_ble_eq_true rfl) (rcv0 (sh_4 hS) (by decide)) ?_
      refine Ca.mono h (fun r hr => ?_)
      obtain ⟨M3, rfl, h⟩ := hr
      show En 131 43 [some (.inr (.inr 5)), some (.inl p1)] [.inr (.inr 145)] S M3 Q
      refine e_call hP rfl rfl rfl (Nat.le_of_ble_eq_true rfl) (Nat.le_of_ble_eq_true rfl) (rcv0 (sh_144 hS) (by decide)) ?_
      refine Ca.mono h (fun r hr => ?_)
      obtain ⟨M4, v5, rfl, h⟩ := hr
      show En 131 44 [some (.inr (.inr 5)), some (.inl p1)] [.inl v5] S M4 Q
      exact e_ret hP rfl rfl h
    | k + 11, hk, hx => simp at hk
theorem r_X8_isPerson_0 {S : Shp} {M : Mem} {Q : Res → Prop} (hS : KC S) {p1 : Int} (h : ((p1 < 0 → Q (S, M, some (.inl (0 : Int)))) ∧ (0 ≤ p1 → (((M 8 0) ≤ p1 → Q (S, M, some (.inl (0 : Int)))) ∧ (p1 < (M 8 0) → Q (S, M, some (.inl (1 : Int)))))))) : Ca 132 [.inr (.inr 5), .inl p1] S M Q := by
  have hP : PR 132 = (bc_132, 2) := rfl
  refine ⟨Nat.le_of_ble_eq_true rfl, ?_⟩
  show En 132 0 [some (.inr (.inr 5)), some (.inl p1)] [] S M Q
  refine e_ld hP rfl rfl ?_
  refine e_zlt hP rfl (fun hc => ?_) (fun hc => ?_)
  · have h := h.1 hc
    refine e_c hP rfl ?_
    exact e_ret hP rfl rfl h
  · have h := h.2 hc
    refine e_ld hP rfl rfl ?_
    refine e_ld hP rfl rfl ?_
    refine e_gR (a := 8) (w := 9) 4 (sh_4 hS) hP rfl (by decide) rfl ?_
    refine e_gI (a := 7) 8 (sh_8 hS) hP rfl (by decide) ?_
    refine e_cge hP rfl (fun hc => ?_) (fun hc => ?_)
    · have h := h.1 hc
      refine e_c hP rfl ?_
      exact e_ret hP rfl rfl h
    · have h := h.2 hc
      refine e_c hP rfl ?_
      refine e_go hP rfl ?_
      exact e_ret hP rfl rfl h
theorem r_X8_areTwo_0 {S : Shp} {M : Mem} {Q : Res → Prop} (hS : KC S) {p1 p2 : Int} (h : Ca 132 [.inr (.inr 5), .inl p1] S M (fun r => ∃ (M1 : Mem) (v2 : Int), r = (S, M1, some (.inl v2)) ∧ ((v2 = 0 → Q (S, M1, some (.inl (0 : Int)))) ∧ (v2 ≠ 0 → Ca 132 [.inr (.inr 5), .inl p2] S M1 (fun r => ∃ (M3 : Mem) (v4 : Int), r = (S, M3, some (.inl v4)) ∧ ((v4 = 0 → Q (S, M3, some (.inl (0 : Int)))) ∧ (v4 ≠ 0 → ((p1 = p2 → Q (S, M3, some (.inl (0 : Int)))) ∧ (p1 ≠ p2 → Q (S, M3, some (.inl (1 : Int)))))))))))) : Ca 133 [.inr (.inr 5), .inl p1, .inl p2] S M Q := by
  have hP : PR 133 = (bc_133, 3) := rfl
  refine ⟨Nat.le_of_ble_eq_true rfl, ?_⟩
  show En 133 0 [some (.inr (.inr 5)), some (.inl p1), some (.inl p2)] [] S M Q
  refine e_ld hP rfl rfl ?_
  refine e_ld hP rfl rfl ?_
  refine e_call hP rfl rfl rfl (Nat.le_of_ble_eq_true rfl) (Nat.le_of_ble_eq_true rfl) (rcv0 (sh_4 hS) (by decide)) ?_
  refine Ca.mono h (fun r hr => ?_)
  obtain ⟨M1, v2, rfl, h⟩ := hr
  show En 133 3 [some (.inr (.inr 5)), some (.inl p1), some (.inl p2)] [.inl v2] S M1 Q
  refine e_zeq hP rfl (fun hc => ?_) (fun hc => ?_)
  · have h := h.1 hc
    refine e_c hP rfl ?_
    exact e_ret hP rfl rfl h
  · have h := h.2 hc
    refine e_ld hP rfl rfl ?_
    refine e_ld hP rfl rfl ?_
    refine e_call hP rfl rfl rfl (Nat.le_of_ble_eq_true rfl) (Nat.le_of_ble_eq_true rfl) (rcv0 (sh_4 hS) (by decide)) ?_
    refine Ca.mono h (fun r hr => ?_)
    obtain ⟨M3, v4, rfl, h⟩ := hr
    show En 133 7 [some (.inr (.inr 5)), some (.inl p1), some (.inl p2)] [.inl v4] S M3 Q
    refine e_zeq hP rfl (fun hc => ?_) (fun hc => ?_)
    · have h := h.1 hc
      refine e_c hP rfl ?_
      exact e_ret hP rfl rfl h
    · have h := h.2 hc
      refine e_ld hP rfl rfl ?_
      refine e_ld hP rfl rfl ?_
      refine e_ceq hP rfl (fun hc => ?_) (fun hc => ?_)
      · have h := h.1 hc
        refine e_c hP rfl ?_
        exact e_ret hP rfl rfl h
      · have h := h.2 hc
        refine e_c hP rfl ?_
        refine e_go hP rfl ?_
        exact e_ret hP rfl rfl h
theorem r_X8_isLetter_0 {S : Shp} {M : Mem} {Q : Res → Prop} (hS : KC S) {p1 : Int} (h : ((p1 < 0 → Q (S, M, some (.inl (0 : Int)))) ∧ (0 ≤ p1 → (((26 : Int) ≤ p1 → Q (S, M, some (.inl (0 : Int)))) ∧ (p1 < (26 : Int) → Q (S, M, some (.inl (1 : Int)))))))) : Ca 134 [.inl p1] S M Q := by
  have hP : PR 134 = (bc_134, 1) := rfl
  refine ⟨Nat.le_of_ble_eq_true rfl, ?_⟩
  show En 134 0 [some (.inl p1)] [] S M Q
  refine e_ld hP rfl rfl ?_
  refine e_zlt hP rfl (fun hc => ?_) (fun hc => ?_)
  · have h := h.1 hc
    refine e_c hP rfl ?_
    exact e_ret hP rfl rfl h
  · have h := h.2 hc
    refine e_ld hP rfl rfl ?_
    refine e_c hP rfl ?_
    refine e_cge hP rfl (fun hc => ?_) (fun hc => ?_)
    · have h := h.1 hc
      refine e_c hP rfl ?_
      exact e_ret hP rfl rfl h
    · have h := h.2 hc
      refine e_c hP rfl ?_
      refine e_go hP rfl ?_
      exact e_ret hP rfl rfl h
theorem r_X8_holds_0 {S : Shp} {M : Mem} {Q : Res → Prop} (hS : KC S) {p1 p2 : Int} (h : (0 ≤ p1 ∧ 0 ≤ p2 ∧ p2 < 32) ∧ (∃ z2 : Int, bi_and (p1 / 2 ^ p2.toNat) (1 : Int) = some z2 ∧ ((z2 ≠ (1 : Int) → Q (S, M, some (.inl (0 : Int)))) ∧ (z2 = (1 : Int) → Q (S, M, some (.inl (1 : Int))))))) : Ca 135 [.inl p1, .inl p2] S M Q := by
  have hP : PR 135 = (bc_135, 2) := rfl
  refine ⟨Nat.le_of_ble_eq_true rfl, ?_⟩
  show En 135 0 [some (.inl p1), some (.inl p2)] [] S M Q
  refine e_ld hP rfl rfl ?_
  refine e_ld hP rfl rfl ?_
  obtain ⟨hs1, h⟩ := h
  refine e_shr hP rfl hs1 ?_
  refine e_c hP rfl ?_
  obtain ⟨z2, hs3, h⟩ := h
  refine e_and hP rfl hs3 ?_
  refine e_c hP rfl ?_
  refine e_cne hP rfl (fun hc => ?_) (fun hc => ?_)
  · have h := h.1 hc
    refine e_c hP rfl ?_
    exact e_ret hP rfl rfl h
  · have h := h.2 hc
    refine e_c hP rfl ?_
    refine e_go hP rfl ?_
    exact e_ret hP rfl rfl h
theorem r_X8_lineNow_0 {S : Shp} {M : Mem} {Q : Res → Prop} (hS : KC S) (h : Ca 13 [.inr (.inr 145), .inr (.inr 9)] S M (fun r => ∃ M1 : Mem, r = (S, M1, none) ∧ Q (S, M1, some (.inr (.inr 145))))) : Ca 136 [.inr (.inr 5)] S M Q := by
  have hP : PR 136 = (bc_136, 1) := rfl
  refine ⟨Nat.le_of_ble_eq_true rfl, ?_⟩
  show En 136 0 [some (.inr (.inr 5))] [] S M Q
  refine e_ld hP rfl rfl ?_
  refine e_gR (a := 8) (w := 145) 4 (sh_4 hS) hP rfl (by decide) rfl ?_
  refine e_ld hP rfl rfl ?_
  refine e_gR (a := 8) (w := 9) 4 (sh_4 hS) hP rfl (by decide) rfl ?_
  refine e_call hP rfl rfl rfl (Nat.le_of_ble_eq_true rfl) (Nat.le_of_ble_eq_true rfl) (rcv0 (sh_144 hS) (by decide)) ?_
  refine Ca.mono h (fun r hr => ?_)
  obtain ⟨M1, rfl, h⟩ := hr
  show En 136 5 [some (.inr (.inr 5))] [] S M1 Q
  refine e_ld hP rfl rfl ?_
  refine e_gR (a := 8) (w := 145) 4 (sh_4 hS) hP rfl (by decide) rfl ?_
  exact e_reta hP rfl h
theorem r_X8_priceOfWord_0 {S : Shp} {M : Mem} {Q : Res → Prop} (hS : KC S) {p1 : Int} (h : En 137 4 [some (.inr (.inr 5)), some (.inl p1), some (.inl (0 : Int)), some (.inl (0 : Int)), none] [] S M Q) : Ca 137 [.inr (.inr 5), .inl p1] S M Q := by
  have hP : PR 137 = (bc_137, 5) := rfl
  refine ⟨Nat.le_of_ble_eq_true rfl, ?_⟩
  show En 137 0 [some (.inr (.inr 5)), some (.inl p1), none, none, none] [] S M Q
  refine e_c hP rfl ?_
  refine e_st (L' := [some (.inr (.inr 5)), some (.inl p1), some (.inl (0 : Int)), none, none]) hP rfl rfl ?_
  refine e_c hP rfl ?_
  refine e_st (L' := [some (.inr (.inr 5)), some (.inl p1), some (.inl (0 : Int)), some (.inl (0 : Int)), none]) hP rfl rfl ?_
  exact h
theorem r_X8_priceOfWord_4 {S : Shp} {M : Mem} {Q : Res → Prop} (hS : KC S) {x1 x2 x3 : Int} (h : (((6 : Int) ≤ x3 → (inR (x2 * (M 8 3))) ∧ Q (S, M, some (.inl (x2 * (M 8 3))))) ∧ (x3 < (6 : Int) → (((M 4 11) ≤ x3 → Ca 75 [.inr (.inr 9), .inl x1, .inl x3] S M (fun r => ∃ (M2 : Mem) (v3 : Int), r = (S, M2, some (.inl v3)) ∧ (((-4 : Int) = v3 → (inR (x3 + 1)) ∧ En 137 4 [some (.inr (.inr 5)), some (.inl x1), some (.inl x2), some (.inl (x3 + 1)), none] [] S M2 Q) ∧ ((-4 : Int) ≠ v3 → (inR (x2 + 1)) ∧ (inR (x3 + 1)) ∧ En 137 4 [some (.inr (.inr 5)), some (.inl x1), some (.inl (x2 + 1)), some (.inl (x3 + 1)), none] [] S M2 Q)))) ∧ (x3 < (M 4 11) → (0 ≤ x3 ∧ x3 < 6) ∧ Ca 75 [.inr (.inr 9), .inl x1, .inl x3] S M (fun r => ∃ (M8 : Mem) (v9 : Int), r = (S, M8, some (.inl v9)) ∧ (((M 171 x3.toNat) = v9 → (inR (x3 + 1)) ∧ En 137 4 [some (.inr (.inr 5)), some (.inl x1), some (.inl x2), some (.inl (x3 + 1)), none] [] S M8 Q) ∧ ((M 171 x3.toNat) ≠ v9 → (inR (x2 + 1)) ∧ (inR (x3 + 1)) ∧ En 137 4 [some (.inr (.inr 5)), some (.inl x1), some (.inl (x2 + 1)), some (.inl (x3 + 1)), none] [] S M8 Q)))))))) : En 137 4 [some (.inr (.inr 5)), some (.inl x1), some (.inl x2), some (.inl x3), none] [] S M Q := by
  have hP : PR 137 = (bc_137, 5) := rfl
  refine e_ld hP rfl rfl ?_
  refine e_c hP rfl ?_
  refine e_cge hP rfl (fun hc => ?_) (fun hc => ?_)
  · have h := h.1 hc
    refine e_ld hP rfl rfl ?_
    refine e_ld hP rfl rfl ?_
    refine e_gR (a := 8) (w := 9) 4 (sh_4 hS) hP rfl (by decide) rfl ?_
    refine e_gI (a := 7) 8 (sh_8 hS) hP rfl (by decide) ?_
    obtain ⟨hs1, h⟩ := h
    refine e_mul hP rfl hs1 ?_
    exact e_ret hP rfl rfl h
  · have h := h.2 hc
    refine e_ld hP rfl rfl ?_
    refine e_ld hP rfl rfl ?_
    refine e_gI (a := 8) 4 (sh_4 hS) hP rfl (by decide) ?_
    refine e_cge hP rfl (fun hc => ?_) (fun hc => ?_)
    · have h := h.1 hc
      refine e_c hP rfl ?_
      refine e_st (L' := [some (.inr (.inr 5)), some (.inl x1), some (.inl x2), some (.inl x3), some (.inl (-4 : Int))]) hP rfl rfl ?_
      refine e_ld hP rfl rfl ?_
      refine e_ld hP rfl rfl ?_
      refine e_gR (a := 8) (w := 9) 4 (sh_4 hS) hP rfl (by decide) rfl ?_
      refine e_ld hP rfl rfl ?_
      refine e_ld hP rfl rfl ?_
      refine e_call hP rfl rfl rfl (Nat.le_of_ble_eq_true rfl) (Nat.le_of_ble_eq_true rfl) (rcv0 (sh_8 hS) (by decide)) ?_
      refine Ca.mono h (fun r hr => ?_)
      obtain ⟨M2, v3, rfl, h⟩ := hr
      show En 137 24 [some (.inr (.inr 5)), some (.inl x1), some (.inl x2), some (.inl x3), some (.inl (-4 : Int))] [.inl v3, .inl (-4 : Int)] S M2 Q
      refine e_ceq hP rfl (fun hc => ?_) (fun hc => ?_)
      · have h := h.1 hc
        obtain ⟨hs4, h⟩ := h
        refine e_inc (L' := [some (.inr (.inr 5)), some (.inl x1), some (.inl x2), some (.inl (x3 + 1)), some (.inl (-4 : Int))]) hP rfl rfl hs4 rfl ?_
        refine e_go hP rfl ?_
        exact en_fg h ⟨Or.inr rfl, Or.inr rfl, Or.inr rfl, Or.inr rfl, Or.inl rfl, trivial⟩
      · have h := h.2 hc
        obtain ⟨hs5, h⟩ := h
        refine e_inc (L' := [some (.inr (.inr 5)), some (.inl x1), some (.inl (x2 + 1)), some (.inl x3), some (.inl (-4 : Int))]) hP rfl rfl hs5 rfl ?_
        obtain ⟨hs6, h⟩ := h
        refine e_inc (L' := [some (.inr (.inr 5)), some (.inl x1), some (.inl (x2 + 1)), some (.inl (x3 + 1)), some (.inl (-4 : Int))]) hP rfl rfl hs6 rfl ?_
        refine e_go hP rfl ?_
        exact en_fg h ⟨Or.inr rfl, Or.inr rfl, Or.inr rfl, Or.inr rfl, Or.inl rfl, trivial⟩
    · have h := h.2 hc
      refine e_ld hP rfl rfl ?_
      refine e_gR (a := 8) (w := 172) 4 (sh_4 hS) hP rfl (by decide) rfl ?_
      refine e_ld hP rfl rfl ?_
      obtain ⟨hs7, h⟩ := h
      refine e_al 171 (sh_171 hS) hP rfl hs7 ?_
      refine e_go hP rfl ?_
      refine e_st (L' := [some (.inr (.inr 5)), some (.inl x1), some (.inl x2), some (.inl x3), some (.inl (M 171 x3.toNat))]) hP rfl rfl ?_
      refine e_ld hP rfl rfl ?_
      refine e_ld hP rfl rfl ?_
      refine e_gR (a := 8) (w := 9) 4 (sh_4 hS) hP rfl (by decide) rfl ?_
      refine e_ld hP rfl rfl ?_
      refine e_ld hP rfl rfl ?_
      refine e_call hP rfl rfl rfl (Nat.le_of_ble_eq_true rfl) (Nat.le_of_ble_eq_true rfl) (rcv0 (sh_8 hS) (by decide)) ?_
      refine Ca.mono h (fun r hr => ?_)
      obtain ⟨M8, v9, rfl, h⟩ := hr
      show En 137 24 [some (.inr (.inr 5)), some (.inl x1), some (.inl x2), some (.inl x3), some (.inl (M 171 x3.toNat))] [.inl v9, .inl (M 171 x3.toNat)] S M8 Q
      refine e_ceq hP rfl (fun hc => ?_) (fun hc => ?_)
      · have h := h.1 hc
        obtain ⟨hs10, h⟩ := h
        refine e_inc (L' := [some (.inr (.inr 5)), some (.inl x1), some (.inl x2), some (.inl (x3 + 1)), some (.inl (M 171 x3.toNat))]) hP rfl rfl hs10 rfl ?_
        refine e_go hP rfl ?_
        exact en_fg h ⟨Or.inr rfl, Or.inr rfl, Or.inr rfl, Or.inr rfl, Or.inl rfl, trivial⟩
      · have h := h.2 hc
        obtain ⟨hs11, h⟩ := h
        refine e_inc (L' := [some (.inr (.inr 5)), some (.inl x1), some (.inl (x2 + 1)), some (.inl x3), some (.inl (M 171 x3.toNat))]) hP rfl rfl hs11 rfl ?_
        obtain ⟨hs12, h⟩ := h
        refine e_inc (L' := [some (.inr (.inr 5)), some (.inl x1), some (.inl (x2 + 1)), some (.inl (x3 + 1)), some (.inl (M 171 x3.toNat))]) hP rfl rfl hs12 rfl ?_
        refine e_go hP rfl ?_
        exact en_fg h ⟨Or.inr rfl, Or.inr rfl, Or.inr rfl, Or.inr rfl, Or.inl rfl, trivial⟩
theorem r_X8_firstWithRights_0 {S : Shp} {M : Mem} {Q : Res → Prop} (hS : KC S) {p1 p2 p3 p4 : Int} (h : Ca 136 [.inr (.inr 5)] S M (fun r => ∃ M1 : Mem, r = (S, M1, some (.inr (.inr 145))) ∧ En 138 5 [some (.inr (.inr 5)), some (.inl p1), some (.inl p2), some (.inl p3), some (.inl p4), some (.inl (0 : Int)), none, none, none, none] [] S M1 Q)) : Ca 138 [.inr (.inr 5), .inl p1, .inl p2, .inl p3, .inl p4] S M Q := by
  have hP : PR 138 = (bc_138, 10) := rfl
  refine ⟨Nat.le_of_ble_eq_true rfl, ?_⟩
  show En 138 0 [some (.inr (.inr 5)), some (.inl p1), some (.inl p2), some (.inl p3), some (.inl p4), none, none, none, none, none] [] S M Q
  refine e_ld hP rfl rfl ?_
  refine e_call hP rfl rfl rfl (Nat.le_of_ble_eq_true rfl) (Nat.le_of_ble_eq_true rfl) (rcv0 (sh_4 hS) (by decide)) ?_
  refine Ca.mono h (fun r hr => ?_)
  obtain ⟨M1, rfl, h⟩ := hr
  show En 138 2 [some (.inr (.inr 5)), some (.inl p1), some (.inl p2), some (.inl p3), some (.inl p4), none, none, none, none, none] [.inr (.inr 145)] S M1 Q
  refine e_popR hP rfl ?_
  refine e_c hP rfl ?_
  refine e_st (L' := [some (.inr (.inr 5)), some (.inl p1), some (.inl p2), some (.inl p3), some (.inl p4), some (.inl (0 : Int)), none, none, none, none]) hP rfl rfl ?_
  exact h
theorem r_X8_firstWithRights_5 {S : Shp} {M : Mem} {Q : Res → Prop} (hS : KC S) {x1 x2 x3 x4 x5 : Int} (h : (((26 : Int) ≤ x5 → Q (S, M, some (.inl (-4 : Int)))) ∧ (x5 < (26 : Int) → (0 ≤ x5 ∧ x5 < 26) ∧ (∃ z2 : Int, bi_and x2 (1 : Int) = some z2 ∧ ((z2 = 0 → En 138 23 [some (.inr (.inr 5)), some (.inl x1), some (.inl x2), some (.inl x3), some (.inl x4), some (.inl x5), some (.inl (M 17 x5.toNat)), none, none, none] [] S M Q) ∧ (z2 ≠ 0 → Ca 73 [.inr (.inr 9), .inl (M 17 x5.toNat)] S M (fun r => ∃ (M4 : Mem) (v5 : Int), r = (S, M4, some (.inl v5)) ∧ ((v5 = 0 → En 138 26 [some (.inr (.inr 5)), some (.inl x1), some (.inl x2), some (.inl x3), some (.inl x4), some (.inl x5), some (.inl (M 17 x5.toNat)), none, none, none] [.inl (0 : Int)] S M4 Q) ∧ (v5 ≠ 0 → En 138 23 [some (.inr (.inr 5)), some (.inl x1), some (.inl x2), some (.inl x3), some (.inl x4), some (.inl x5), some (.inl (M 17 x5.toNat)), none, none, none] [] S M4 Q))))))))) : En 138 5 [some (.inr (.inr 5)), some (.inl x1), some (.inl x2), some (.inl x3), some (.inl x4), some (.inl x5), none, none, none, none] [] S M Q := by
  have hP : PR 138 = (bc_138, 10) := rfl
  refine e_ld hP rfl rfl ?_
  refine e_c hP rfl ?_
  refine e_cge hP rfl (fun hc => ?_) (fun hc => ?_)
  · have h := h.1 hc
    refine e_c hP rfl ?_
    exact e_ret hP rfl rfl h
  · have h := h.2 hc
    refine e_ld hP rfl rfl ?_
    refine e_gR (a := 8) (w := 9) 4 (sh_4 hS) hP rfl (by decide) rfl ?_
    refine e_gR (a := 7) (w := 18) 8 (sh_8 hS) hP rfl (by decide) rfl ?_
    refine e_ld hP rfl rfl ?_
    obtain ⟨hs1, h⟩ := h
    refine e_al 17 (sh_17 hS) hP rfl hs1 ?_
    refine e_st (L' := [some (.inr (.inr 5)), some (.inl x1), some (.inl x2), some (.inl x3), some (.inl x4), some (.inl x5), some (.inl (M 17 x5.toNat)), none, none, none]) hP rfl rfl ?_
    refine e_ld hP rfl rfl ?_
    refine e_c hP rfl ?_
    obtain ⟨z2, hs3, h⟩ := h
    refine e_and hP rfl hs3 ?_
    refine e_zeq hP rfl (fun hc => ?_) (fun hc => ?_)
    · have h := h.1 hc
      exact h
    · have h := h.2 hc
      refine e_ld hP rfl rfl ?_
      refine e_gR (a := 8) (w := 9) 4 (sh_4 hS) hP rfl (by decide) rfl ?_
      refine e_ld hP rfl rfl ?_
      refine e_call hP rfl rfl rfl (Nat.le_of_ble_eq_true rfl) (Nat.le_of_ble_eq_true rfl) (rcv0 (sh_8 hS) (by decide)) ?_
      refine Ca.mono h (fun r hr => ?_)
      obtain ⟨M4, v5, rfl, h⟩ := hr
      show En 138 22 [some (.inr (.inr 5)), some (.inl x1), some (.inl x2), some (.inl x3), some (.inl x4), some (.inl x5), some (.inl (M 17 x5.toNat)), none, none, none] [.inl v5] S M4 Q
      refine e_zeq hP rfl (fun hc => ?_) (fun hc => ?_)
      · have h := h.1 hc
        refine e_c hP rfl ?_
        exact h
      · have h := h.2 hc
        exact h
theorem r_X8_firstWithRights_23 {S : Shp} {M : Mem} {Q : Res → Prop} (hS : KC S) {x1 x2 x3 x4 x5 x6 : Int} (h : En 138 26 [some (.inr (.inr 5)), some (.inl x1), some (.inl x2), some (.inl x3), some (.inl x4), some (.inl x5), some (.inl x6), none, none, none] [.inl (1 : Int)] S M Q) : En 138 23 [some (.inr (.inr 5)), some (.inl x1), some (.inl x2), some (.inl x3), some (.inl x4), some (.inl x5), some (.inl x6), none, none, none] [] S M Q := by
  have hP : PR 138 = (bc_138, 10) := rfl
  refine e_c hP rfl ?_
  refine e_go hP rfl ?_
  exact h
theorem r_X8_firstWithRights_26 {S : Shp} {M : Mem} {Q : Res → Prop} (hS : KC S) {x1 x2 x3 x4 x5 x6 s0 : Int} (h : (∃ z1 : Int, bi_and x2 (2 : Int) = some z1 ∧ ((z1 = 0 → En 138 44 [some (.inr (.inr 5)), some (.inl x1), some (.inl x2), some (.inl x3), some (.inl x4), some (.inl x5), some (.inl x6), some (.inl s0), none, none] [] S M Q) ∧ (z1 ≠ 0 → ((x1 = x3 → En 138 46 [some (.inr (.inr 5)), some (.inl x1), some (.inl x2), some (.inl x3), some (.inl x4), some (.inl x5), some (.inl x6), some (.inl s0), none, none] [] S M Q) ∧ (x1 ≠ x3 → Ca 80 [.inr (.inr 9), .inl x6] S M (fun r => ∃ (M3 : Mem) (v4 : Int), r = (S, M3, some (.inl v4)) ∧ Ca 15 [.inr (.inr 145), .inl x3, .inl x1, .inl v4] S M3 (fun r => ∃ (M5 : Mem) (v6 : Int), r = (S, M5, some (.inl v6)) ∧ ((v6 = 0 → En 138 46 [some (.inr (.inr 5)), some (.inl x1), some (.inl x2), some (.inl x3), some (.inl x4), some (.inl x5), some (.inl x6), some (.inl s0), none, none] [] S M5 Q) ∧ (v6 ≠ 0 → En 138 44 [some (.inr (.inr 5)), some (.inl x1), some (.inl x2), some (.inl x3), some (.inl x4), some (.inl x5), some (.inl x6), some (.inl s0), none, none] [] S M5 Q)))))))))) : En 138 26 [some (.inr (.inr 5)), some (.inl x1), some (.inl x2), some (.inl x3), some (.inl x4), some (.inl x5), some (.inl x6), none, none, none] [.inl s0] S M Q := by
  have hP : PR 138 = (bc_138, 10) := rfl
  refine e_st (L' := [some (.inr (.inr 5)), some (.inl x1), some (.inl x2), some (.inl x3), some (.inl x4), some (.inl x5), some (.inl x6), some (.inl s0), none, none]) hP rfl rfl ?_
  refine e_ld hP rfl rfl ?_
  refine e_c hP rfl ?_
  obtain ⟨z1, hs2, h⟩ := h
  refine e_and hP rfl hs2 ?_
  refine e_zeq hP rfl (fun hc => ?_) (fun hc => ?_)
  · have h := h.1 hc
    exact h
  · have h := h.2 hc
    refine e_ld hP rfl rfl ?_
    refine e_ld hP rfl rfl ?_
    refine e_ceq hP rfl (fun hc => ?_) (fun hc => ?_)
    · have h := h.1 hc
      exact h
    · have h := h.2 hc
      refine e_ld hP rfl rfl ?_
      refine e_gR (a := 8) (w := 145) 4 (sh_4 hS) hP rfl (by decide) rfl ?_
      refine e_ld hP rfl rfl ?_
      refine e_ld hP rfl rfl ?_
      refine e_ld hP rfl rfl ?_
      refine e_gR (a := 8) (w := 9) 4 (sh_4 hS) hP rfl (by decide) rfl ?_
      refine e_ld hP rfl rfl ?_
      refine e_call hP rfl rfl rfl (Nat.le_of_ble_eq_true rfl) (Nat.le_of_ble_eq_true rfl) (rcv0 (sh_8 hS) (by decide)) ?_
      refine Ca.mono h (fun r hr => ?_)
      obtain ⟨M3, v4, rfl, h⟩ := hr
      show En 138 42 [some (.inr (.inr 5)), some (.inl x1), some (.inl x2), some (.inl x3), some (.inl x4), some (.inl x5), some (.inl x6), some (.inl s0), none, none] [.inl v4, .inl x1, .inl x3, .inr (.inr 145)] S M3 Q
      refine e_call hP rfl rfl rfl (Nat.le_of_ble_eq_true rfl) (Nat.le_of_ble_eq_true rfl) (rcv0 (sh_144 hS) (by decide)) ?_
      refine Ca.mono h (fun r hr => ?_)
      obtain ⟨M5, v6, rfl, h⟩ := hr
      show En 138 43 [some (.inr (.inr 5)), some (.inl x1), some (.inl x2), some (.inl x3), some (.inl x4), some (.inl x5), some (.inl x6), some (.inl s0), none, none] [.inl v6] S M5 Q
      refine e_zeq hP rfl (fun hc => ?_) (fun hc => ?_)
      · have h := h.1 hc
        exact h
      · have h := h.2 hc
        exact h
theorem r_X8_firstWithRights_44 {S : Shp} {M : Mem} {Q : Res → Prop} (hS : KC S) {x1 x2 x3 x4 x5 x6 x7 : Int} (h : En 138 47 [some (.inr (.inr 5)), some (.inl x1), some (.inl x2), some (.inl x3), some (.inl x4), some (.inl x5), some (.inl x6), some (.inl x7), none, none] [.inl (1 : Int)] S M Q) : En 138 44 [some (.inr (.inr 5)), some (.inl x1), some (.inl x2), some (.inl x3), some (.inl x4), some (.inl x5), some (.inl x6), some (.inl x7), none, none] [] S M Q := by
  have hP : PR 138 = (bc_138, 10) := rfl
  refine e_c hP rfl ?_
  refine e_go hP rfl ?_
  exact h
theorem r_X8_firstWithRights_46 {S : Shp} {M : Mem} {Q : Res → Prop} (hS : KC S) {x1 x2 x3 x4 x5 x6 x7 : Int} (h : En 138 47 [some (.inr (.inr 5)), some (.inl x1), some (.inl x2), some (.inl x3), some (.inl x4), some (.inl x5), some (.inl x6), some (.inl x7), none, none] [.inl (0 : Int)] S M Q) : En 138 46 [some (.inr (.inr 5)), some (.inl x1), some (.inl x2), some (.inl x3), some (.inl x4), some (.inl x5), some (.inl x6), some (.inl x7), none, none] [] S M Q := by
  have hP : PR 138 = (bc_138, 10) := rfl
  refine e_c hP rfl ?_
  exact h
theorem r_X8_firstWithRights_47 {S : Shp} {M : Mem} {Q : Res → Prop} (hS : KC S) {x1 x2 x3 x4 x5 x6 x7 s0 : Int} (h : (∃ z1 : Int, bi_and x2 (4 : Int) = some z1 ∧ ((z1 = 0 → En 138 64 [some (.inr (.inr 5)), some (.inl x1), some (.inl x2), some (.inl x3), some (.inl x4), some (.inl x5), some (.inl x6), some (.inl x7), some (.inl s0), none] [] S M Q) ∧ (z1 ≠ 0 → Ca 76 [.inr (.inr 9), .inl x4] S M (fun r => ∃ (M3 : Mem) (v4 : Int), r = (S, M3, some (.inl v4)) ∧ Ca 83 [.inr (.inr 9), .inl x6, .inl v4, .inl (M3 8 2)] S M3 (fun r => ∃ (M5 : Mem) (v6 : Int), r = (S, M5, some (.inl v6)) ∧ ((v6 = 0 → En 138 67 [some (.inr (.inr 5)), some (.inl x1), some (.inl x2), some (.inl x3), some (.inl x4), some (.inl x5), some (.inl x6), some (.inl x7), some (.inl s0), none] [.inl (0 : Int)] S M5 Q) ∧ (v6 ≠ 0 → En 138 64 [some (.inr (.inr 5)), some (.inl x1), some (.inl x2), some (.inl x3), some (.inl x4), some (.inl x5), some (.inl x6), some (.inl x7), some (.inl s0), none] [] S M5 Q)))))))) : En 138 47 [some (.inr (.inr 5)), some (.inl x1), some (.inl x2), some (.inl x3), some (.inl x4), some (.inl x5), some (.inl x6), some (.inl x7), none, none] [.inl s0] S M Q := by
  have hP : PR 138 = (bc_138, 10) := rfl
  refine e_st (L' := [some (.inr (.inr 5)), some (.inl x1), some (.inl x2), some (.inl x3), some (.inl x4), some (.inl x5), some (.inl x6), some (.inl x7), some (.inl s0), none]) hP rfl rfl ?_
  refine e_ld hP rfl rfl ?_
  refine e_c hP rfl ?_
  obtain ⟨z1, hs2, h⟩ := h
  refine e_and hP rfl hs2 ?_
  refine e_zeq hP rfl (fun hc => ?_) (fun hc => ?_)
  · have h := h.1 hc
    exact h
  · have h := h.2 hc
    refine e_ld hP rfl rfl ?_
    refine e_gR (a := 8) (w := 9) 4 (sh_4 hS) hP rfl (by decide) rfl ?_
    refine e_ld hP rfl rfl ?_
    refine e_ld hP rfl rfl ?_
    refine e_gR (a := 8) (w := 9) 4 (sh_4 hS) hP rfl (by decide) rfl ?_
    refine e_ld hP rfl rfl ?_
    refine e_call hP rfl rfl rfl (Nat.le_of_ble_eq_true rfl) (Nat.le_of_ble_eq_true rfl) (rcv0 (sh_8 hS) (by decide)) ?_
    refine Ca.mono h (fun r hr => ?_)
    obtain ⟨M3, v4, rfl, h⟩ := hr
    show En 138 59 [some (.inr (.inr 5)), some (.inl x1), some (.inl x2), some (.inl x3), some (.inl x4), some (.inl x5), some (.inl x6), some (.inl x7), some (.inl s0), none] [.inl v4, .inl x6, .inr (.inr 9)] S M3 Q
    refine e_ld hP rfl rfl ?_
    refine e_gR (a := 8) (w := 9) 4 (sh_4 hS) hP rfl (by decide) rfl ?_
    refine e_gI (a := 7) 8 (sh_8 hS) hP rfl (by decide) ?_
    refine e_call hP rfl rfl rfl (Nat.le_of_ble_eq_true rfl) (Nat.le_of_ble_eq_true rfl) (rcv0 (sh_8 hS) (by decide)) ?_
    refine Ca.mono h (fun r hr => ?_)
    obtain ⟨M5, v6, rfl, h⟩ := hr
    show En 138 63 [some (.inr (.inr 5)), some (.inl x1), some (.inl x2), some (.inl x3), some (.inl x4), some (.inl x5), some (.inl x6), some (.inl x7), some (.inl s0), none] [.inl v6] S M5 Q
    refine e_zeq hP rfl (fun hc => ?_) (fun hc => ?_)
    · have h := h.1 hc
      refine e_c hP rfl ?_
      exact h
    · have h := h.2 hc
      exact h
theorem r_X8_firstWithRights_64 {S : Shp} {M : Mem} {Q : Res → Prop} (hS : KC S) {x1 x2 x3 x4 x5 x6 x7 x8 : Int} (h : En 138 67 [some (.inr (.inr 5)), some (.inl x1), some (.inl x2), some (.inl x3), some (.inl x4), some (.inl x5), some (.inl x6), some (.inl x7), some (.inl x8), none] [.inl (1 : Int)] S M Q) : En 138 64 [some (.inr (.inr 5)), some (.inl x1), some (.inl x2), some (.inl x3), some (.inl x4), some (.inl x5), some (.inl x6), some (.inl x7), some (.inl x8), none] [] S M Q := by
  have hP : PR 138 = (bc_138, 10) := rfl
  refine e_c hP rfl ?_
  refine e_go hP rfl ?_
  exact h
theorem r_X8_firstWithRights_67 {S : Shp} {M : Mem} {Q : Res → Prop} (hS : KC S) {x1 x2 x3 x4 x5 x6 x7 x8 s0 : Int} (h : ((x7 = 0 → En 138 76 [some (.inr (.inr 5)), some (.inl x1), some (.inl x2), some (.inl x3), some (.inl x4), some (.inl x5), some (.inl x6), some (.inl x7), some (.inl x8), some (.inl s0)] [] S M Q) ∧ (x7 ≠ 0 → ((x8 = 0 → En 138 76 [some (.inr (.inr 5)), some (.inl x1), some (.inl x2), some (.inl x3), some (.inl x4), some (.inl x5), some (.inl x6), some (.inl x7), some (.inl x8), some (.inl s0)] [] S M Q) ∧ (x8 ≠ 0 → ((s0 = 0 → En 138 76 [some (.inr (.inr 5)), some (.inl x1), some (.inl x2), some (.inl x3), some (.inl x4), some (.inl x5), some (.inl x6), some (.inl x7), some (.inl x8), some (.inl s0)] [] S M Q) ∧ (s0 ≠ 0 → Q (S, M, some (.inl x6))))))))) : En 138 67 [some (.inr (.inr 5)), some (.inl x1), some (.inl x2), some (.inl x3), some (.inl x4), some (.inl x5), some (.inl x6), some (.inl x7), some (.inl x8), none] [.inl s0] S M Q := by
  have hP : PR 138 = (bc_138, 10) := rfl
  refine e_st (L' := [some (.inr (.inr 5)), some (.inl x1), some (.inl x2), some (.inl x3), some (.inl x4), some (.inl x5), some (.inl x6), some (.inl x7), some (.inl x8), some (.inl s0)]) hP rfl rfl ?_
  refine e_ld hP rfl rfl ?_
  refine e_zeq hP rfl (fun hc => ?_) (fun hc => ?_)
  · have h := h.1 hc
    exact h
  · have h := h.2 hc
    refine e_ld hP rfl rfl ?_
    refine e_zeq hP rfl (fun hc => ?_) (fun hc => ?_)
    · have h := h.1 hc
      exact h
    · have h := h.2 hc
      refine e_ld hP rfl rfl ?_
      refine e_zeq hP rfl (fun hc => ?_) (fun hc => ?_)
      · have h := h.1 hc
        exact h
      · have h := h.2 hc
        refine e_ld hP rfl rfl ?_
        exact e_ret hP rfl rfl h
theorem r_X8_firstWithRights_76 {S : Shp} {M : Mem} {Q : Res → Prop} (hS : KC S) {x1 x2 x3 x4 x5 x6 x7 x8 x9 : Int} (h : (inR (x5 + 1)) ∧ En 138 5 [some (.inr (.inr 5)), some (.inl x1), some (.inl x2), some (.inl x3), some (.inl x4), some (.inl (x5 + 1)), none, none, none, none] [] S M Q) : En 138 76 [some (.inr (.inr 5)), some (.inl x1), some (.inl x2), some (.inl x3), some (.inl x4), some (.inl x5), some (.inl x6), some (.inl x7), some (.inl x8), some (.inl x9)] [] S M Q := by
  have hP : PR 138 = (bc_138, 10) := rfl
  obtain ⟨hs1, h⟩ := h
  refine e_inc (L' := [some (.inr (.inr 5)), some (.inl x1), some (.inl x2), some (.inl x3), some (.inl x4), some (.inl (x5 + 1)), some (.inl x6), some (.inl x7), some (.inl x8), some (.inl x9)]) hP rfl rfl hs1 rfl ?_
  refine e_go hP rfl ?_
  exact en_fg h ⟨Or.inr rfl, Or.inr rfl, Or.inr rfl, Or.inr rfl, Or.inr rfl, Or.inr rfl, Or.inl rfl, Or.inl rfl, Or.inl rfl, Or.inl rfl, trivial⟩
