/-! REGIONS of X4: by wip/gen/reggen.py -/
theorem r_X4_isFull_0 {S : Shp} {M : Mem} {Q : Res → Prop} (hS : KC S) {u : Nat} (hu : u = 30 ∨ u = 120) (h : (((M u 1) < (((mm_n u : Nat) : Int)) → Q (S, M, some (.inl (0 : Int)))) ∧ ((((mm_n u : Nat) : Int)) ≤ (M u 1) → Q (S, M, some (.inl (1 : Int)))))) : Ca 32 [.inr (.inr (u + 1))] S M Q := by
  have hP : PR 32 = (bc_32, 1) := rfl
  refine ⟨Nat.le_of_ble_eq_true rfl, ?_⟩
  show En 32 0 [some (.inr (.inr (u + 1)))] [] S M Q
  refine e_ldR hP rfl rfl (nz_q (mm_4 hu 0)) ?_
  refine e_gI (a := 4) u (mm_o u hu hS) hP rfl (by decide) ?_
  refine e_ldR hP rfl rfl (nz_q (mm_4 hu 0)) ?_
  refine e_gR (a := 4) (w := u + 2) u (mm_o u hu hS) hP rfl (by decide) rfl ?_
  refine e_len (u + 1) (mm_a u hu hS) ⟨by decide, Nat.ne_of_gt (mm_4 hu 1)⟩ hP rfl ?_
  refine e_clt hP rfl (fun hc => ?_) (fun hc => ?_)
  · have h := h.1 hc
    refine e_c hP rfl ?_
    exact e_ret hP rfl rfl h
  · have h := h.2 hc
    refine e_c hP rfl ?_
    refine e_go hP rfl ?_
    exact e_ret hP rfl rfl h
theorem r_X4_push_0 {S : Shp} {M : Mem} {Q : Res → Prop} (hS : KC S) {u : Nat} (hu : u = 30 ∨ u = 120) (h : Ca 32 [.inr (.inr (u + 1))] S M (fun r => ∃ (M1 : Mem) (v2 : Int), r = (S, M1, some (.inl v2)) ∧ ((v2 = 0 → (0 ≤ (M1 u 1) ∧ (M1 u 1) < mm_n u) ∧ (∃ t3 : Nat, (M1 (u + 1) (M1 u 1).toNat).toNat = t3 + 1 ∧ t3 ∈ bx_tw ∧ Ca 65 [.inr (.inr (t3 + 1)), .inr (.inr 9)] S M1 (fun r => ∃ M5 : Mem, r = (S, M5, none) ∧ (inR ((M5 u 1) + (1 : Int))) ∧ Q (S, up2 M5 u 1 ((M5 u 1) + (1 : Int)), none)))) ∧ (v2 ≠ 0 → Ca 35 [.inr (.inr (u + 1))] S M1 (fun r => ∃ M7 : Mem, r = (S, M7, none) ∧ (0 ≤ (M7 u 1) ∧ (M7 u 1) < mm_n u) ∧ (∃ t8 : Nat, (M7 (u + 1) (M7 u 1).toNat).toNat = t8 + 1 ∧ t8 ∈ bx_tw ∧ Ca 65 [.inr (.inr (t8 + 1)), .inr (.inr 9)] S M7 (fun r => ∃ M10 : Mem, r = (S, M10, none) ∧ (inR ((M10 u 1) + (1 : Int))) ∧ Q (S, up2 M10 u 1 ((M10 u 1) + (1 : Int)), none)))))))) : Ca 33 [.inr (.inr (u + 1)), .inr (.inr 9)] S M Q := by
  have hP : PR 33 = (bc_33, 2) := rfl
  refine ⟨Nat.le_of_ble_eq_true rfl, ?_⟩
  show En 33 0 [some (.inr (.inr (u + 1))), some (.inr (.inr 9))] [] S M Q
  refine e_ldR hP rfl rfl (nz_q (mm_4 hu 0)) ?_
  refine e_call hP rfl rfl rfl (Nat.le_of_ble_eq_true rfl) (Nat.le_of_ble_eq_true rfl) (rcv0 (mm_o u hu hS) (mm_4 hu 0)) ?_
  refine Ca.mono h (fun r hr => ?_)
  obtain ⟨M1, v2, rfl, h⟩ := hr
  show En 33 2 [some (.inr (.inr (u + 1))), some (.inr (.inr 9))] [.inl v2] S M1 Q
  refine e_zeq hP rfl (fun hc => ?_) (fun hc => ?_)
  · have h := h.1 hc
    refine e_ldR hP rfl rfl (nz_q (mm_4 hu 0)) ?_
    refine e_gR (a := 4) (w := u + 2) u (mm_o u hu hS) hP rfl (by decide) rfl ?_
    refine e_ldR hP rfl rfl (nz_q (mm_4 hu 0)) ?_
    refine e_gI (a := 4) u (mm_o u hu hS) hP rfl (by decide) ?_
    obtain ⟨hs4, t3, hs4_, ht3, h⟩ := h
    refine e_aal (u + 1) (mm_a u hu hS) (mm_4 hu 1) hP rfl hs4 hs4_ ?_
    refine e_ld hP rfl rfl ?_
    refine e_call hP rfl rfl rfl (Nat.le_of_ble_eq_true rfl) (Nat.le_of_ble_eq_true rfl) (rcv0 (tw_o hS ht3) (tw_p ht3 0)) ?_
    refine Ca.mono h (fun r hr => ?_)
    obtain ⟨M5, rfl, h⟩ := hr
    show En 33 12 [some (.inr (.inr (u + 1))), some (.inr (.inr 9))] [] S M5 Q
    refine e_ldR hP rfl rfl (nz_q (mm_4 hu 0)) ?_
    refine e_dupR hP rfl ?_
    refine e_gI (a := 4) u (mm_o u hu hS) hP rfl (by decide) ?_
    refine e_c hP rfl ?_
    obtain ⟨hs6, h⟩ := h
    refine e_add hP rfl hs6 ?_
    refine e_pI (a := 4) u (mm_o u hu hS) (mm_4 hu 0) hP rfl (by decide) ?_
    exact e_retv hP rfl h
  · have h := h.2 hc
    refine e_ldR hP rfl rfl (nz_q (mm_4 hu 0)) ?_
    refine e_call hP rfl rfl rfl (Nat.le_of_ble_eq_true rfl) (Nat.le_of_ble_eq_true rfl) (rcv0 (mm_o u hu hS) (mm_4 hu 0)) ?_
    refine Ca.mono h (fun r hr => ?_)
    obtain ⟨M7, rfl, h⟩ := hr
    show En 33 5 [some (.inr (.inr (u + 1))), some (.inr (.inr 9))] [] S M7 Q
    refine e_ldR hP rfl rfl (nz_q (mm_4 hu 0)) ?_
    refine e_gR (a := 4) (w := u + 2) u (mm_o u hu hS) hP rfl (by decide) rfl ?_
    refine e_ldR hP rfl rfl (nz_q (mm_4 hu 0)) ?_
    refine e_gI (a := 4) u (mm_o u hu hS) hP rfl (by decide) ?_
    obtain ⟨hs9, t8, hs9_, ht8, h⟩ := h
    refine e_aal (u + 1) (mm_a u hu hS) (mm_4 hu 1) hP rfl hs9 hs9_ ?_
    refine e_ld hP rfl rfl ?_
    refine e_call hP rfl rfl rfl (Nat.le_of_ble_eq_true rfl) (Nat.le_of_ble_eq_true rfl) (rcv0 (tw_o hS ht8) (tw_p ht8 0)) ?_
    refine Ca.mono h (fun r hr => ?_)
    obtain ⟨M10, rfl, h⟩ := hr
    show En 33 12 [some (.inr (.inr (u + 1))), some (.inr (.inr 9))] [] S M10 Q
    refine e_ldR hP rfl rfl (nz_q (mm_4 hu 0)) ?_
    refine e_dupR hP rfl ?_
    refine e_gI (a := 4) u (mm_o u hu hS) hP rfl (by decide) ?_
    refine e_c hP rfl ?_
    obtain ⟨hs11, h⟩ := h
    refine e_add hP rfl hs11 ?_
    refine e_pI (a := 4) u (mm_o u hu hS) (mm_4 hu 0) hP rfl (by decide) ?_
    exact e_retv hP rfl h
theorem r_X4_popInto_0 {S : Shp} {M : Mem} {Q : Res → Prop} (hS : KC S) {u : Nat} (hu : u = 30 ∨ u = 120) (h : ((0 < (M u 1) → (inR ((M u 1) - (1 : Int))) ∧ (0 ≤ ((up2 M u 1 ((M u 1) - (1 : Int))) u 1) ∧ ((up2 M u 1 ((M u 1) - (1 : Int))) u 1) < mm_n u) ∧ (∃ t2 : Nat, ((up2 M u 1 ((M u 1) - (1 : Int))) (u + 1) ((up2 M u 1 ((M u 1) - (1 : Int))) u 1).toNat).toNat = t2 + 1 ∧ t2 ∈ bx_tw ∧ Ca 65 [.inr (.inr 9), .inr (.inr (t2 + 1))] S (up2 M u 1 ((M u 1) - (1 : Int))) (fun r => ∃ M4 : Mem, r = (S, M4, none) ∧ Q (S, M4, some (.inl (1 : Int)))))) ∧ ((M u 1) ≤ 0 → Q (S, M, some (.inl (0 : Int)))))) : Ca 34 [.inr (.inr (u + 1)), .inr (.inr 9)] S M Q := by
  have hP : PR 34 = (bc_34, 2) := rfl
  refine ⟨Nat.le_of_ble_eq_true rfl, ?_⟩
  show En 34 0 [some (.inr (.inr (u + 1))), some (.inr (.inr 9))] [] S M Q
  refine e_ldR hP rfl rfl (nz_q (mm_4 hu 0)) ?_
  refine e_gI (a := 4) u (mm_o u hu hS) hP rfl (by decide) ?_
  refine e_zgt hP rfl (fun hc => ?_) (fun hc => ?_)
  · have h := h.1 hc
    refine e_ldR hP rfl rfl (nz_q (mm_4 hu 0)) ?_
    refine e_dupR hP rfl ?_
    refine e_gI (a := 4) u (mm_o u hu hS) hP rfl (by decide) ?_
    refine e_c hP rfl ?_
    obtain ⟨hs1, h⟩ := h
    refine e_sub hP rfl hs1 ?_
    refine e_pI (a := 4) u (mm_o u hu hS) (mm_4 hu 0) hP rfl (by decide) ?_
    refine e_ld hP rfl rfl ?_
    refine e_ldR hP rfl rfl (nz_q (mm_4 hu 0)) ?_
    refine e_gR (a := 4) (w := u + 2) u (mm_o u hu hS) hP rfl (by decide) rfl ?_
    refine e_ldR hP rfl rfl (nz_q (mm_4 hu 0)) ?_
    refine e_gI (a := 4) u (mm_o u hu hS) hP rfl (by decide) ?_
    obtain ⟨hs3, t2, hs3_, ht2, h⟩ := h
    refine e_aal (u + 1) (mm_a u hu hS) (mm_4 hu 1) hP rfl hs3 hs3_ ?_
    refine e_call hP rfl rfl rfl (Nat.le_of_ble_eq_true rfl) (Nat.le_of_ble_eq_true rfl) (rcv0 (sh_8 hS) (by decide)) ?_
    refine Ca.mono h (fun r hr => ?_)
    obtain ⟨M4, rfl, h⟩ := hr
    show En 34 18 [some (.inr (.inr (u + 1))), some (.inr (.inr 9))] [] S M4 Q
    refine e_c hP rfl ?_
    exact e_ret hP rfl rfl h
  · have h := h.2 hc
    refine e_c hP rfl ?_
    exact e_ret hP rfl rfl h
theorem r_X4_dropOldest_0 {S : Shp} {M : Mem} {Q : Res → Prop} (hS : KC S) {u : Nat} (hu : u = 30 ∨ u = 120) (h : (0 ≤ (0 : Int) ∧ (0 : Int) < mm_n u) ∧ (∃ t1 : Nat, (M (u + 1) (0 : Int).toNat).toNat = t1 + 1 ∧ t1 ∈ bx_tw ∧ En 35 7 [some (.inr (.inr (u + 1))), some (.inr (.inr (t1 + 1))), some (.inl (1 : Int))] [] S M Q)) : Ca 35 [.inr (.inr (u + 1))] S M Q := by
  have hP : PR 35 = (bc_35, 3) := rfl
  refine ⟨Nat.le_of_ble_eq_true rfl, ?_⟩
  show En 35 0 [some (.inr (.inr (u + 1))), none, none] [] S M Q
  refine e_ldR hP rfl rfl (nz_q (mm_4 hu 0)) ?_
  refine e_gR (a := 4) (w := u + 2) u (mm_o u hu hS) hP rfl (by decide) rfl ?_
  refine e_c hP rfl ?_
  obtain ⟨hs2, t1, hs2_, ht1, h⟩ := h
  refine e_aal (u + 1) (mm_a u hu hS) (mm_4 hu 1) hP rfl hs2 hs2_ ?_
  refine e_stR (L' := [some (.inr (.inr (u + 1))), some (.inr (.inr (t1 + 1))), none]) hP rfl (nz_q (tw_p ht1 0)) (Nat.le_of_ble_eq_true rfl) rfl ?_
  refine e_c hP rfl ?_
  refine e_st (L' := [some (.inr (.inr (u + 1))), some (.inr (.inr (t1 + 1))), some (.inl (1 : Int))]) hP rfl rfl ?_
  exact h
theorem r_X4_dropOldest_7 {S : Shp} {M : Mem} {Q : Res → Prop} (hS : KC S) {u : Nat} (hu : u = 30 ∨ u = 120) {t1 : Nat} (ht1 : t1 ∈ bx_tw) {x2 : Int} (h : (((((mm_n u : Nat) : Int)) ≤ x2 → (inR ((((mm_n u : Nat) : Int)) - (1 : Int))) ∧ (0 ≤ ((((mm_n u : Nat) : Int)) - (1 : Int)) ∧ ((((mm_n u : Nat) : Int)) - (1 : Int)) < mm_n u) ∧ (inR ((((mm_n u : Nat) : Int)) - (1 : Int))) ∧ Q (S, up2 (up2 M (u + 1) ((((mm_n u : Nat) : Int)) - (1 : Int)).toNat ((t1 + 1 : Nat) : Int)) u 1 ((((mm_n u : Nat) : Int)) - (1 : Int)), none)) ∧ (x2 < (((mm_n u : Nat) : Int)) → (inR (x2 - (1 : Int))) ∧ (0 ≤ x2 ∧ x2 < mm_n u) ∧ (∃ t5 : Nat, (M (u + 1) x2.toNat).toNat = t5 + 1 ∧ t5 ∈ bx_tw ∧ (0 ≤ (x2 - (1 : Int)) ∧ (x2 - (1 : Int)) < mm_n u) ∧ (inR (x2 + 1)) ∧ En 35 7 [some (.inr (.inr (u + 1))), some (.inr (.inr (t1 + 1))), some (.inl (x2 + 1))] [] S (up2 M (u + 1) (x2 - (1 : Int)).toNat ((t5 + 1 : Nat) : Int)) Q)))) : En 35 7 [some (.inr (.inr (u + 1))), some (.inr (.inr (t1 + 1))), some (.inl x2)] [] S M Q := by
  have hP : PR 35 = (bc_35, 3) := rfl
  refine e_ld hP rfl rfl ?_
  refine e_ldR hP rfl rfl (nz_q (mm_4 hu 0)) ?_
  refine e_gR (a := 4) (w := u + 2) u (mm_o u hu hS) hP rfl (by decide) rfl ?_
  refine e_len (u + 1) (mm_a u hu hS) ⟨by decide, Nat.ne_of_gt (mm_4 hu 1)⟩ hP rfl ?_
  refine e_cge hP rfl (fun hc => ?_) (fun hc => ?_)
  · have h := h.1 hc
    refine e_ldR hP rfl rfl (nz_q (mm_4 hu 0)) ?_
    refine e_gR (a := 4) (w := u + 2) u (mm_o u hu hS) hP rfl (by decide) rfl ?_
    refine e_ldR hP rfl rfl (nz_q (mm_4 hu 0)) ?_
    refine e_gR (a := 4) (w := u + 2) u (mm_o u hu hS) hP rfl (by decide) rfl ?_
    refine e_len (u + 1) (mm_a u hu hS) ⟨by decide, Nat.ne_of_gt (mm_4 hu 1)⟩ hP rfl ?_
    refine e_c hP rfl ?_
    obtain ⟨hs1, h⟩ := h
    refine e_sub hP rfl hs1 ?_
    refine e_ldR hP rfl rfl (nz_q (tw_p ht1 0)) ?_
    obtain ⟨hs2, h⟩ := h
    refine e_aas (u + 1) t1 (mm_a u hu hS) (tw_o hS ht1) (mm_4 hu 1) (tw_p ht1 0) hP rfl hs2 ?_
    refine e_ldR hP rfl rfl (nz_q (mm_4 hu 0)) ?_
    refine e_ldR hP rfl rfl (nz_q (mm_4 hu 0)) ?_
    refine e_gR (a := 4) (w := u + 2) u (mm_o u hu hS) hP rfl (by decide) rfl ?_
    refine e_len (u + 1) (mm_a u hu hS) ⟨by decide, Nat.ne_of_gt (mm_4 hu 1)⟩ hP rfl ?_
    refine e_c hP rfl ?_
    obtain ⟨hs3, h⟩ := h
    refine e_sub hP rfl hs3 ?_
    refine e_pI (a := 4) u (mm_o u hu hS) (mm_4 hu 0) hP rfl (by decide) ?_
    exact e_retv hP rfl h
  · have h := h.2 hc
    refine e_ldR hP rfl rfl (nz_q (mm_4 hu 0)) ?_
    refine e_gR (a := 4) (w := u + 2) u (mm_o u hu hS) hP rfl (by decide) rfl ?_
    refine e_ld hP rfl rfl ?_
    refine e_c hP rfl ?_
    obtain ⟨hs4, h⟩ := h
    refine e_sub hP rfl hs4 ?_
    refine e_ldR hP rfl rfl (nz_q (mm_4 hu 0)) ?_
    refine e_gR (a := 4) (w := u + 2) u (mm_o u hu hS) hP rfl (by decide) rfl ?_
    refine e_ld hP rfl rfl ?_
    obtain ⟨hs6, t5, hs6_, ht5, h⟩ := h
    refine e_aal (u + 1) (mm_a u hu hS) (mm_4 hu 1) hP rfl hs6 hs6_ ?_
    obtain ⟨hs7, h⟩ := h
    refine e_aas (u + 1) t5 (mm_a u hu hS) (tw_o hS ht5) (mm_4 hu 1) (tw_p ht5 0) hP rfl hs7 ?_
    obtain ⟨hs8, h⟩ := h
    refine e_inc (L' := [some (.inr (.inr (u + 1))), some (.inr (.inr (t1 + 1))), some (.inl (x2 + 1))]) hP rfl rfl hs8 rfl ?_
    refine e_go hP rfl ?_
    exact h
