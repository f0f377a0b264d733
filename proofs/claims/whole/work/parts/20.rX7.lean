/-! REGIONS of X7: by wip/gen/reggen.py -/
theorem r_X7_clear_0 {S : Shp} {M : Mem} {Q : Res → Prop} (hS : KC S) {t : Nat} (ht : t ∈ bx_tw) (h : En 64 17 [some (.inr (.inr (t + 1))), some (.inl (0 : Int))] [] S (up2 (up2 (up2 (up2 (up2 M t 0 (0 : Int)) t 1 (20 : Int)) t 2 (3 : Int)) t 3 (1 : Int)) t 4 (1065233 : Int)) Q) : Ca 64 [.inr (.inr (t + 1))] S M Q := by
  have hP : PR 64 = (bc_64, 2) := rfl
  refine ⟨Nat.le_of_ble_eq_true rfl, ?_⟩
  show En 64 0 [some (.inr (.inr (t + 1))), none] [] S M Q
  refine e_ldR hP rfl rfl (nz_q (tw_p ht 0)) ?_
  refine e_c hP rfl ?_
  refine e_pI (a := 7) t (tw_o hS ht) (tw_p ht 0) hP rfl (by decide) ?_
  refine e_ldR hP rfl rfl (nz_q (tw_p ht 0)) ?_
  refine e_c hP rfl ?_
  refine e_pI (a := 7) t (tw_o hS ht) (tw_p ht 0) hP rfl (by decide) ?_
  refine e_ldR hP rfl rfl (nz_q (tw_p ht 0)) ?_
  refine e_c hP rfl ?_
  refine e_pI (a := 7) t (tw_o hS ht) (tw_p ht 0) hP rfl (by decide) ?_
  refine e_ldR hP rfl rfl (nz_q (tw_p ht 0)) ?_
  refine e_c hP rfl ?_
  refine e_pI (a := 7) t (tw_o hS ht) (tw_p ht 0) hP rfl (by decide) ?_
  refine e_ldR hP rfl rfl (nz_q (tw_p ht 0)) ?_
  refine e_c hP rfl ?_
  refine e_pI (a := 7) t (tw_o hS ht) (tw_p ht 0) hP rfl (by decide) ?_
  refine e_c hP rfl ?_
  refine e_st (L' := [some (.inr (.inr (t + 1))), some (.inl (0 : Int))]) hP rfl rfl ?_
  exact h
theorem r_X7_clear_17 {S : Shp} {M : Mem} {Q : Res → Prop} (hS : KC S) {t : Nat} (ht : t ∈ bx_tw) {x1 : Int} (h : (((8 : Int) ≤ x1 → En 64 34 [some (.inr (.inr (t + 1))), some (.inl (0 : Int))] [] S M Q) ∧ (x1 < (8 : Int) → (0 ≤ x1 ∧ x1 < 8) ∧ (0 ≤ x1 ∧ x1 < 8) ∧ (inR (x1 + 1)) ∧ En 64 17 [some (.inr (.inr (t + 1))), some (.inl (x1 + 1))] [] S (up2 (up2 M (t + 5) x1.toNat (-4 : Int)) (t + 6) x1.toNat (0 : Int)) Q))) : En 64 17 [some (.inr (.inr (t + 1))), some (.inl x1)] [] S M Q := by
  have hP : PR 64 = (bc_64, 2) := rfl
  refine e_ld hP rfl rfl ?_
  refine e_c hP rfl ?_
  refine e_cge hP rfl (fun hc => ?_) (fun hc => ?_)
  · have h := h.1 hc
    refine e_c hP rfl ?_
    refine e_st (L' := [some (.inr (.inr (t + 1))), some (.inl (0 : Int))]) hP rfl rfl ?_
    exact h
  · have h := h.2 hc
    refine e_ldR hP rfl rfl (nz_q (tw_p ht 0)) ?_
    refine e_gR (a := 7) (w := t + 6) t (tw_o hS ht) hP rfl (by decide) rfl ?_
    refine e_ld hP rfl rfl ?_
    refine e_c hP rfl ?_
    obtain ⟨hs1, h⟩ := h
    refine e_as (t + 5) (tw_a5 hS ht) (tw_p ht 5) hP rfl hs1 ?_
    refine e_ldR hP rfl rfl (nz_q (tw_p ht 0)) ?_
    refine e_gR (a := 7) (w := t + 7) t (tw_o hS ht) hP rfl (by decide) rfl ?_
    refine e_ld hP rfl rfl ?_
    refine e_c hP rfl ?_
    obtain ⟨hs2, h⟩ := h
    refine e_as (t + 6) (tw_a6 hS ht) (tw_p ht 6) hP rfl hs2 ?_
    obtain ⟨hs3, h⟩ := h
    refine e_inc (L' := [some (.inr (.inr (t + 1))), some (.inl (x1 + 1))]) hP rfl rfl hs3 rfl ?_
    refine e_go hP rfl ?_
    exact h
theorem r_X7_clear_34 {S : Shp} {M : Mem} {Q : Res → Prop} (hS : KC S) {t : Nat} (ht : t ∈ bx_tw) {x1 : Int} (h : (((64 : Int) ≤ x1 → En 64 46 [some (.inr (.inr (t + 1))), some (.inl (0 : Int))] [] S M Q) ∧ (x1 < (64 : Int) → (0 ≤ x1 ∧ x1 < 64) ∧ (inR (x1 + 1)) ∧ En 64 34 [some (.inr (.inr (t + 1))), some (.inl (x1 + 1))] [] S (up2 M (t + 7) x1.toNat (0 : Int)) Q))) : En 64 34 [some (.inr (.inr (t + 1))), some (.inl x1)] [] S M Q := by
  have hP : PR 64 = (bc_64, 2) := rfl
  refine e_ld hP rfl rfl ?_
  refine e_c hP rfl ?_
  refine e_cge hP rfl (fun hc => ?_) (fun hc => ?_)
  · have h := h.1 hc
    refine e_c hP rfl ?_
    refine e_st (L' := [some (.inr (.inr (t + 1))), some (.inl (0 : Int))]) hP rfl rfl ?_
    exact h
  · have h := h.2 hc
    refine e_ldR hP rfl rfl (nz_q (tw_p ht 0)) ?_
    refine e_gR (a := 7) (w := t + 8) t (tw_o hS ht) hP rfl (by decide) rfl ?_
    refine e_ld hP rfl rfl ?_
    refine e_c hP rfl ?_
    obtain ⟨hs1, h⟩ := h
    refine e_as (t + 7) (tw_a7 hS ht) (tw_p ht 7) hP rfl hs1 ?_
    obtain ⟨hs2, h⟩ := h
    refine e_inc (L' := [some (.inr (.inr (t + 1))), some (.inl (x1 + 1))]) hP rfl rfl hs2 rfl ?_
    refine e_go hP rfl ?_
    exact h
theorem r_X7_clear_46 {S : Shp} {M : Mem} {Q : Res → Prop} (hS : KC S) {t : Nat} (ht : t ∈ bx_tw) {x1 : Int} (h : (((26 : Int) ≤ x1 → Q (S, M, none)) ∧ (x1 < (26 : Int) → (0 ≤ x1 ∧ x1 < 26) ∧ (0 ≤ x1 ∧ x1 < 26) ∧ (0 ≤ x1 ∧ x1 < 26) ∧ (inR (x1 + 1)) ∧ En 64 46 [some (.inr (.inr (t + 1))), some (.inl (x1 + 1))] [] S (up2 (up2 (up2 M (t + 10) x1.toNat (0 : Int)) (t + 8) x1.toNat x1) (t + 9) x1.toNat x1) Q))) : En 64 46 [some (.inr (.inr (t + 1))), some (.inl x1)] [] S M Q := by
  have hP : PR 64 = (bc_64, 2) := rfl
  refine e_ld hP rfl rfl ?_
  refine e_c hP rfl ?_
  refine e_cge hP rfl (fun hc => ?_) (fun hc => ?_)
  · have h := h.1 hc
    exact e_retv hP rfl h
  · have h := h.2 hc
    refine e_ldR hP rfl rfl (nz_q (tw_p ht 0)) ?_
    refine e_gR (a := 7) (w := t + 11) t (tw_o hS ht) hP rfl (by decide) rfl ?_
    refine e_ld hP rfl rfl ?_
    refine e_c hP rfl ?_
    obtain ⟨hs1, h⟩ := h
    refine e_as (t + 10) (tw_a10 hS ht) (tw_p ht 10) hP rfl hs1 ?_
    refine e_ldR hP rfl rfl (nz_q (tw_p ht 0)) ?_
    refine e_gR (a := 7) (w := t + 9) t (tw_o hS ht) hP rfl (by decide) rfl ?_
    refine e_ld hP rfl rfl ?_
    refine e_ld hP rfl rfl ?_
    obtain ⟨hs2, h⟩ := h
    refine e_as (t + 8) (tw_a8 hS ht) (tw_p ht 8) hP rfl hs2 ?_
    refine e_ldR hP rfl rfl (nz_q (tw_p ht 0)) ?_
    refine e_gR (a := 7) (w := t + 10) t (tw_o hS ht) hP rfl (by decide) rfl ?_
    refine e_ld hP rfl rfl ?_
    refine e_ld hP rfl rfl ?_
    obtain ⟨hs3, h⟩ := h
    refine e_as (t + 9) (tw_a9 hS ht) (tw_p ht 9) hP rfl hs3 ?_
    obtain ⟨hs4, h⟩ := h
    refine e_inc (L' := [some (.inr (.inr (t + 1))), some (.inl (x1 + 1))]) hP rfl rfl hs4 rfl ?_
    refine e_go hP rfl ?_
    exact h
theorem r_X7_copyFrom_0 {S : Shp} {M : Mem} {Q : Res → Prop} (hS : KC S) {t : Nat} (ht : t ∈ bx_tw) {t2 : Nat} (ht2 : t2 ∈ bx_tw) (h : Q (S, bi_cpy (bi_cpy (bi_cpy (bi_cpy (bi_cpy (bi_cpy (bi_cpy (bi_cpy (bi_cpy (bi_cpy (up2 (up2 (up2 (up2 (up2 M t 0 (M t2 0)) t 1 ((up2 M t 0 (M t2 0)) t2 1)) t 2 ((up2 (up2 M t 0 (M t2 0)) t 1 ((up2 M t 0 (M t2 0)) t2 1)) t2 2)) t 3 ((up2 (up2 (up2 M t 0 (M t2 0)) t 1 ((up2 M t 0 (M t2 0)) t2 1)) t 2 ((up2 (up2 M t 0 (M t2 0)) t 1 ((up2 M t 0 (M t2 0)) t2 1)) t2 2)) t2 3)) t 4 ((up2 (up2 (up2 (up2 M t 0 (M t2 0)) t 1 ((up2 M t 0 (M t2 0)) t2 1)) t 2 ((up2 (up2 M t 0 (M t2 0)) t 1 ((up2 M t 0 (M t2 0)) t2 1)) t2 2)) t 3 ((up2 (up2 (up2 M t 0 (M t2 0)) t 1 ((up2 M t 0 (M t2 0)) t2 1)) t 2 ((up2 (up2 M t 0 (M t2 0)) t 1 ((up2 M t 0 (M t2 0)) t2 1)) t2 2)) t2 3)) t2 4)) (t2 + 1) (0 : Int).toNat (t + 1) (0 : Int).toNat (8 : Int).toNat) (t2 + 2) (0 : Int).toNat (t + 2) (0 : Int).toNat (48 : Int).toNat) (t2 + 3) (0 : Int).toNat (t + 3) (0 : Int).toNat (8 : Int).toNat) (t2 + 4) (0 : Int).toNat (t + 4) (0 : Int).toNat (8 : Int).toNat) (t2 + 5) (0 : Int).toNat (t + 5) (0 : Int).toNat (8 : Int).toNat) (t2 + 6) (0 : Int).toNat (t + 6) (0 : Int).toNat (8 : Int).toNat) (t2 + 7) (0 : Int).toNat (t + 7) (0 : Int).toNat (64 : Int).toNat) (t2 + 8) (0 : Int).toNat (t + 8) (0 : Int).toNat (26 : Int).toNat) (t2 + 9) (0 : Int).toNat (t + 9) (0 : Int).toNat (26 : Int).toNat) (t2 + 10) (0 : Int).toNat (t + 10) (0 : Int).toNat (26 : Int).toNat, none)) : Ca 65 [.inr (.inr (t + 1)), .inr (.inr (t2 + 1))] S M Q := by
  have hP : PR 65 = (bc_65, 2) := rfl
  refine ⟨Nat.le_of_ble_eq_true rfl, ?_⟩
  show En 65 0 [some (.inr (.inr (t + 1))), some (.inr (.inr (t2 + 1)))] [] S M Q
  refine e_ldR hP rfl rfl (nz_q (tw_p ht 0)) ?_
  refine e_ldR hP rfl rfl (nz_q (tw_p ht2 0)) ?_
  refine e_gI (a := 7) t2 (tw_o hS ht2) hP rfl (by decide) ?_
  refine e_pI (a := 7) t (tw_o hS ht) (tw_p ht 0) hP rfl (by decide) ?_
  refine e_ldR hP rfl rfl (nz_q (tw_p ht 0)) ?_
  refine e_ldR hP rfl rfl (nz_q (tw_p ht2 0)) ?_
  refine e_gI (a := 7) t2 (tw_o hS ht2) hP rfl (by decide) ?_
  refine e_pI (a := 7) t (tw_o hS ht) (tw_p ht 0) hP rfl (by decide) ?_
  refine e_ldR hP rfl rfl (nz_q (tw_p ht 0)) ?_
  refine e_ldR hP rfl rfl (nz_q (tw_p ht2 0)) ?_
  refine e_gI (a := 7) t2 (tw_o hS ht2) hP rfl (by decide) ?_
  refine e_pI (a := 7) t (tw_o hS ht) (tw_p ht 0) hP rfl (by decide) ?_
  refine e_ldR hP rfl rfl (nz_q (tw_p ht 0)) ?_
  refine e_ldR hP rfl rfl (nz_q (tw_p ht2 0)) ?_
  refine e_gI (a := 7) t2 (tw_o hS ht2) hP rfl (by decide) ?_
  refine e_pI (a := 7) t (tw_o hS ht) (tw_p ht 0) hP rfl (by decide) ?_
  refine e_ldR hP rfl rfl (nz_q (tw_p ht 0)) ?_
  refine e_ldR hP rfl rfl (nz_q (tw_p ht2 0)) ?_
  refine e_gI (a := 7) t2 (tw_o hS ht2) hP rfl (by decide) ?_
  refine e_pI (a := 7) t (tw_o hS ht) (tw_p ht 0) hP rfl (by decide) ?_
  refine e_ldR hP rfl rfl (nz_q (tw_p ht2 0)) ?_
  refine e_gR (a := 7) (w := t2 + 2) t2 (tw_o hS ht2) hP rfl (by decide) rfl ?_
  refine e_c hP rfl ?_
  refine e_ldR hP rfl rfl (nz_q (tw_p ht 0)) ?_
  refine e_gR (a := 7) (w := t + 2) t (tw_o hS ht) hP rfl (by decide) rfl ?_
  refine e_c hP rfl ?_
  refine e_c hP rfl ?_
  refine e_copy (t2 + 1) (t + 1) (tw_a1 hS ht2) (tw_a1 hS ht) hP rfl ⟨by decide, by decide, by decide, by decide, by decide, (tw_p ht2 1), (tw_p ht 1), Nat.le_of_ble_eq_true rfl⟩ ?_
  refine e_ldR hP rfl rfl (nz_q (tw_p ht2 0)) ?_
  refine e_gR (a := 7) (w := t2 + 3) t2 (tw_o hS ht2) hP rfl (by decide) rfl ?_
  refine e_c hP rfl ?_
  refine e_ldR hP rfl rfl (nz_q (tw_p ht 0)) ?_
  refine e_gR (a := 7) (w := t + 3) t (tw_o hS ht) hP rfl (by decide) rfl ?_
  refine e_c hP rfl ?_
  refine e_c hP rfl ?_
  refine e_copy (t2 + 2) (t + 2) (tw_a2 hS ht2) (tw_a2 hS ht) hP rfl ⟨by decide, by decide, by decide, by decide, by decide, (tw_p ht2 2), (tw_p ht 2), Nat.le_of_ble_eq_true rfl⟩ ?_
  refine e_ldR hP rfl rfl (nz_q (tw_p ht2 0)) ?_
  refine e_gR (a := 7) (w := t2 + 4) t2 (tw_o hS ht2) hP rfl (by decide) rfl ?_
  refine e_c hP rfl ?_
  refine e_ldR hP rfl rfl (nz_q (tw_p ht 0)) ?_
  refine e_gR (a := 7) (w := t + 4) t (tw_o hS ht) hP rfl (by decide) rfl ?_
  refine e_c hP rfl ?_
  refine e_c hP rfl ?_
  refine e_copy (t2 + 3) (t + 3) (tw_a3 hS ht2) (tw_a3 hS ht) hP rfl ⟨by decide, by decide, by decide, by decide, by decide, (tw_p ht2 3), (tw_p ht 3), Nat.le_of_ble_eq_true rfl⟩ ?_
  refine e_ldR hP rfl rfl (nz_q (tw_p ht2 0)) ?_
  refine e_gR (a := 7) (w := t2 + 5) t2 (tw_o hS ht2) hP rfl (by decide) rfl ?_
  refine e_c hP rfl ?_
  refine e_ldR hP rfl rfl (nz_q (tw_p ht 0)) ?_
  refine e_gR (a := 7) (w := t + 5) t (tw_o hS ht) hP rfl (by decide) rfl ?_
  refine e_c hP rfl ?_
  refine e_c hP rfl ?_
  refine e_copy (t2 + 4) (t + 4) (tw_a4 hS ht2) (tw_a4 hS ht) hP rfl ⟨by decide, by decide, by decide, by decide, by decide, (tw_p ht2 4), (tw_p ht 4), Nat.le_of_ble_eq_true rfl⟩ ?_
  refine e_ldR hP rfl rfl (nz_q (tw_p ht2 0)) ?_
  refine e_gR (a := 7) (w := t2 + 6) t2 (tw_o hS ht2) hP rfl (by decide) rfl ?_
  refine e_c hP rfl ?_
  refine e_ldR hP rfl rfl (nz_q (tw_p ht 0)) ?_
  refine e_gR (a := 7) (w := t + 6) t (tw_o hS ht) hP rfl (by decide) rfl ?_
  refine e_c hP rfl ?_
  refine e_c hP rfl ?_
  refine e_copy (t2 + 5) (t + 5) (tw_a5 hS ht2) (tw_a5 hS ht) hP rfl ⟨by decide, by decide, by decide, by decide, by decide, (tw_p ht2 5), (tw_p ht 5), Nat.le_of_ble_eq_true rfl⟩ ?_
  refine e_ldR hP rfl rfl (nz_q (tw_p ht2 0)) ?_
  refine e_gR (a := 7) (w := t2 + 7) t2 (tw_o hS ht2) hP rfl (by decide) rfl ?_
  refine e_c hP rfl ?_
  refine e_ldR hP rfl rfl (nz_q (tw_p ht 0)) ?_
  refine e_gR (a := 7) (w := t + 7) t (tw_o hS ht) hP rfl (by decide) rfl ?_
  refine e_c hP rfl ?_
  refine e_c hP rfl ?_
  refine e_copy (t2 + 6) (t + 6) (tw_a6 hS ht2) (tw_a6 hS ht) hP rfl ⟨by decide, by decide, by decide, by decide, by decide, (tw_p ht2 6), (tw_p ht 6), Nat.le_of_ble_eq_true rfl⟩ ?_
  refine e_ldR hP rfl rfl (nz_q (tw_p ht2 0)) ?_
  refine e_gR (a := 7) (w := t2 + 8) t2 (tw_o hS ht2) hP rfl (by decide) rfl ?_
  refine e_c hP rfl ?_
  refine e_ldR hP rfl rfl (nz_q (tw_p ht 0)) ?_
  refine e_gR (a := 7) (w := t + 8) t (tw_o hS ht) hP rfl (by decide) rfl ?_
  refine e_c hP rfl ?_
  refine e_c hP rfl ?_
  refine e_copy (t2 + 7) (t + 7) (tw_a7 hS ht2) (tw_a7 hS ht) hP rfl ⟨by decide, by decide, by decide, by decide, by decide, (tw_p ht2 7), (tw_p ht 7), Nat.le_of_ble_eq_true rfl⟩ ?_
  refine e_ldR hP rfl rfl (nz_q (tw_p ht2 0)) ?_
  refine e_gR (a := 7) (w := t2 + 9) t2 (tw_o hS ht2) hP rfl (by decide) rfl ?_
  refine e_c hP rfl ?_
  refine e_ldR hP rfl rfl (nz_q (tw_p ht 0)) ?_
  refine e_gR (a := 7) (w := t + 9) t (tw_o hS ht) hP rfl (by decide) rfl ?_
  refine e_c hP rfl ?_
  refine e_c hP rfl ?_
  refine e_copy (t2 + 8) (t + 8) (tw_a8 hS ht2) (tw_a8 hS ht) hP rfl ⟨by decide, by decide, by decide, by decide, by decide, (tw_p ht2 8), (tw_p ht 8), Nat.le_of_ble_eq_true rfl⟩ ?_
  refine e_ldR hP rfl rfl (nz_q (tw_p ht2 0)) ?_
  refine e_gR (a := 7) (w := t2 + 10) t2 (tw_o hS ht2) hP rfl (by decide) rfl ?_
  refine e_c hP rfl ?_
  refine e_ldR hP rfl rfl (nz_q (tw_p ht 0)) ?_
  refine e_gR (a := 7) (w := t + 10) t (tw_o hS ht) hP rfl (by decide) rfl ?_
  refine e_c hP rfl ?_
  refine e_c hP rfl ?_
  refine e_copy (t2 + 9) (t + 9) (tw_a9 hS ht2) (tw_a9 hS ht) hP rfl ⟨by decide, by decide, by decide, by decide, by decide, (tw_p ht2 9), (tw_p ht 9), Nat.le_of_ble_eq_true rfl⟩ ?_
  refine e_ldR hP rfl rfl (nz_q (tw_p ht2 0)) ?_
  refine e_gR (a := 7) (w := t2 + 11) t2 (tw_o hS ht2) hP rfl (by decide) rfl ?_
  refine e_c hP rfl ?_
  refine e_ldR hP rfl rfl (nz_q (tw_p ht 0)) ?_
  refine e_gR (a := 7) (w := t + 11) t (tw_o hS ht) hP rfl (by decide) rfl ?_
  refine e_c hP rfl ?_
  refine e_c hP rfl ?_
  refine e_copy (t2 + 10) (t + 10) (tw_a10 hS ht2) (tw_a10 hS ht) hP rfl ⟨by decide, by decide, by decide, by decide, by decide, (tw_p ht2 10), (tw_p ht 10), Nat.le_of_ble_eq_true rfl⟩ ?_
  exact e_retv hP rfl h
theorem r_X7_settle_0 {S : Shp} {M : Mem} {Q : Res → Prop} (hS : KC S) {t : Nat} (ht : t ∈ bx_tw) {p2 p3 p4 : Int} (h : (((M t 0) < (8 : Int) → Ca 67 [.inr (.inr (t + 1)), .inl (M t 0), .inr (.inr 8), .inl p2] S M (fun r => ∃ M1 : Mem, r = (S, M1, none) ∧ (0 ≤ (M1 t 0) ∧ (M1 t 0) < 8) ∧ (0 ≤ ((up2 M1 (t + 3) (M1 t 0).toNat p3) t 0) ∧ ((up2 M1 (t + 3) (M1 t 0).toNat p3) t 0) < 8) ∧ (inR (((up2 (up2 M1 (t + 3) (M1 t 0).toNat p3) (t + 4) ((up2 M1 (t + 3) (M1 t 0).toNat p3) t 0).toNat p4) t 0) + (1 : Int))) ∧ Q (S, up2 (up2 (up2 M1 (t + 3) (M1 t 0).toNat p3) (t + 4) ((up2 M1 (t + 3) (M1 t 0).toNat p3) t 0).toNat p4) t 0 (((up2 (up2 M1 (t + 3) (M1 t 0).toNat p3) (t + 4) ((up2 M1 (t + 3) (M1 t 0).toNat p3) t 0).toNat p4) t 0) + (1 : Int)), some (.inl (1 : Int))))) ∧ ((8 : Int) ≤ (M t 0) → Q (S, M, some (.inl (0 : Int)))))) : Ca 66 [.inr (.inr (t + 1)), .inr (.inr 8), .inl p2, .inl p3, .inl p4] S M Q := by
  have hP : PR 66 = (bc_66, 5) := rfl
  refine ⟨Nat.le_of_ble_eq_true rfl, ?_⟩
  show En 66 0 [some (.inr (.inr (t + 1))), some (.inr (.inr 8)), some (.inl p2), some (.inl p3), some (.inl p4)] [] S M Q
  refine e_ldR hP rfl rfl (nz_q (tw_p ht 0)) ?_
  refine e_gI (a := 7) t (tw_o hS ht) hP rfl (by decide) ?_
  refine e_c hP rfl ?_
  refine e_clt hP rfl (fun hc => ?_) (fun hc => ?_)
  · have h := h.1 hc
    refine e_ldR hP rfl rfl (nz_q (tw_p ht 0)) ?_
    refine e_ldR hP rfl rfl (nz_q (tw_p ht 0)) ?_
    refine e_gI (a := 7) t (tw_o hS ht) hP rfl (by decide) ?_
    refine e_ld hP rfl rfl ?_
    refine e_ld hP rfl rfl ?_
    refine e_call hP rfl rfl rfl (Nat.le_of_ble_eq_true rfl) (Nat.le_of_ble_eq_true rfl) (rcv0 (tw_o hS ht) (tw_p ht 0)) ?_
    refine Ca.mono h (fun r hr => ?_)
    obtain ⟨M1, rfl, h⟩ := hr
    show En 66 12 [some (.inr (.inr (t + 1))), some (.inr (.inr 8)), some (.inl p2), some (.inl p3), some (.inl p4)] [] S M1 Q
    refine e_ldR hP rfl rfl (nz_q (tw_p ht 0)) ?_
    refine e_gR (a := 7) (w := t + 4) t (tw_o hS ht) hP rfl (by decide) rfl ?_
    refine e_ldR hP rfl rfl (nz_q (tw_p ht 0)) ?_
    refine e_gI (a := 7) t (tw_o hS ht) hP rfl (by decide) ?_
    refine e_ld hP rfl rfl ?_
    obtain ⟨hs2, h⟩ := h
    refine e_as (t + 3) (tw_a3 hS ht) (tw_p ht 3) hP rfl hs2 ?_
    refine e_ldR hP rfl rfl (nz_q (tw_p ht 0)) ?_
    refine e_gR (a := 7) (w := t + 5) t (tw_o hS ht) hP rfl (by decide) rfl ?_
    refine e_ldR hP rfl rfl (nz_q (tw_p ht 0)) ?_
    refine e_gI (a := 7) t (tw_o hS ht) hP rfl (by decide) ?_
    refine e_ld hP rfl rfl ?_
    obtain ⟨hs3, h⟩ := h
    refine e_as (t + 4) (tw_a4 hS ht) (tw_p ht 4) hP rfl hs3 ?_
    refine e_ldR hP rfl rfl (nz_q (tw_p ht 0)) ?_
    refine e_dupR hP rfl ?_
    refine e_gI (a := 7) t (tw_o hS ht) hP rfl (by decide) ?_
    refine e_c hP rfl ?_
    obtain ⟨hs4, h⟩ := h
    refine e_add hP rfl hs4 ?_
    refine e_pI (a := 7) t (tw_o hS ht) (tw_p ht 0) hP rfl (by decide) ?_
    refine e_c hP rfl ?_
    exact e_ret hP rfl rfl h
  · have h := h.2 hc
    refine e_c hP rfl ?_
    exact e_ret hP rfl rfl h
theorem r_X7_giveName_0 {S : Shp} {M : Mem} {Q : Res → Prop} (hS : KC S) {t : Nat} (ht : t ∈ bx_tw) {w : Nat} (hw : S[w]? = some (0, 6, [])) (h4w : 4 ≤ w) {p1 p3 : Int} (h : (0 ≤ p1 ∧ p1 < 8) ∧ En 67 7 [some (.inr (.inr (t + 1))), some (.inl p1), some (.inr (.inr (w + 1))), some (.inl p3), some (.inl (0 : Int))] [] S (up2 M (t + 1) p1.toNat p3) Q) : Ca 67 [.inr (.inr (t + 1)), .inl p1, .inr (.inr (w + 1)), .inl p3] S M Q := by
  have hP : PR 67 = (bc_67, 5) := rfl
  refine ⟨Nat.le_of_ble_eq_true rfl, ?_⟩
  show En 67 0 [some (.inr (.inr (t + 1))), some (.inl p1), some (.inr (.inr (w + 1))), some (.inl p3), none] [] S M Q
  refine e_ldR hP rfl rfl (nz_q (tw_p ht 0)) ?_
  refine e_gR (a := 7) (w := t + 2) t (tw_o hS ht) hP rfl (by decide) rfl ?_
  refine e_ld hP rfl rfl ?_
  refine e_ld hP rfl rfl ?_
  obtain ⟨hs1, h⟩ := h
  refine e_as (t + 1) (tw_a1 hS ht) (tw_p ht 1) hP rfl hs1 ?_
  refine e_c hP rfl ?_
  refine e_st (L' := [some (.inr (.inr (t + 1))), some (.inl p1), some (.inr (.inr (w + 1))), some (.inl p3), some (.inl (0 : Int))]) hP rfl rfl ?_
  exact h
theorem r_X7_giveName_7 {S : Shp} {M : Mem} {Q : Res → Prop} (hS : KC S) {t : Nat} (ht : t ∈ bx_tw) {w : Nat} (hw : S[w]? = some (0, 6, [])) (h4w : 4 ≤ w) {x1 x3 x4 : Int} (h : ((x3 ≤ x4 → Q (S, M, none)) ∧ (x4 < x3 → (((6 : Int) ≤ x4 → Q (S, M, none)) ∧ (x4 < (6 : Int) → (inR (x1 * (6 : Int))) ∧ (inR ((x1 * (6 : Int)) + x4)) ∧ (0 ≤ x4 ∧ x4 < 6) ∧ (0 ≤ ((x1 * (6 : Int)) + x4) ∧ ((x1 * (6 : Int)) + x4) < 48) ∧ (inR (x4 + 1)) ∧ En 67 7 [some (.inr (.inr (t + 1))), some (.inl x1), some (.inr (.inr (w + 1))), some (.inl x3), some (.inl (x4 + 1))] [] S (up2 M (t + 2) ((x1 * (6 : Int)) + x4).toNat (M w x4.toNat)) Q))))) : En 67 7 [some (.inr (.inr (t + 1))), some (.inl x1), some (.inr (.inr (w + 1))), some (.inl x3), some (.inl x4)] [] S M Q := by
  have hP : PR 67 = (bc_67, 5) := rfl
  refine e_ld hP rfl rfl ?_
  refine e_ld hP rfl rfl ?_
  refine e_cge hP rfl (fun hc => ?_) (fun hc => ?_)
  · have h := h.1 hc
    exact e_retv hP rfl h
  · have h := h.2 hc
    refine e_ld hP rfl rfl ?_
    refine e_c hP rfl ?_
    refine e_cge hP rfl (fun hc => ?_) (fun hc => ?_)
    · have h := h.1 hc
      exact e_retv hP rfl h
    · have h := h.2 hc
      refine e_ldR hP rfl rfl (nz_q (tw_p ht 0)) ?_
      refine e_gR (a := 7) (w := t + 3) t (tw_o hS ht) hP rfl (by decide) rfl ?_
      refine e_ld hP rfl rfl ?_
      refine e_c hP rfl ?_
      obtain ⟨hs1, h⟩ := h
      refine e_mul hP rfl hs1 ?_
      refine e_ld hP rfl rfl ?_
      obtain ⟨hs2, h⟩ := h
      refine e_add hP rfl hs2 ?_
      refine e_ldR hP rfl rfl (nz_q h4w) ?_
      refine e_ld hP rfl rfl ?_
      obtain ⟨hs3, h⟩ := h
      refine e_al w hw hP rfl hs3 ?_
      obtain ⟨hs4, h⟩ := h
      refine e_as (t + 2) (tw_a2 hS ht) (tw_p ht 2) hP rfl hs4 ?_
      obtain ⟨hs5, h⟩ := h
      refine e_inc (L' := [some (.inr (.inr (t + 1))), some (.inl x1), some (.inr (.inr (w + 1))), some (.inl x3), some (.inl (x4 + 1))]) hP rfl rfl hs5 rfl ?_
      refine e_go hP rfl ?_
      exact h
theorem r_X7_putFirst_0 {S : Shp} {M : Mem} {Q : Res → Prop} (hS : KC S) {t : Nat} (ht : t ∈ bx_tw) {p2 : Int} (h : En 68 4 [some (.inr (.inr (t + 1))), some (.inr (.inr 8)), some (.inl p2), some (.inl (0 : Int)), some (.inl (0 : Int)), none] [] S M Q) : Ca 68 [.inr (.inr (t + 1)), .inr (.inr 8), .inl p2] S M Q := by
  have hP : PR 68 = (bc_68, 6) := rfl
  refine ⟨Nat.le_of_ble_eq_true rfl, ?_⟩
  show En 68 0 [some (.inr (.inr (t + 1))), some (.inr (.inr 8)), some (.inl p2), none, none, none] [] S M Q
  refine e_c hP rfl ?_
  refine e_st (L' := [some (.inr (.inr (t + 1))), some (.inr (.inr 8)), some (.inl p2), some (.inl (0 : Int)), none, none]) hP rfl rfl ?_
  refine e_c hP rfl ?_
  refine e_st (L' := [some (.inr (.inr (t + 1))), some (.inr (.inr 8)), some (.inl p2), some (.inl (0 : Int)), some (.inl (0 : Int)), none]) hP rfl rfl ?_
  exact h
theorem r_X7_putFirst_4 {S : Shp} {M : Mem} {Q : Res → Prop} (hS : KC S) {t : Nat} (ht : t ∈ bx_tw) {x2 x3 x4 : Int} (h : ((x2 ≤ x4 → En 68 27 [some (.inr (.inr (t + 1))), some (.inr (.inr 8)), some (.inl x2), some (.inl x3), some (.inl x2), some (.inl (0 : Int))] [] S M Q) ∧ (x4 < x2 → (0 ≤ x4 ∧ x4 < 6) ∧ Ca 69 [.inr (.inr (t + 1)), .inl (M 7 x4.toNat), .inl x4] S M (fun r => ∃ M2 : Mem, r = (S, M2, none) ∧ (0 ≤ x4 ∧ x4 < 6) ∧ (0 ≤ (1 : Int) ∧ 0 ≤ (M2 7 x4.toNat) ∧ (M2 7 x4.toNat) < 32 ∧ inR ((1 : Int) * 2 ^ (M2 7 x4.toNat).toNat)) ∧ (0 ≤ x3 ∧ 0 ≤ ((1 : Int) * 2 ^ (M2 7 x4.toNat).toNat)) ∧ (inR (x4 + 1)) ∧ En 68 4 [some (.inr (.inr (t + 1))), some (.inr (.inr 8)), some (.inl x2), some (.inl (((x3.toNat ||| ((1 : Int) * 2 ^ (M2 7 x4.toNat).toNat).toNat : Nat) : Int))), some (.inl (x4 + 1)), none] [] S M2 Q)))) : En 68 4 [some (.inr (.inr (t + 1))), some (.inr (.inr 8)), some (.inl x2), some (.inl x3), some (.inl x4), none] [] S M Q := by
  have hP : PR 68 = (bc_68, 6) := rfl
  refine e_ld hP rfl rfl ?_
  refine e_ld hP rfl rfl ?_
  refine e_cge hP rfl (fun hc => ?_) (fun hc => ?_)
  · have h := h.1 hc
    refine e_ld hP rfl rfl ?_
    refine e_st (L' := [some (.inr (.inr (t + 1))), some (.inr (.inr 8)), some (.inl x2), some (.inl x3), some (.inl x2), none]) hP rfl rfl ?_
    refine e_c hP rfl ?_
    refine e_st (L' := [some (.inr (.inr (t + 1))), some (.inr (.inr 8)), some (.inl x2), some (.inl x3), some (.inl x2), some (.inl (0 : Int))]) hP rfl rfl ?_
    exact h
  · have h := h.2 hc
    refine e_ldR hP rfl rfl (nz_q (tw_p ht 0)) ?_
    refine e_ld hP rfl rfl ?_
    refine e_ld hP rfl rfl ?_
    obtain ⟨hs1, h⟩ := h
    refine e_al 7 (sh_7 hS) hP rfl hs1 ?_
    refine e_ld hP rfl rfl ?_
    refine e_call hP rfl rfl rfl (Nat.le_of_ble_eq_true rfl) (Nat.le_of_ble_eq_true rfl) (rcv0 (tw_o hS ht) (tw_p ht 0)) ?_
    refine Ca.mono h (fun r hr => ?_)
    obtain ⟨M2, rfl, h⟩ := hr
    show En 68 13 [some (.inr (.inr (t + 1))), some (.inr (.inr 8)), some (.inl x2), some (.inl x3), some (.inl x4), none] [] S M2 Q
    refine e_ld hP rfl rfl ?_
    refine e_c hP rfl ?_
    refine e_ld hP rfl rfl ?_
    refine e_ld hP rfl rfl ?_
    obtain ⟨hs3, h⟩ := h
    refine e_al 7 (sh_7 hS) hP rfl hs3 ?_
    obtain ⟨hs4, h⟩ := h
    refine e_shl hP rfl hs4 ?_
    obtain ⟨hs5, h⟩ := h
    refine e_or hP rfl hs5 ?_
    refine e_st (L' := [some (.inr (.inr (t + 1))), some (.inr (.inr 8)), some (.inl x2), some (.inl (((x3.toNat ||| ((1 : Int) * 2 ^ (M2 7 x4.toNat).toNat).toNat : Nat) : Int))), some (.inl x4), none]) hP rfl rfl ?_
    obtain ⟨hs6, h⟩ := h
    refine e_inc (L' := [some (.inr (.inr (t + 1))), some (.inr (.inr 8)), some (.inl x2), some (.inl (((x3.toNat ||| ((1 : Int) * 2 ^ (M2 7 x4.toNat).toNat).toNat : Nat) : Int))), some (.inl (x4 + 1)), none]) hP rfl rfl hs6 rfl ?_
    refine e_go hP rfl ?_
    exact h
theorem r_X7_putFirst_27 {S : Shp} {M : Mem} {Q : Res → Prop} (hS : KC S) {t : Nat} (ht : t ∈ bx_tw) {x2 x3 x4 x5 : Int} (h : (((26 : Int) ≤ x5 → Q (S, M, none)) ∧ (x5 < (26 : Int) → (((26 : Int) ≤ x4 → Q (S, M, none)) ∧ (x4 < (26 : Int) → Ca 135 [.inl x3, .inl x5] S M (fun r => ∃ (M1 : Mem) (v2 : Int), r = (S, M1, some (.inl v2)) ∧ ((v2 ≠ 0 → (inR (x5 + 1)) ∧ En 68 27 [some (.inr (.inr (t + 1))), some (.inr (.inr 8)), some (.inl x2), some (.inl x3), some (.inl x4), some (.inl (x5 + 1))] [] S M1 Q) ∧ (v2 = 0 → Ca 69 [.inr (.inr (t + 1)), .inl x5, .inl x4] S M1 (fun r => ∃ M4 : Mem, r = (S, M4, none) ∧ (inR (x4 + 1)) ∧ (inR (x5 + 1)) ∧ En 68 27 [some (.inr (.inr (t + 1))), some (.inr (.inr 8)), some (.inl x2), some (.inl x3), some (.inl (x4 + 1)), some (.inl (x5 + 1))] [] S M4 Q))))))))) : En 68 27 [some (.inr (.inr (t + 1))), some (.inr (.inr 8)), some (.inl x2), some (.inl x3), some (.inl x4), some (.inl x5)] [] S M Q := by
  have hP : PR 68 = (bc_68, 6) := rfl
  refine e_ld hP rfl rfl ?_
  refine e_c hP rfl ?_
  refine e_cge hP rfl (fun hc => ?_) (fun hc => ?_)
  · have h := h.1 hc
    exact e_retv hP rfl h
  · have h := h.2 hc
    refine e_ld hP rfl rfl ?_
    refine e_c hP rfl ?_
    refine e_cge hP rfl (fun hc => ?_) (fun hc => ?_)
    · have h := h.1 hc
      exact e_retv hP rfl h
    · have h := h.2 hc
      refine e_ld hP rfl rfl ?_
      refine e_ld hP rfl rfl ?_
      refine e_call hP rfl rfl rfl (Nat.le_of_ble_eq_true rfl) (Nat.le_of_ble_eq_true rfl) rcv1 ?_
      refine Ca.mono h (fun r hr => ?_)
      obtain ⟨M1, v2, rfl, h⟩ := hr
      show En 68 36 [some (.inr (.inr (t + 1))), some (.inr (.inr 8)), some (.inl x2), some (.inl x3), some (.inl x4), some (.inl x5)] [.inl v2] S M1 Q
      refine e_zne hP rfl (fun hc => ?_) (fun hc => ?_)
      · have h := h.1 hc
        obtain ⟨hs3, h⟩ := h
        refine e_inc (L' := [some (.inr (.inr (t + 1))), some (.inr (.inr 8)), some (.inl x2), some (.inl x3), some (.inl x4), some (.inl (x5 + 1))]) hP rfl rfl hs3 rfl ?_
        refine e_go hP rfl ?_
        exact h
      · have h := h.2 hc
        refine e_ldR hP rfl rfl (nz_q (tw_p ht 0)) ?_
        refine e_ld hP rfl rfl ?_
        refine e_ld hP rfl rfl ?_
        refine e_call hP rfl rfl rfl (Nat.le_of_ble_eq_true rfl) (Nat.le_of_ble_eq_true rfl) (rcv0 (tw_o hS ht) (tw_p ht 0)) ?_
        refine Ca.mono h (fun r hr => ?_)
        obtain ⟨M4, rfl, h⟩ := hr
        show En 68 41 [some (.inr (.inr (t + 1))), some (.inr (.inr 8)), some (.inl x2), some (.inl x3), some (.inl x4), some (.inl x5)] [] S M4 Q
        obtain ⟨hs5, h⟩ := h
        refine e_inc (L' := [some (.inr (.inr (t + 1))), some (.inr (.inr 8)), some (.inl x2), some (.inl x3), some (.inl (x4 + 1)), some (.inl x5)]) hP rfl rfl hs5 rfl ?_
        obtain ⟨hs6, h⟩ := h
        refine e_inc (L' := [some (.inr (.inr (t + 1))), some (.inr (.inr 8)), some (.inl x2), some (.inl x3), some (.inl (x4 + 1)), some (.inl (x5 + 1))]) hP rfl rfl hs6 rfl ?_
        refine e_go hP rfl ?_
        exact h
theorem r_X7_place_0 {S : Shp} {M : Mem} {Q : Res → Prop} (hS : KC S) {t : Nat} (ht : t ∈ bx_tw) {p1 p2 : Int} (h : (0 ≤ p1 ∧ p1 < 26) ∧ (0 ≤ p2 ∧ p2 < 26) ∧ Q (S, up2 (up2 M (t + 8) p1.toNat p2) (t + 9) p2.toNat p1, none)) : Ca 69 [.inr (.inr (t + 1)), .inl p1, .inl p2] S M Q := by
  have hP : PR 69 = (bc_69, 3) := rfl
  refine ⟨Nat.le_of_ble_eq_true rfl, ?_⟩
  show En 69 0 [some (.inr (.inr (t + 1))), some (.inl p1), some (.inl p2)] [] S M Q
  refine e_ldR hP rfl rfl (nz_q (tw_p ht 0)) ?_
  refine e_gR (a := 7) (w := t + 9) t (tw_o hS ht) hP rfl (by decide) rfl ?_
  refine e_ld hP rfl rfl ?_
  refine e_ld hP rfl rfl ?_
  obtain ⟨hs1, h⟩ := h
  refine e_as (t + 8) (tw_a8 hS ht) (tw_p ht 8) hP rfl hs1 ?_
  refine e_ldR hP rfl rfl (nz_q (tw_p ht 0)) ?_
  refine e_gR (a := 7) (w := t + 10) t (tw_o hS ht) hP rfl (by decide) rfl ?_
  refine e_ld hP rfl rfl ?_
  refine e_ld hP rfl rfl ?_
  obtain ⟨hs2, h⟩ := h
  refine e_as (t + 9) (tw_a9 hS ht) (tw_p ht 9) hP rfl hs2 ?_
  exact e_retv hP rfl h
theorem r_X7_exchange_0 {S : Shp} {M : Mem} {Q : Res → Prop} (hS : KC S) {t : Nat} (ht : t ∈ bx_tw) {p1 p2 : Int} (h : (0 ≤ p1 ∧ p1 < 26) ∧ (0 ≤ p2 ∧ p2 < 26) ∧ Ca 69 [.inr (.inr (t + 1)), .inl p1, .inl (M (t + 8) p2.toNat)] S M (fun r => ∃ M3 : Mem, r = (S, M3, none) ∧ Ca 69 [.inr (.inr (t + 1)), .inl p2, .inl (M (t + 8) p1.toNat)] S M3 (fun r => ∃ M4 : Mem, r = (S, M4, none) ∧ Q (S, M4, none)))) : Ca 70 [.inr (.inr (t + 1)), .inl p1, .inl p2] S M Q := by
  have hP : PR 70 = (bc_70, 4) := rfl
  refine ⟨Nat.le_of_ble_eq_true rfl, ?_⟩
  show En 70 0 [some (.inr (.inr (t + 1))), some (.inl p1), some (.inl p2), none] [] S M Q
  refine e_ldR hP rfl rfl (nz_q (tw_p ht 0)) ?_
  refine e_gR (a := 7) (w := t + 9) t (tw_o hS ht) hP rfl (by decide) rfl ?_
  refine e_ld hP rfl rfl ?_
  obtain ⟨hs1, h⟩ := h
  refine e_al (t + 8) (tw_a8 hS ht) hP rfl hs1 ?_
  refine e_st (L' := [some (.inr (.inr (t + 1))), some (.inl p1), some (.inl p2), some (.inl (M (t + 8) p1.toNat))]) hP rfl rfl ?_
  refine e_ldR hP rfl rfl (nz_q (tw_p ht 0)) ?_
  refine e_ld hP rfl rfl ?_
  refine e_ldR hP rfl rfl (nz_q (tw_p ht 0)) ?_
  refine e_gR (a := 7) (w := t + 9) t (tw_o hS ht) hP rfl (by decide) rfl ?_
  refine e_ld hP rfl rfl ?_
  obtain ⟨hs2, h⟩ := h
  refine e_al (t + 8) (tw_a8 hS ht) hP rfl hs2 ?_
  refine e_call hP rfl rfl rfl (Nat.le_of_ble_eq_true rfl) (Nat.le_of_ble_eq_true rfl) (rcv0 (tw_o hS ht) (tw_p ht 0)) ?_
  refine Ca.mono h (fun r hr => ?_)
  obtain ⟨M3, rfl, h⟩ := hr
  show En 70 12 [some (.inr (.inr (t + 1))), some (.inl p1), some (.inl p2), some (.inl (M (t + 8) p1.toNat))] [] S M3 Q
  refine e_ldR hP rfl rfl (nz_q (tw_p ht 0)) ?_
  refine e_ld hP rfl rfl ?_
  refine e_ld hP rfl rfl ?_
  refine e_call hP rfl rfl rfl (Nat.le_of_ble_eq_true rfl) (Nat.le_of_ble_eq_true rfl) (rcv0 (tw_o hS ht) (tw_p ht 0)) ?_
  refine Ca.mono h (fun r hr => ?_)
  obtain ⟨M4, rfl, h⟩ := hr
  show En 70 16 [some (.inr (.inr (t + 1))), some (.inl p1), some (.inl p2), some (.inl (M (t + 8) p1.toNat))] [] S M4 Q
  exact e_retv hP rfl h
theorem r_X7_setEnemies_0 {S : Shp} {M : Mem} {Q : Res → Prop} (hS : KC S) {t : Nat} (ht : t ∈ bx_tw) {p1 p2 : Int} (h : (0 ≤ p1 ∧ p1 < 26) ∧ (0 ≤ (1 : Int) ∧ 0 ≤ p2 ∧ p2 < 32 ∧ inR ((1 : Int) * 2 ^ p2.toNat)) ∧ (0 ≤ (M (t + 10) p1.toNat) ∧ 0 ≤ ((1 : Int) * 2 ^ p2.toNat)) ∧ (0 ≤ p1 ∧ p1 < 26) ∧ (0 ≤ p2 ∧ p2 < 26) ∧ (0 ≤ (1 : Int) ∧ 0 ≤ p1 ∧ p1 < 32 ∧ inR ((1 : Int) * 2 ^ p1.toNat)) ∧ (0 ≤ ((up2 M (t + 10) p1.toNat ((((M (t + 10) p1.toNat).toNat ||| ((1 : Int) * 2 ^ p2.toNat).toNat : Nat) : Int))) (t + 10) p2.toNat) ∧ 0 ≤ ((1 : Int) * 2 ^ p1.toNat)) ∧ (0 ≤ p2 ∧ p2 < 26) ∧ Q (S, up2 (up2 M (t + 10) p1.toNat ((((M (t + 10) p1.toNat).toNat ||| ((1 : Int) * 2 ^ p2.toNat).toNat : Nat) : Int))) (t + 10) p2.toNat (((((up2 M (t + 10) p1.toNat ((((M (t + 10) p1.toNat).toNat ||| ((1 : Int) * 2 ^ p2.toNat).toNat : Nat) : Int))) (t + 10) p2.toNat).toNat ||| ((1 : Int) * 2 ^ p1.toNat).toNat : Nat) : Int)), none)) : Ca 71 [.inr (.inr (t + 1)), .inl p1, .inl p2] S M Q := by
  have hP : PR 71 = (bc_71, 3) := rfl
  refine ⟨Nat.le_of_ble_eq_true rfl, ?_⟩
  show En 71 0 [some (.inr (.inr (t + 1))), some (.inl p1), some (.inl p2)] [] S M Q
  refine e_ldR hP rfl rfl (nz_q (tw_p ht 0)) ?_
  refine e_gR (a := 7) (w := t + 11) t (tw_o hS ht) hP rfl (by decide) rfl ?_
  refine e_ld hP rfl rfl ?_
  refine e_dup2 hP rfl ?_
  obtain ⟨hs1, h⟩ := h
  refine e_al (t + 10) (tw_a10 hS ht) hP rfl hs1 ?_
  refine e_c hP rfl ?_
  refine e_ld hP rfl rfl ?_
  obtain ⟨hs2, h⟩ := h
  refine e_shl hP rfl hs2 ?_
  obtain ⟨hs3, h⟩ := h
  refine e_or hP rfl hs3 ?_
  obtain ⟨hs4, h⟩ := h
  refine e_as (t + 10) (tw_a10 hS ht) (tw_p ht 10) hP rfl hs4 ?_
  refine e_ldR hP rfl rfl (nz_q (tw_p ht 0)) ?_
  refine e_gR (a := 7) (w := t + 11) t (tw_o hS ht) hP rfl (by decide) rfl ?_
  refine e_ld hP rfl rfl ?_
  refine e_dup2 hP rfl ?_
  obtain ⟨hs5, h⟩ := h
  refine e_al (t + 10) (tw_a10 hS ht) hP rfl hs5 ?_
  refine e_c hP rfl ?_
  refine e_ld hP rfl rfl ?_
  obtain ⟨hs6, h⟩ := h
  refine e_shl hP rfl hs6 ?_
  obtain ⟨hs7, h⟩ := h
  refine e_or hP rfl hs7 ?_
  obtain ⟨hs8, h⟩ := h
  refine e_as (t + 10) (tw_a10 hS ht) (tw_p ht 10) hP rfl hs8 ?_
  exact e_retv hP rfl h
theorem r_X7_areEnemies_0 {S : Shp} {M : Mem} {Q : Res → Prop} (hS : KC S) {t : Nat} (ht : t ∈ bx_tw) {p1 p2 : Int} (h : (0 ≤ p1 ∧ p1 < 26) ∧ Ca 135 [.inl (M (t + 10) p1.toNat), .inl p2] S M (fun r => ∃ (M2 : Mem) (v3 : Int), r = (S, M2, some (.inl v3)) ∧ (v3 = 0 ∨ v3 = 1) ∧ Q (S, M2, some (.inl v3)))) : Ca 72 [.inr (.inr (t + 1)), .inl p1, .inl p2] S M Q := by
  have hP : PR 72 = (bc_72, 3) := rfl
  refine ⟨Nat.le_of_ble_eq_true rfl, ?_⟩
  show En 72 0 [some (.inr (.inr (t + 1))), some (.inl p1), some (.inl p2)] [] S M Q
  refine e_ldR hP rfl rfl (nz_q (tw_p ht 0)) ?_
  refine e_gR (a := 7) (w := t + 11) t (tw_o hS ht) hP rfl (by decide) rfl ?_
  refine e_ld hP rfl rfl ?_
  obtain ⟨hs1, h⟩ := h
  refine e_al (t + 10) (tw_a10 hS ht) hP rfl hs1 ?_
  refine e_ld hP rfl rfl ?_
  refine e_call hP rfl rfl rfl (Nat.le_of_ble_eq_true rfl) (Nat.le_of_ble_eq_true rfl) rcv1 ?_
  refine Ca.mono h (fun r hr => ?_)
  obtain ⟨M2, v3, rfl, h⟩ := hr
  show En 72 6 [some (.inr (.inr (t + 1))), some (.inl p1), some (.inl p2)] [.inl v3] S M2 Q
  exact e_ret hP rfl (decide_eq_true h.1) h.2
theorem r_X7_isVowel_0 {S : Shp} {M : Mem} {Q : Res → Prop} (hS : KC S) {t : Nat} (ht : t ∈ bx_tw) {p1 : Int} (h : Ca 135 [.inl (M t 4), .inl p1] S M (fun r => ∃ (M1 : Mem) (v2 : Int), r = (S, M1, some (.inl v2)) ∧ (v2 = 0 ∨ v2 = 1) ∧ Q (S, M1, some (.inl v2)))) : Ca 73 [.inr (.inr (t + 1)), .inl p1] S M Q := by
  have hP : PR 73 = (bc_73, 2) := rfl
  refine ⟨Nat.le_of_ble_eq_true rfl, ?_⟩
  show En 73 0 [some (.inr (.inr (t + 1))), some (.inl p1)] [] S M Q
  refine e_ldR hP rfl rfl (nz_q (tw_p ht 0)) ?_
  refine e_gI (a := 7) t (tw_o hS ht) hP rfl (by decide) ?_
  refine e_ld hP rfl rfl ?_
  refine e_call hP rfl rfl rfl (Nat.le_of_ble_eq_true rfl) (Nat.le_of_ble_eq_true rfl) rcv1 ?_
  refine Ca.mono h (fun r hr => ?_)
  obtain ⟨M1, v2, rfl, h⟩ := hr
  show En 73 4 [some (.inr (.inr (t + 1))), some (.inl p1)] [.inl v2] S M1 Q
  exact e_ret hP rfl (decide_eq_true h.1) h.2
theorem r_X7_isNameless_0 {S : Shp} {M : Mem} {Q : Res → Prop} (hS : KC S) {t : Nat} (ht : t ∈ bx_tw) {p1 : Int} (h : (0 ≤ p1 ∧ p1 < 8) ∧ (((M (t + 1) p1.toNat) ≠ 0 → Q (S, M, some (.inl (0 : Int)))) ∧ ((M (t + 1) p1.toNat) = 0 → Q (S, M, some (.inl (1 : Int)))))) : Ca 74 [.inr (.inr (t + 1)), .inl p1] S M Q := by
  have hP : PR 74 = (bc_74, 2) := rfl
  refine ⟨Nat.le_of_ble_eq_true rfl, ?_⟩
  show En 74 0 [some (.inr (.inr (t + 1))), some (.inl p1)] [] S M Q
  refine e_ldR hP rfl rfl (nz_q (tw_p ht 0)) ?_
  refine e_gR (a := 7) (w := t + 2) t (tw_o hS ht) hP rfl (by decide) rfl ?_
  refine e_ld hP rfl rfl ?_
  obtain ⟨hs1, h⟩ := h
  refine e_al (t + 1) (tw_a1 hS ht) hP rfl hs1 ?_
  refine e_zne hP rfl (fun hc => ?_) (fun hc => ?_)
  · have h := h.1 hc
    refine e_c hP rfl ?_
    exact e_ret hP rfl rfl h
  · have h := h.2 hc
    refine e_c hP rfl ?_
    refine e_go hP rfl ?_
    exact e_ret hP rfl rfl h
theorem r_X7_letterOf_0 {S : Shp} {M : Mem} {Q : Res → Prop} (hS : KC S) {t : Nat} (ht : t ∈ bx_tw) {p1 p2 : Int} (h : (0 ≤ p1 ∧ p1 < 8) ∧ (((M (t + 1) p1.toNat) ≤ p2 → Q (S, M, some (.inl (-4 : Int)))) ∧ (p2 < (M (t + 1) p1.toNat) → (((6 : Int) ≤ p2 → Q (S, M, some (.inl (-4 : Int)))) ∧ (p2 < (6 : Int) → (inR (p1 * (6 : Int))) ∧ (inR ((p1 * (6 : Int)) + p2)) ∧ (0 ≤ ((p1 * (6 : Int)) + p2) ∧ ((p1 * (6 : Int)) + p2) < 48) ∧ Q (S, M, some (.inl (M (t + 2) ((p1 * (6 : Int)) + p2).toNat)))))))) : Ca 75 [.inr (.inr (t + 1)), .inl p1, .inl p2] S M Q := by
  have hP : PR 75 = (bc_75, 3) := rfl
  refine ⟨Nat.le_of_ble_eq_true rfl, ?_⟩
  show En 75 0 [some (.inr (.inr (t + 1))), some (.inl p1), some (.inl p2)] [] S M Q
  refine e_ld hP rfl rfl ?_
  refine e_ldR hP rfl rfl (nz_q (tw_p ht 0)) ?_
  refine e_gR (a := 7) (w := t + 2) t (tw_o hS ht) hP rfl (by decide) rfl ?_
  refine e_ld hP rfl rfl ?_
  obtain ⟨hs1, h⟩ := h
  refine e_al (t + 1) (tw_a1 hS ht) hP rfl hs1 ?_
  refine e_cge hP rfl (fun hc => ?_) (fun hc => ?_)
  · have h := h.1 hc
    refine e_c hP rfl ?_
    exact e_ret hP rfl rfl h
  · have h := h.2 hc
    refine e_ld hP rfl rfl ?_
    refine e_c hP rfl ?_
    refine e_cge hP rfl (fun hc => ?_) (fun hc => ?_)
    · have h := h.1 hc
      refine e_c hP rfl ?_
      exact e_ret hP rfl rfl h
    · have h := h.2 hc
      refine e_ldR hP rfl rfl (nz_q (tw_p ht 0)) ?_
      refine e_gR (a := 7) (w := t + 3) t (tw_o hS ht) hP rfl (by decide) rfl ?_
      refine e_ld hP rfl rfl ?_
      refine e_c hP rfl ?_
      obtain ⟨hs2, h⟩ := h
      refine e_mul hP rfl hs2 ?_
      refine e_ld hP rfl rfl ?_
      obtain ⟨hs3, h⟩ := h
      refine e_add hP rfl hs3 ?_
      obtain ⟨hs4, h⟩ := h
      refine e_al (t + 2) (tw_a2 hS ht) hP rfl hs4 ?_
      refine e_go hP rfl ?_
      exact e_ret hP rfl rfl h
theorem r_X7_first_0 {S : Shp} {M : Mem} {Q : Res → Prop} (hS : KC S) {t : Nat} (ht : t ∈ bx_tw) {p1 : Int} (h : Ca 75 [.inr (.inr (t + 1)), .inl p1, .inl (0 : Int)] S M (fun r => ∃ (M1 : Mem) (v2 : Int), r = (S, M1, some (.inl v2)) ∧ Q (S, M1, some (.inl v2)))) : Ca 76 [.inr (.inr (t + 1)), .inl p1] S M Q := by
  have hP : PR 76 = (bc_76, 2) := rfl
  refine ⟨Nat.le_of_ble_eq_true rfl, ?_⟩
  show En 76 0 [some (.inr (.inr (t + 1))), some (.inl p1)] [] S M Q
  refine e_ldR hP rfl rfl (nz_q (tw_p ht 0)) ?_
  refine e_ld hP rfl rfl ?_
  refine e_c hP rfl ?_
  refine e_call hP rfl rfl rfl (Nat.le_of_ble_eq_true rfl) (Nat.le_of_ble_eq_true rfl) (rcv0 (tw_o hS ht) (tw_p ht 0)) ?_
  refine Ca.mono h (fun r hr => ?_)
  obtain ⟨M1, v2, rfl, h⟩ := hr
  show En 76 4 [some (.inr (.inr (t + 1))), some (.inl p1)] [.inl v2] S M1 Q
  exact e_ret hP rfl rfl h
theorem r_X7_setFirst_0 {S : Shp} {M : Mem} {Q : Res → Prop} (hS : KC S) {t : Nat} (ht : t ∈ bx_tw) {p1 p2 : Int} (h : Ca 74 [.inr (.inr (t + 1)), .inl p1] S M (fun r => ∃ (M1 : Mem) (v2 : Int), r = (S, M1, some (.inl v2)) ∧ ((v2 ≠ 0 → Q (S, M1, none)) ∧ (v2 = 0 → (inR (p1 * (6 : Int))) ∧ (0 ≤ (p1 * (6 : Int)) ∧ (p1 * (6 : Int)) < 48) ∧ Q (S, up2 M1 (t + 2) (p1 * (6 : Int)).toNat p2, none))))) : Ca 77 [.inr (.inr (t + 1)), .inl p1, .inl p2] S M Q := by
  have hP : PR 77 = (bc_77, 3) := rfl
  refine ⟨Nat.le_of_ble_eq_true rfl, ?_⟩
  show En 77 0 [some (.inr (.inr (t + 1))), some (.inl p1), some (.inl p2)] [] S M Q
  refine e_ldR hP rfl rfl (nz_q (tw_p ht 0)) ?_
  refine e_ld hP rfl rfl ?_
  refine e_call hP rfl rfl rfl (Nat.le_of_ble_eq_true rfl) (Nat.le_of_ble_eq_true rfl) (rcv0 (tw_o hS ht) (tw_p ht 0)) ?_
  refine Ca.mono h (fun r hr => ?_)
  obtain ⟨M1, v2, rfl, h⟩ := hr
  show En 77 3 [some (.inr (.inr (t + 1))), some (.inl p1), some (.inl p2)] [.inl v2] S M1 Q
  refine e_zne hP rfl (fun hc => ?_) (fun hc => ?_)
  · have h := h.1 hc
    exact e_retv hP rfl h
  · have h := h.2 hc
    refine e_ldR hP rfl rfl (nz_q (tw_p ht 0)) ?_
    refine e_gR (a := 7) (w := t + 3) t (tw_o hS ht) hP rfl (by decide) rfl ?_
    refine e_ld hP rfl rfl ?_
    refine e_c hP rfl ?_
    obtain ⟨hs3, h⟩ := h
    refine e_mul hP rfl hs3 ?_
    refine e_ld hP rfl rfl ?_
    obtain ⟨hs4, h⟩ := h
    refine e_as (t + 2) (tw_a2 hS ht) (tw_p ht 2) hP rfl hs4 ?_
    exact e_retv hP rfl h
theorem r_X7_firstLetters_0 {S : Shp} {M : Mem} {Q : Res → Prop} (hS : KC S) {t : Nat} (ht : t ∈ bx_tw) (h : En 78 4 [some (.inr (.inr (t + 1))), some (.inl (0 : Int)), some (.inl (0 : Int))] [] S M Q) : Ca 78 [.inr (.inr (t + 1))] S M Q := by
  have hP : PR 78 = (bc_78, 3) := rfl
  refine ⟨Nat.le_of_ble_eq_true rfl, ?_⟩
  show En 78 0 [some (.inr (.inr (t + 1))), none, none] [] S M Q
  refine e_c hP rfl ?_
  refine e_st (L' := [some (.inr (.inr (t + 1))), some (.inl (0 : Int)), none]) hP rfl rfl ?_
  refine e_c hP rfl ?_
  refine e_st (L' := [some (.inr (.inr (t + 1))), some (.inl (0 : Int)), some (.inl (0 : Int))]) hP rfl rfl ?_
  exact h
theorem r_X7_firstLetters_4 {S : Shp} {M : Mem} {Q : Res → Prop} (hS : KC S) {t : Nat} (ht : t ∈ bx_tw) {x1 x2 : Int} (h : (((M t 0) ≤ x2 → Q (S, M, some (.inl x1))) ∧ (x2 < (M t 0) → Ca 74 [.inr (.inr (t + 1)), .inl x2] S M (fun r => ∃ (M1 : Mem) (v2 : Int), r = (S, M1, some (.inl v2)) ∧ ((v2 = 0 → Ca 76 [.inr (.inr (t + 1)), .inl x2] S M1 (fun r => ∃ (M3 : Mem) (v4 : Int), r = (S, M3, some (.inl v4)) ∧ (0 ≤ (1 : Int) ∧ 0 ≤ v4 ∧ v4 < 32 ∧ inR ((1 : Int) * 2 ^ v4.toNat)) ∧ (0 ≤ x1 ∧ 0 ≤ ((1 : Int) * 2 ^ v4.toNat)) ∧ (inR (x2 + 1)) ∧ En 78 4 [some (.inr (.inr (t + 1))), some (.inl (((x1.toNat ||| ((1 : Int) * 2 ^ v4.toNat).toNat : Nat) : Int))), some (.inl (x2 + 1))] [] S M3 Q)) ∧ (v2 ≠ 0 → (0 ≤ x1 ∧ 0 ≤ (0 : Int)) ∧ (inR (x2 + 1)) ∧ En 78 4 [some (.inr (.inr (t + 1))), some (.inl (((x1.toNat ||| (0 : Int).toNat : Nat) : Int))), some (.inl (x2 + 1))] [] S M1 Q)))))) : En 78 4 [some (.inr (.inr (t + 1))), some (.inl x1), some (.inl x2)] [] S M Q := by
  have hP : PR 78 = (bc_78, 3) := rfl
  refine e_ld hP rfl rfl ?_
  refine e_ldR hP rfl rfl (nz_q (tw_p ht 0)) ?_
  refine e_gI (a := 7) t (tw_o hS ht) hP rfl (by decide) ?_
  refine e_cge hP rfl (fun hc => ?_) (fun hc => ?_)
  · have h := h.1 hc
    refine e_ld hP rfl rfl ?_
    exact e_ret hP rfl rfl h
  · have h := h.2 hc
    refine e_ld hP rfl rfl ?_
    refine e_ldR hP rfl rfl (nz_q (tw_p ht 0)) ?_
    refine e_ld hP rfl rfl ?_
    refine e_call hP rfl rfl rfl (Nat.le_of_ble_eq_true rfl) (Nat.le_of_ble_eq_true rfl) (rcv0 (tw_o hS ht) (tw_p ht 0)) ?_
    refine Ca.mono h (fun r hr => ?_)
    obtain ⟨M1, v2, rfl, h⟩ := hr
    show En 78 12 [some (.inr (.inr (t + 1))), some (.inl x1), some (.inl x2)] [.inl v2, .inl x1] S M1 Q
    refine e_zeq hP rfl (fun hc => ?_) (fun hc => ?_)
    · have h := h.1 hc
      refine e_c hP rfl ?_
      refine e_ldR hP rfl rfl (nz_q (tw_p ht 0)) ?_
      refine e_ld hP rfl rfl ?_
      refine e_call hP rfl rfl rfl (Nat.le_of_ble_eq_true rfl) (Nat.le_of_ble_eq_true rfl) (rcv0 (tw_o hS ht) (tw_p ht 0)) ?_
      refine Ca.mono h (fun r hr => ?_)
      obtain ⟨M3, v4, rfl, h⟩ := hr
      show En 78 19 [some (.inr (.inr (t + 1))), some (.inl x1), some (.inl x2)] [.inl v4, .inl (1 : Int), .inl x1] S M3 Q
      obtain ⟨hs5, h⟩ := h
      refine e_shl hP rfl hs5 ?_
      obtain ⟨hs6, h⟩ := h
      refine e_or hP rfl hs6 ?_
      refine e_st (L' := [some (.inr (.inr (t + 1))), some (.inl (((x1.toNat ||| ((1 : Int) * 2 ^ v4.toNat).toNat : Nat) : Int))), some (.inl x2)]) hP rfl rfl ?_
      obtain ⟨hs7, h⟩ := h
      refine e_inc (L' := [some (.inr (.inr (t + 1))), some (.inl (((x1.toNat ||| ((1 : Int) * 2 ^ v4.toNat).toNat : Nat) : Int))), some (.inl (x2 + 1))]) hP rfl rfl hs7 rfl ?_
      refine e_go hP rfl ?_
      exact h
    · have h := h.2 hc
      refine e_c hP rfl ?_
      refine e_go hP rfl ?_
      obtain ⟨hs8, h⟩ := h
      refine e_or hP rfl hs8 ?_
      refine e_st (L' := [some (.inr (.inr (t + 1))), some (.inl (((x1.toNat ||| (0 : Int).toNat : Nat) : Int))), some (.inl x2)]) hP rfl rfl ?_
      obtain ⟨hs9, h⟩ := h
      refine e_inc (L' := [some (.inr (.inr (t + 1))), some (.inl (((x1.toNat ||| (0 : Int).toNat : Nat) : Int))), some (.inl (x2 + 1))]) hP rfl rfl hs9 rfl ?_
      refine e_go hP rfl ?_
      exact h
theorem r_X7_keyOf_0 {S : Shp} {M : Mem} {Q : Res → Prop} (hS : KC S) {t : Nat} (ht : t ∈ bx_tw) {p1 : Int} (h : Ca 74 [.inr (.inr (t + 1)), .inl p1] S M (fun r => ∃ (M1 : Mem) (v2 : Int), r = (S, M1, some (.inl v2)) ∧ ((v2 = 0 → En 79 10 [some (.inr (.inr (t + 1))), some (.inl p1), some (.inl (0 : Int)), some (.inl (0 : Int)), none] [] S M1 Q) ∧ (v2 ≠ 0 → Q (S, M1, some (.inl (387420489 : Int))))))) : Ca 79 [.inr (.inr (t + 1)), .inl p1] S M Q := by
  have hP : PR 79 = (bc_79, 5) := rfl
  refine ⟨Nat.le_of_ble_eq_true rfl, ?_⟩
  show En 79 0 [some (.inr (.inr (t + 1))), some (.inl p1), none, none, none] [] S M Q
  refine e_ldR hP rfl rfl (nz_q (tw_p ht 0)) ?_
  refine e_ld hP rfl rfl ?_
  refine e_call hP rfl rfl rfl (Nat.le_of_ble_eq_true rfl) (Nat.le_of_ble_eq_true rfl) (rcv0 (tw_o hS ht) (tw_p ht 0)) ?_
  refine Ca.mono h (fun r hr => ?_)
  obtain ⟨M1, v2, rfl, h⟩ := hr
  show En 79 3 [some (.inr (.inr (t + 1))), some (.inl p1), none, none, none] [.inl v2] S M1 Q
  refine e_zeq hP rfl (fun hc => ?_) (fun hc => ?_)
  · have h := h.1 hc
    refine e_c hP rfl ?_
    refine e_st (L' := [some (.inr (.inr (t + 1))), some (.inl p1), some (.inl (0 : Int)), none, none]) hP rfl rfl ?_
    refine e_c hP rfl ?_
    refine e_st (L' := [some (.inr (.inr (t + 1))), some (.inl p1), some (.inl (0 : Int)), some (.inl (0 : Int)), none]) hP rfl rfl ?_
    exact h
  · have h := h.2 hc
    refine e_c hP rfl ?_
    exact e_ret hP rfl rfl h
theorem r_X7_keyOf_10 {S : Shp} {M : Mem} {Q : Res → Prop} (hS : KC S) {t : Nat} (ht : t ∈ bx_tw) {x1 x2 x3 : Int} (h : (((6 : Int) ≤ x3 → Q (S, M, some (.inl x2))) ∧ (x3 < (6 : Int) → Ca 75 [.inr (.inr (t + 1)), .inl x1, .inl x3] S M (fun r => ∃ (M1 : Mem) (v2 : Int), r = (S, M1, some (.inl v2)) ∧ (inR (x2 * (27 : Int))) ∧ ((v2 ≠ (-4 : Int) → (0 ≤ v2 ∧ v2 < 26) ∧ (inR ((M1 (t + 8) v2.toNat) + (1 : Int))) ∧ (inR ((x2 * (27 : Int)) + ((M1 (t + 8) v2.toNat) + (1 : Int)))) ∧ (inR (x3 + 1)) ∧ En 79 10 [some (.inr (.inr (t + 1))), some (.inl x1), some (.inl ((x2 * (27 : Int)) + ((M1 (t + 8) v2.toNat) + (1 : Int)))), some (.inl (x3 + 1)), none] [] S M1 Q) ∧ (v2 = (-4 : Int) → (inR ((x2 * (27 : Int)) + (0 : Int))) ∧ (inR (x3 + 1)) ∧ En 79 10 [some (.inr (.inr (t + 1))), some (.inl x1), some (.inl ((x2 * (27 : Int)) + (0 : Int))), some (.inl (x3 + 1)), none] [] S M1 Q)))))) : En 79 10 [some (.inr (.inr (t + 1))), some (.inl x1), some (.inl x2), some (.inl x3), none] [] S M Q := by
  have hP : PR 79 = (bc_79, 5) := rfl
  refine e_ld hP rfl rfl ?_
  refine e_c hP rfl ?_
  refine e_cge hP rfl (fun hc => ?_) (fun hc => ?_)
  · have h := h.1 hc
    refine e_ld hP rfl rfl ?_
    exact e_ret hP rfl rfl h
  · have h := h.2 hc
    refine e_ldR hP rfl rfl (nz_q (tw_p ht 0)) ?_
    refine e_ld hP rfl rfl ?_
    refine e_ld hP rfl rfl ?_
    refine e_call hP rfl rfl rfl (Nat.le_of_ble_eq_true rfl) (Nat.le_of_ble_eq_true rfl) (rcv0 (tw_o hS ht) (tw_p ht 0)) ?_
    refine Ca.mono h (fun r hr => ?_)
    obtain ⟨M1, v2, rfl, h⟩ := hr
    show En 79 17 [some (.inr (.inr (t + 1))), some (.inl x1), some (.inl x2), some (.inl x3), none] [.inl v2] S M1 Q
    refine e_st (L' := [some (.inr (.inr (t + 1))), some (.inl x1), some (.inl x2), some (.inl x3), some (.inl v2)]) hP rfl rfl ?_
    refine e_ld hP rfl rfl ?_
    refine e_c hP rfl ?_
    obtain ⟨hs3, h⟩ := h
    refine e_mul hP rfl hs3 ?_
    refine e_ld hP rfl rfl ?_
    refine e_c hP rfl ?_
    refine e_cne hP rfl (fun hc => ?_) (fun hc => ?_)
    · have h := h.1 hc
      refine e_ldR hP rfl rfl (nz_q (tw_p ht 0)) ?_
      refine e_gR (a := 7) (w := t + 9) t (tw_o hS ht) hP rfl (by decide) rfl ?_
      refine e_ld hP rfl rfl ?_
      obtain ⟨hs4, h⟩ := h
      refine e_al (t + 8) (tw_a8 hS ht) hP rfl hs4 ?_
      refine e_c hP rfl ?_
      obtain ⟨hs5, h⟩ := h
      refine e_add hP rfl hs5 ?_
      obtain ⟨hs6, h⟩ := h
      refine e_add hP rfl hs6 ?_
      refine e_st (L' := [some (.inr (.inr (t + 1))), some (.inl x1), some (.inl ((x2 * (27 : Int)) + ((M1 (t + 8) v2.toNat) + (1 : Int)))), some (.inl x3), some (.inl v2)]) hP rfl rfl ?_
      obtain ⟨hs7, h⟩ := h
      refine e_inc (L' := [some (.inr (.inr (t + 1))), some (.inl x1), some (.inl ((x2 * (27 : Int)) + ((M1 (t + 8) v2.toNat) + (1 : Int)))), some (.inl (x3 + 1)), some (.inl v2)]) hP rfl rfl hs7 rfl ?_
      refine e_go hP rfl ?_
      exact en_fg h ⟨Or.inr rfl, Or.inr rfl, Or.inr rfl, Or.inr rfl, Or.inl rfl, trivial⟩
    · have h := h.2 hc
      refine e_c hP rfl ?_
      refine e_go hP rfl ?_
      obtain ⟨hs8, h⟩ := h
      refine e_add hP rfl hs8 ?_
      refine e_st (L' := [some (.inr (.inr (t + 1))), some (.inl x1), some (.inl ((x2 * (27 : Int)) + (0 : Int))), some (.inl x3), some (.inl v2)]) hP rfl rfl ?_
      obtain ⟨hs9, h⟩ := h
      refine e_inc (L' := [some (.inr (.inr (t + 1))), some (.inl x1), some (.inl ((x2 * (27 : Int)) + (0 : Int))), some (.inl (x3 + 1)), some (.inl v2)]) hP rfl rfl hs9 rfl ?_
      refine e_go hP rfl ?_
      exact en_fg h ⟨Or.inr rfl, Or.inr rfl, Or.inr rfl, Or.inr rfl, Or.inl rfl, trivial⟩
theorem r_X7_keyOfOne_0 {S : Shp} {M : Mem} {Q : Res → Prop} (hS : KC S) {t : Nat} (ht : t ∈ bx_tw) {p1 : Int} (h : (0 ≤ p1 ∧ p1 < 26) ∧ (inR ((M (t + 8) p1.toNat) + (1 : Int))) ∧ (inR (((M (t + 8) p1.toNat) + (1 : Int)) * (14348907 : Int))) ∧ Q (S, M, some (.inl (((M (t + 8) p1.toNat) + (1 : Int)) * (14348907 : Int))))) : Ca 80 [.inr (.inr (t + 1)), .inl p1] S M Q := by
  have hP : PR 80 = (bc_80, 2) := rfl
  refine ⟨Nat.le_of_ble_eq_true rfl, ?_⟩
  show En 80 0 [some (.inr (.inr (t + 1))), some (.inl p1)] [] S M Q
  refine e_ldR hP rfl rfl (nz_q (tw_p ht 0)) ?_
  refine e_gR (a := 7) (w := t + 9) t (tw_o hS ht) hP rfl (by decide) rfl ?_
  refine e_ld hP rfl rfl ?_
  obtain ⟨hs1, h⟩ := h
  refine e_al (t + 8) (tw_a8 hS ht) hP rfl hs1 ?_
  refine e_c hP rfl ?_
  obtain ⟨hs2, h⟩ := h
  refine e_add hP rfl hs2 ?_
  refine e_c hP rfl ?_
  obtain ⟨hs3, h⟩ := h
  refine e_mul hP rfl hs3 ?_
  exact e_ret hP rfl rfl h
theorem r_X7_holdsOffice_0 {S : Shp} {M : Mem} {Q : Res → Prop} (hS : KC S) {t : Nat} (ht : t ∈ bx_tw) {p1 : Int} (h : Ca 74 [.inr (.inr (t + 1)), .inl p1] S M (fun r => ∃ (M1 : Mem) (v2 : Int), r = (S, M1, some (.inl v2)) ∧ ((v2 ≠ 0 → Q (S, M1, some (.inl (1 : Int)))) ∧ (v2 = 0 → Ca 76 [.inr (.inr (t + 1)), .inl p1] S M1 (fun r => ∃ (M3 : Mem) (v4 : Int), r = (S, M3, some (.inl v4)) ∧ Ca 73 [.inr (.inr (t + 1)), .inl v4] S M3 (fun r => ∃ (M5 : Mem) (v6 : Int), r = (S, M5, some (.inl v6)) ∧ ((v6 = 0 → Q (S, M5, some (.inl (0 : Int)))) ∧ (v6 ≠ 0 → Q (S, M5, some (.inl (1 : Int))))))))))) : Ca 81 [.inr (.inr (t + 1)), .inl p1] S M Q := by
  have hP : PR 81 = (bc_81, 2) := rfl
  refine ⟨Nat.le_of_ble_eq_true rfl, ?_⟩
  show En 81 0 [some (.inr (.inr (t + 1))), some (.inl p1)] [] S M Q
  refine e_ldR hP rfl rfl (nz_q (tw_p ht 0)) ?_
  refine e_ld hP rfl rfl ?_
  refine e_call hP rfl rfl rfl (Nat.le_of_ble_eq_true rfl) (Nat.le_of_ble_eq_true rfl) (rcv0 (tw_o hS ht) (tw_p ht 0)) ?_
  refine Ca.mono h (fun r hr => ?_)
  obtain ⟨M1, v2, rfl, h⟩ := hr
  show En 81 3 [some (.inr (.inr (t + 1))), some (.inl p1)] [.inl v2] S M1 Q
  refine e_zne hP rfl (fun hc => ?_) (fun hc => ?_)
  · have h := h.1 hc
    refine e_c hP rfl ?_
    refine e_go hP rfl ?_
    exact e_ret hP rfl rfl h
  · have h := h.2 hc
    refine e_ldR hP rfl rfl (nz_q (tw_p ht 0)) ?_
    refine e_ldR hP rfl rfl (nz_q (tw_p ht 0)) ?_
    refine e_ld hP rfl rfl ?_
    refine e_call hP rfl rfl rfl (Nat.le_of_ble_eq_true rfl) (Nat.le_of_ble_eq_true rfl) (rcv0 (tw_o hS ht) (tw_p ht 0)) ?_
    refine Ca.mono h (fun r hr => ?_)
    obtain ⟨M3, v4, rfl, h⟩ := hr
    show En 81 8 [some (.inr (.inr (t + 1))), some (.inl p1)] [.inl v4, .inr (.inr (t + 1))] S M3 Q
    refine e_call hP rfl rfl rfl (Nat.le_of_ble_eq_true rfl) (Nat.le_of_ble_eq_true rfl) (rcv0 (tw_o hS ht) (tw_p ht 0)) ?_
    refine Ca.mono h (fun r hr => ?_)
    obtain ⟨M5, v6, rfl, h⟩ := hr
    show En 81 9 [some (.inr (.inr (t + 1))), some (.inl p1)] [.inl v6] S M5 Q
    refine e_zeq hP rfl (fun hc => ?_) (fun hc => ?_)
    · have h := h.1 hc
      refine e_c hP rfl ?_
      exact e_ret hP rfl rfl h
    · have h := h.2 hc
      refine e_c hP rfl ?_
      refine e_go hP rfl ?_
      exact e_ret hP rfl rfl h
theorem r_X7_countOffice_0 {S : Shp} {M : Mem} {Q : Res → Prop} (hS : KC S) {t : Nat} (ht : t ∈ bx_tw) (h : En 82 4 [some (.inr (.inr (t + 1))), some (.inl (0 : Int)), some (.inl (0 : Int))] [] S M Q) : Ca 82 [.inr (.inr (t + 1))] S M Q := by
  have hP : PR 82 = (bc_82, 3) := rfl
  refine ⟨Nat.le_of_ble_eq_true rfl, ?_⟩
  show En 82 0 [some (.inr (.inr (t + 1))), none, none] [] S M Q
  refine e_c hP rfl ?_
  refine e_st (L' := [some (.inr (.inr (t + 1))), some (.inl (0 : Int)), none]) hP rfl rfl ?_
  refine e_c hP rfl ?_
  refine e_st (L' := [some (.inr (.inr (t + 1))), some (.inl (0 : Int)), some (.inl (0 : Int))]) hP rfl rfl ?_
  exact h
theorem r_X7_countOffice_4 {S : Shp} {M : Mem} {Q : Res → Prop} (hS : KC S) {t : Nat} (ht : t ∈ bx_tw) {x1 x2 : Int} (h : (((M t 0) ≤ x2 → Q (S, M, some (.inl x1))) ∧ (x2 < (M t 0) → Ca 81 [.inr (.inr (t + 1)), .inl x2] S M (fun r => ∃ (M1 : Mem) (v2 : Int), r = (S, M1, some (.inl v2)) ∧ ((v2 = 0 → (inR (x1 + (0 : Int))) ∧ (inR (x2 + 1)) ∧ En 82 4 [some (.inr (.inr (t + 1))), some (.inl (x1 + (0 : Int))), some (.inl (x2 + 1))] [] S M1 Q) ∧ (v2 ≠ 0 → (inR (x1 + (1 : Int))) ∧ (inR (x2 + 1)) ∧ En 82 4 [some (.inr (.inr (t + 1))), some (.inl (x1 + (1 : Int))), some (.inl (x2 + 1))] [] S M1 Q)))))) : En 82 4 [some (.inr (.inr (t + 1))), some (.inl x1), some (.inl x2)] [] S M Q := by
  have hP : PR 82 = (bc_82, 3) := rfl
  refine e_ld hP rfl rfl ?_
  refine e_ldR hP rfl rfl (nz_q (tw_p ht 0)) ?_
  refine e_gI (a := 7) t (tw_o hS ht) hP rfl (by decide) ?_
  refine e_cge hP rfl (fun hc => ?_) (fun hc => ?_)
  · have h := h.1 hc
    refine e_ld hP rfl rfl ?_
    exact e_ret hP rfl rfl h
  · have h := h.2 hc
    refine e_ld hP rfl rfl ?_
    refine e_ldR hP rfl rfl (nz_q (tw_p ht 0)) ?_
    refine e_ld hP rfl rfl ?_
    refine e_call hP rfl rfl rfl (Nat.le_of_ble_eq_true rfl) (Nat.le_of_ble_eq_true rfl) (rcv0 (tw_o hS ht) (tw_p ht 0)) ?_
    refine Ca.mono h (fun r hr => ?_)
    obtain ⟨M1, v2, rfl, h⟩ := hr
    show En 82 12 [some (.inr (.inr (t + 1))), some (.inl x1), some (.inl x2)] [.inl v2, .inl x1] S M1 Q
    refine e_zeq hP rfl (fun hc => ?_) (fun hc => ?_)
    · have h := h.1 hc
      refine e_c hP rfl ?_
      obtain ⟨hs3, h⟩ := h
      refine e_add hP rfl hs3 ?_
      refine e_st (L' := [some (.inr (.inr (t + 1))), some (.inl (x1 + (0 : Int))), some (.inl x2)]) hP rfl rfl ?_
      obtain ⟨hs4, h⟩ := h
      refine e_inc (L' := [some (.inr (.inr (t + 1))), some (.inl (x1 + (0 : Int))), some (.inl (x2 + 1))]) hP rfl rfl hs4 rfl ?_
      refine e_go hP rfl ?_
      exact h
    · have h := h.2 hc
      refine e_c hP rfl ?_
      refine e_go hP rfl ?_
      obtain ⟨hs5, h⟩ := h
      refine e_add hP rfl hs5 ?_
      refine e_st (L' := [some (.inr (.inr (t + 1))), some (.inl (x1 + (1 : Int))), some (.inl x2)]) hP rfl rfl ?_
      obtain ⟨hs6, h⟩ := h
      refine e_inc (L' := [some (.inr (.inr (t + 1))), some (.inl (x1 + (1 : Int))), some (.inl (x2 + 1))]) hP rfl rfl hs6 rfl ?_
      refine e_go hP rfl ?_
      exact h
theorem r_X7_suits_0 {S : Shp} {M : Mem} {Q : Res → Prop} (hS : KC S) {t : Nat} (ht : t ∈ bx_tw) {p1 p2 p3 : Int} (h : ((p1 = (-4 : Int) → Q (S, M, some (.inl (1 : Int)))) ∧ (p1 ≠ (-4 : Int) → ((p2 ≠ (-4 : Int) → (0 ≤ p1 ∧ p1 < 26) ∧ (0 ≤ p2 ∧ p2 < 26) ∧ (inR ((M (t + 8) p1.toNat) - (M (t + 8) p2.toNat))) ∧ (inR (-((M (t + 8) p1.toNat) - (M (t + 8) p2.toNat)))) ∧ ((p3 < (if 0 ≤ ((M (t + 8) p1.toNat) - (M (t + 8) p2.toNat)) then ((M (t + 8) p1.toNat) - (M (t + 8) p2.toNat)) else -((M (t + 8) p1.toNat) - (M (t + 8) p2.toNat))) → Q (S, M, some (.inl (0 : Int)))) ∧ ((if 0 ≤ ((M (t + 8) p1.toNat) - (M (t + 8) p2.toNat)) then ((M (t + 8) p1.toNat) - (M (t + 8) p2.toNat)) else -((M (t + 8) p1.toNat) - (M (t + 8) p2.toNat))) ≤ p3 → Ca 72 [.inr (.inr (t + 1)), .inl p1, .inl p2] S M (fun r => ∃ (M5 : Mem) (v6 : Int), r = (S, M5, some (.inl v6)) ∧ ((v6 ≠ 0 → Q (S, M5, some (.inl (0 : Int)))) ∧ (v6 = 0 → Q (S, M5, some (.inl (1 : Int))))))))) ∧ (p2 = (-4 : Int) → Q (S, M, some (.inl (1 : Int)))))))) : Ca 83 [.inr (.inr (t + 1)), .inl p1, .inl p2, .inl p3] S M Q := by
  have hP : PR 83 = (bc_83, 4) := rfl
  refine ⟨Nat.le_of_ble_eq_true rfl, ?_⟩
  show En 83 0 [some (.inr (.inr (t + 1))), some (.inl p1), some (.inl p2), some (.inl p3)] [] S M Q
  refine e_ld hP rfl rfl ?_
  refine e_c hP rfl ?_
  refine e_ceq hP rfl (fun hc => ?_) (fun hc => ?_)
  · have h := h.1 hc
    refine e_c hP rfl ?_
    exact e_ret hP rfl rfl h
  · have h := h.2 hc
    refine e_ld hP rfl rfl ?_
    refine e_c hP rfl ?_
    refine e_cne hP rfl (fun hc => ?_) (fun hc => ?_)
    · have h := h.1 hc
      refine e_ldR hP rfl rfl (nz_q (tw_p ht 0)) ?_
      refine e_gR (a := 7) (w := t + 9) t (tw_o hS ht) hP rfl (by decide) rfl ?_
      refine e_ld hP rfl rfl ?_
      obtain ⟨hs1, h⟩ := h
      refine e_al (t + 8) (tw_a8 hS ht) hP rfl hs1 ?_
      refine e_ldR hP rfl rfl (nz_q (tw_p ht 0)) ?_
      refine e_gR (a := 7) (w := t + 9) t (tw_o hS ht) hP rfl (by decide) rfl ?_
      refine e_ld hP rfl rfl ?_
      obtain ⟨hs2, h⟩ := h
      refine e_al (t + 8) (tw_a8 hS ht) hP rfl hs2 ?_
      obtain ⟨hs3, h⟩ := h
      refine e_sub hP rfl hs3 ?_
      obtain ⟨hs4, h⟩ := h
      refine e_abs hP rfl (Nat.le_of_ble_eq_true rfl) hs4 ?_
      refine e_ld hP rfl rfl ?_
      refine e_cgt hP rfl (fun hc => ?_) (fun hc => ?_)
      · have h := h.1 hc
        refine e_c hP rfl ?_
        exact e_ret hP rfl rfl h
      · have h := h.2 hc
        refine e_ldR hP rfl rfl (nz_q (tw_p ht 0)) ?_
        refine e_ld hP rfl rfl ?_
        refine e_ld hP rfl rfl ?_
        refine e_call hP rfl rfl rfl (Nat.le_of_ble_eq_true rfl) (Nat.le_of_ble_eq_true rfl) (rcv0 (tw_o hS ht) (tw_p ht 0)) ?_
        refine Ca.mono h (fun r hr => ?_)
        obtain ⟨M5, v6, rfl, h⟩ := hr
        show En 83 24 [some (.inr (.inr (t + 1))), some (.inl p1), some (.inl p2), some (.inl p3)] [.inl v6] S M5 Q
        refine e_zne hP rfl (fun hc => ?_) (fun hc => ?_)
        · have h := h.1 hc
          refine e_c hP rfl ?_
          exact e_ret hP rfl rfl h
        · have h := h.2 hc
          refine e_c hP rfl ?_
          refine e_go hP rfl ?_
          exact e_ret hP rfl rfl h
    · have h := h.2 hc
      refine e_c hP rfl ?_
      exact e_ret hP rfl rfl h
theorem r_X7_mayWed_0 {S : Shp} {M : Mem} {Q : Res → Prop} (hS : KC S) {t : Nat} (ht : t ∈ bx_tw) {p1 p2 p3 : Int} (h : (0 ≤ p1 ∧ p1 < 8) ∧ (((M (t + 5) p1.toNat) ≠ (-4 : Int) → Q (S, M, some (.inl (0 : Int)))) ∧ ((M (t + 5) p1.toNat) = (-4 : Int) → (0 ≤ p2 ∧ p2 < 8) ∧ (((M (t + 5) p2.toNat) ≠ (-4 : Int) → Q (S, M, some (.inl (0 : Int)))) ∧ ((M (t + 5) p2.toNat) = (-4 : Int) → Ca 76 [.inr (.inr (t + 1)), .inl p1] S M (fun r => ∃ (M3 : Mem) (v4 : Int), r = (S, M3, some (.inl v4)) ∧ Ca 76 [.inr (.inr (t + 1)), .inl p2] S M3 (fun r => ∃ (M5 : Mem) (v6 : Int), r = (S, M5, some (.inl v6)) ∧ Ca 83 [.inr (.inr (t + 1)), .inl v4, .inl v6, .inl p3] S M5 (fun r => ∃ (M7 : Mem) (v8 : Int), r = (S, M7, some (.inl v8)) ∧ ((v8 = 0 → Q (S, M7, some (.inl (0 : Int)))) ∧ (v8 ≠ 0 → Q (S, M7, some (.inl (1 : Int))))))))))))) : Ca 84 [.inr (.inr (t + 1)), .inl p1, .inl p2, .inl p3] S M Q := by
  have hP : PR 84 = (bc_84, 4) := rfl
  refine ⟨Nat.le_of_ble_eq_true rfl, ?_⟩
  show En 84 0 [some (.inr (.inr (t + 1))), some (.inl p1), some (.inl p2), some (.inl p3)] [] S M Q
  refine e_ldR hP rfl rfl (nz_q (tw_p ht 0)) ?_
  refine e_gR (a := 7) (w := t + 6) t (tw_o hS ht) hP rfl (by decide) rfl ?_
  refine e_ld hP rfl rfl ?_
  obtain ⟨hs1, h⟩ := h
  refine e_al (t + 5) (tw_a5 hS ht) hP rfl hs1 ?_
  refine e_c hP rfl ?_
  refine e_cne hP rfl (fun hc => ?_) (fun hc => ?_)
  · have h := h.1 hc
    refine e_c hP rfl ?_
    exact e_ret hP rfl rfl h
  · have h := h.2 hc
    refine e_ldR hP rfl rfl (nz_q (tw_p ht 0)) ?_
    refine e_gR (a := 7) (w := t + 6) t (tw_o hS ht) hP rfl (by decide) rfl ?_
    refine e_ld hP rfl rfl ?_
    obtain ⟨hs2, h⟩ := h
    refine e_al (t + 5) (tw_a5 hS ht) hP rfl hs2 ?_
    refine e_c hP rfl ?_
    refine e_cne hP rfl (fun hc => ?_) (fun hc => ?_)
    · have h := h.1 hc
      refine e_c hP rfl ?_
      exact e_ret hP rfl rfl h
    · have h := h.2 hc
      refine e_ldR hP rfl rfl (nz_q (tw_p ht 0)) ?_
      refine e_ldR hP rfl rfl (nz_q (tw_p ht 0)) ?_
      refine e_ld hP rfl rfl ?_
      refine e_call hP rfl rfl rfl (Nat.le_of_ble_eq_true rfl) (Nat.le_of_ble_eq_true rfl) (rcv0 (tw_o hS ht) (tw_p ht 0)) ?_
      refine Ca.mono h (fun r hr => ?_)
      obtain ⟨M3, v4, rfl, h⟩ := hr
      show En 84 16 [some (.inr (.inr (t + 1))), some (.inl p1), some (.inl p2), some (.inl p3)] [.inl v4, .inr (.inr (t + 1))] S M3 Q
      refine e_ldR hP rfl rfl (nz_q (tw_p ht 0)) ?_
      refine e_ld hP rfl rfl ?_
      refine e_call hP rfl rfl rfl (Nat.le_of_ble_eq_true rfl) (Nat.le_of_ble_eq_true rfl) (rcv0 (tw_o hS ht) (tw_p ht 0)) ?_
      refine Ca.mono h (fun r hr => ?_)
      obtain ⟨M5, v6, rfl, h⟩ := hr
      show En 84 19 [some (.inr (.inr (t + 1))), some (.inl p1), some (.inl p2), some (.inl p3)] [.inl v6, .inl v4, .inr (.inr (t + 1))] S M5 Q
      refine e_ld hP rfl rfl ?_
      refine e_call hP rfl rfl rfl (Nat.le_of_ble_eq_true rfl) (Nat.le_of_ble_eq_true rfl) (rcv0 (tw_o hS ht) (tw_p ht 0)) ?_
      refine Ca.mono h (fun r hr => ?_)
      obtain ⟨M7, v8, rfl, h⟩ := hr
      show En 84 21 [some (.inr (.inr (t + 1))), some (.inl p1), some (.inl p2), some (.inl p3)] [.inl v8] S M7 Q
      refine e_zeq hP rfl (fun hc => ?_) (fun hc => ?_)
      · have h := h.1 hc
        refine e_c hP rfl ?_
        exact e_ret hP rfl rfl h
      · have h := h.2 hc
        refine e_c hP rfl ?_
        refine e_go hP rfl ?_
        exact e_ret hP rfl rfl h
theorem r_X7_countWed_0 {S : Shp} {M : Mem} {Q : Res → Prop} (hS : KC S) {t : Nat} (ht : t ∈ bx_tw) (h : En 85 4 [some (.inr (.inr (t + 1))), some (.inl (0 : Int)), some (.inl (0 : Int))] [] S M Q) : Ca 85 [.inr (.inr (t + 1))] S M Q := by
  have hP : PR 85 = (bc_85, 3) := rfl
  refine ⟨Nat.le_of_ble_eq_true rfl, ?_⟩
  show En 85 0 [some (.inr (.inr (t + 1))), none, none] [] S M Q
  refine e_c hP rfl ?_
  refine e_st (L' := [some (.inr (.inr (t + 1))), some (.inl (0 : Int)), none]) hP rfl rfl ?_
  refine e_c hP rfl ?_
  refine e_st (L' := [some (.inr (.inr (t + 1))), some (.inl (0 : Int)), some (.inl (0 : Int))]) hP rfl rfl ?_
  exact h
theorem r_X7_countWed_4 {S : Shp} {M : Mem} {Q : Res → Prop} (hS : KC S) {t : Nat} (ht : t ∈ bx_tw) {x1 x2 : Int} (h : (((M t 0) ≤ x2 → Q (S, M, some (.inl x1))) ∧ (x2 < (M t 0) → (0 ≤ x2 ∧ x2 < 8) ∧ (((M (t + 5) x2.toNat) ≠ (-4 : Int) → (inR (x1 + (1 : Int))) ∧ (inR (x2 + 1)) ∧ En 85 4 [some (.inr (.inr (t + 1))), some (.inl (x1 + (1 : Int))), some (.inl (x2 + 1))] [] S M Q) ∧ ((M (t + 5) x2.toNat) = (-4 : Int) → (inR (x1 + (0 : Int))) ∧ (inR (x2 + 1)) ∧ En 85 4 [some (.inr (.inr (t + 1))), some (.inl (x1 + (0 : Int))), some (.inl (x2 + 1))] [] S M Q))))) : En 85 4 [some (.inr (.inr (t + 1))), some (.inl x1), some (.inl x2)] [] S M Q := by
  have hP : PR 85 = (bc_85, 3) := rfl
  refine e_ld hP rfl rfl ?_
  refine e_ldR hP rfl rfl (nz_q (tw_p ht 0)) ?_
  refine e_gI (a := 7) t (tw_o hS ht) hP rfl (by decide) ?_
  refine e_cge hP rfl (fun hc => ?_) (fun hc => ?_)
  · have h := h.1 hc
    refine e_ld hP rfl rfl ?_
    exact e_ret hP rfl rfl h
  · have h := h.2 hc
    refine e_ld hP rfl rfl ?_
    refine e_ldR hP rfl rfl (nz_q (tw_p ht 0)) ?_
    refine e_gR (a := 7) (w := t + 6) t (tw_o hS ht) hP rfl (by decide) rfl ?_
    refine e_ld hP rfl rfl ?_
    obtain ⟨hs1, h⟩ := h
    refine e_al (t + 5) (tw_a5 hS ht) hP rfl hs1 ?_
    refine e_c hP rfl ?_
    refine e_cne hP rfl (fun hc => ?_) (fun hc => ?_)
    · have h := h.1 hc
      refine e_c hP rfl ?_
      obtain ⟨hs2, h⟩ := h
      refine e_add hP rfl hs2 ?_
      refine e_st (L' := [some (.inr (.inr (t + 1))), some (.inl (x1 + (1 : Int))), some (.inl x2)]) hP rfl rfl ?_
      obtain ⟨hs3, h⟩ := h
      refine e_inc (L' := [some (.inr (.inr (t + 1))), some (.inl (x1 + (1 : Int))), some (.inl (x2 + 1))]) hP rfl rfl hs3 rfl ?_
      refine e_go hP rfl ?_
      exact h
    · have h := h.2 hc
      refine e_c hP rfl ?_
      refine e_go hP rfl ?_
      obtain ⟨hs4, h⟩ := h
      refine e_add hP rfl hs4 ?_
      refine e_st (L' := [some (.inr (.inr (t + 1))), some (.inl (x1 + (0 : Int))), some (.inl x2)]) hP rfl rfl ?_
      obtain ⟨hs5, h⟩ := h
      refine e_inc (L' := [some (.inr (.inr (t + 1))), some (.inl (x1 + (0 : Int))), some (.inl (x2 + 1))]) hP rfl rfl hs5 rfl ?_
      refine e_go hP rfl ?_
      exact h
theorem r_X7_mayLend_0 {S : Shp} {M : Mem} {Q : Res → Prop} (hS : KC S) {t : Nat} (ht : t ∈ bx_tw) {p1 p2 : Int} (h : Ca 74 [.inr (.inr (t + 1)), .inl p1] S M (fun r => ∃ (M1 : Mem) (v2 : Int), r = (S, M1, some (.inl v2)) ∧ ((v2 ≠ 0 → Q (S, M1, some (.inl (1 : Int)))) ∧ (v2 = 0 → Ca 74 [.inr (.inr (t + 1)), .inl p2] S M1 (fun r => ∃ (M3 : Mem) (v4 : Int), r = (S, M3, some (.inl v4)) ∧ ((v4 ≠ 0 → Q (S, M3, some (.inl (1 : Int)))) ∧ (v4 = 0 → Ca 76 [.inr (.inr (t + 1)), .inl p1] S M3 (fun r => ∃ (M5 : Mem) (v6 : Int), r = (S, M5, some (.inl v6)) ∧ (0 ≤ v6 ∧ v6 < 26) ∧ Ca 76 [.inr (.inr (t + 1)), .inl p2] S M5 (fun r => ∃ (M8 : Mem) (v9 : Int), r = (S, M8, some (.inl v9)) ∧ (0 ≤ v9 ∧ v9 < 26) ∧ (((M8 (t + 8) v9.toNat) ≤ (M5 (t + 8) v6.toNat) → Q (S, M8, some (.inl (0 : Int)))) ∧ ((M5 (t + 8) v6.toNat) < (M8 (t + 8) v9.toNat) → Q (S, M8, some (.inl (1 : Int)))))))))))))) : Ca 86 [.inr (.inr (t + 1)), .inl p1, .inl p2] S M Q := by
  have hP : PR 86 = (bc_86, 3) := rfl
  refine ⟨Nat.le_of_ble_eq_true rfl, ?_⟩
  show En 86 0 [some (.inr (.inr (t + 1))), some (.inl p1), some (.inl p2)] [] S M Q
  refine e_ldR hP rfl rfl (nz_q (tw_p ht 0)) ?_
  refine e_ld hP rfl rfl ?_
  refine e_call hP rfl rfl rfl (Nat.le_of_ble_eq_true rfl) (Nat.le_of_ble_eq_true rfl) (rcv0 (tw_o hS ht) (tw_p ht 0)) ?_
  refine Ca.mono h (fun r hr => ?_)
  obtain ⟨M1, v2, rfl, h⟩ := hr
  show En 86 3 [some (.inr (.inr (t + 1))), some (.inl p1), some (.inl p2)] [.inl v2] S M1 Q
  refine e_zne hP rfl (fun hc => ?_) (fun hc => ?_)
  · have h := h.1 hc
    refine e_c hP rfl ?_
    refine e_go hP rfl ?_
    exact e_ret hP rfl rfl h
  · have h := h.2 hc
    refine e_ldR hP rfl rfl (nz_q (tw_p ht 0)) ?_
    refine e_ld hP rfl rfl ?_
    refine e_call hP rfl rfl rfl (Nat.le_of_ble_eq_true rfl) (Nat.le_of_ble_eq_true rfl) (rcv0 (tw_o hS ht) (tw_p ht 0)) ?_
    refine Ca.mono h (fun r hr => ?_)
    obtain ⟨M3, v4, rfl, h⟩ := hr
    show En 86 7 [some (.inr (.inr (t + 1))), some (.inl p1), some (.inl p2)] [.inl v4] S M3 Q
    refine e_zne hP rfl (fun hc => ?_) (fun hc => ?_)
    · have h := h.1 hc
      refine e_c hP rfl ?_
      refine e_go hP rfl ?_
      exact e_ret hP rfl rfl h
    · have h := h.2 hc
      refine e_ldR hP rfl rfl (nz_q (tw_p ht 0)) ?_
      refine e_gR (a := 7) (w := t + 9) t (tw_o hS ht) hP rfl (by decide) rfl ?_
      refine e_ldR hP rfl rfl (nz_q (tw_p ht 0)) ?_
      refine e_ld hP rfl rfl ?_
      refine e_call hP rfl rfl rfl (Nat.le_of_ble_eq_true rfl) (Nat.le_of_ble_eq_true rfl) (rcv0 (tw_o hS ht) (tw_p ht 0)) ?_
      refine Ca.mono h (fun r hr => ?_)
      obtain ⟨M5, v6, rfl, h⟩ := hr
      show En 86 13 [some (.inr (.inr (t + 1))), some (.inl p1), some (.inl p2)] [.inl v6, .inr (.inr (t + 9))] S M5 Q
      obtain ⟨hs7, h⟩ := h
      refine e_al (t + 8) (tw_a8 hS ht) hP rfl hs7 ?_
      refine e_ldR hP rfl rfl (nz_q (tw_p ht 0)) ?_
      refine e_gR (a := 7) (w := t + 9) t (tw_o hS ht) hP rfl (by decide) rfl ?_
      refine e_ldR hP rfl rfl (nz_q (tw_p ht 0)) ?_
      refine e_ld hP rfl rfl ?_
      refine e_call hP rfl rfl rfl (Nat.le_of_ble_eq_true rfl) (Nat.le_of_ble_eq_true rfl) (rcv0 (tw_o hS ht) (tw_p ht 0)) ?_
      refine Ca.mono h (fun r hr => ?_)
      obtain ⟨M8, v9, rfl, h⟩ := hr
      show En 86 19 [some (.inr (.inr (t + 1))), some (.inl p1), some (.inl p2)] [.inl v9, .inr (.inr (t + 9)), .inl (M5 (t + 8) v6.toNat)] S M8 Q
      obtain ⟨hs10, h⟩ := h
      refine e_al (t + 8) (tw_a8 hS ht) hP rfl hs10 ?_
      refine e_cge hP rfl (fun hc => ?_) (fun hc => ?_)
      · have h := h.1 hc
        refine e_c hP rfl ?_
        exact e_ret hP rfl rfl h
      · have h := h.2 hc
        refine e_c hP rfl ?_
        refine e_go hP rfl ?_
        exact e_ret hP rfl rfl h
theorem r_X7_pay_0 {S : Shp} {M : Mem} {Q : Res → Prop} (hS : KC S) {t : Nat} (ht : t ∈ bx_tw) {p1 p2 p3 : Int} (h : (0 ≤ p1 ∧ p1 < 8) ∧ (inR ((M (t + 4) p1.toNat) - p3)) ∧ (0 ≤ p1 ∧ p1 < 8) ∧ (0 ≤ p2 ∧ p2 < 8) ∧ (inR (((up2 M (t + 4) p1.toNat ((M (t + 4) p1.toNat) - p3)) (t + 4) p2.toNat) + p3)) ∧ (0 ≤ p2 ∧ p2 < 8) ∧ Q (S, up2 (up2 M (t + 4) p1.toNat ((M (t + 4) p1.toNat) - p3)) (t + 4) p2.toNat (((up2 M (t + 4) p1.toNat ((M (t + 4) p1.toNat) - p3)) (t + 4) p2.toNat) + p3), none)) : Ca 87 [.inr (.inr (t + 1)), .inl p1, .inl p2, .inl p3] S M Q := by
  have hP : PR 87 = (bc_87, 4) := rfl
  refine ⟨Nat.le_of_ble_eq_true rfl, ?_⟩
  show En 87 0 [some (.inr (.inr (t + 1))), some (.inl p1), some (.inl p2), some (.inl p3)] [] S M Q
  refine e_ldR hP rfl rfl (nz_q (tw_p ht 0)) ?_
  refine e_gR (a := 7) (w := t + 5) t (tw_o hS ht) hP rfl (by decide) rfl ?_
  refine e_ld hP rfl rfl ?_
  refine e_dup2 hP rfl ?_
  obtain ⟨hs1, h⟩ := h
  refine e_al (t + 4) (tw_a4 hS ht) hP rfl hs1 ?_
  refine e_ld hP rfl rfl ?_
  obtain ⟨hs2, h⟩ := h
  refine e_sub hP rfl hs2 ?_
  obtain ⟨hs3, h⟩ := h
  refine e_as (t + 4) (tw_a4 hS ht) (tw_p ht 4) hP rfl hs3 ?_
  refine e_ldR hP rfl rfl (nz_q (tw_p ht 0)) ?_
  refine e_gR (a := 7) (w := t + 5) t (tw_o hS ht) hP rfl (by decide) rfl ?_
  refine e_ld hP rfl rfl ?_
  refine e_dup2 hP rfl ?_
  obtain ⟨hs4, h⟩ := h
  refine e_al (t + 4) (tw_a4 hS ht) hP rfl hs4 ?_
  refine e_ld hP rfl rfl ?_
  obtain ⟨hs5, h⟩ := h
  refine e_add hP rfl hs5 ?_
  obtain ⟨hs6, h⟩ := h
  refine e_as (t + 4) (tw_a4 hS ht) (tw_p ht 4) hP rfl hs6 ?_
  exact e_retv hP rfl h
theorem r_X7_debt_0 {S : Shp} {M : Mem} {Q : Res → Prop} (hS : KC S) {t : Nat} (ht : t ∈ bx_tw) {p1 p2 : Int} (h : (inR (p1 * (8 : Int))) ∧ (inR ((p1 * (8 : Int)) + p2)) ∧ (0 ≤ ((p1 * (8 : Int)) + p2) ∧ ((p1 * (8 : Int)) + p2) < 64) ∧ Q (S, M, some (.inl (M (t + 7) ((p1 * (8 : Int)) + p2).toNat)))) : Ca 88 [.inr (.inr (t + 1)), .inl p1, .inl p2] S M Q := by
  have hP : PR 88 = (bc_88, 3) := rfl
  refine ⟨Nat.le_of_ble_eq_true rfl, ?_⟩
  show En 88 0 [some (.inr (.inr (t + 1))), some (.inl p1), some (.inl p2)] [] S M Q
  refine e_ldR hP rfl rfl (nz_q (tw_p ht 0)) ?_
  refine e_gR (a := 7) (w := t + 8) t (tw_o hS ht) hP rfl (by decide) rfl ?_
  refine e_ld hP rfl rfl ?_
  refine e_c hP rfl ?_
  obtain ⟨hs1, h⟩ := h
  refine e_mul hP rfl hs1 ?_
  refine e_ld hP rfl rfl ?_
  obtain ⟨hs2, h⟩ := h
  refine e_add hP rfl hs2 ?_
  obtain ⟨hs3, h⟩ := h
  refine e_al (t + 7) (tw_a7 hS ht) hP rfl hs3 ?_
  exact e_ret hP rfl rfl h
theorem r_X7_setDebt_0 {S : Shp} {M : Mem} {Q : Res → Prop} (hS : KC S) {t : Nat} (ht : t ∈ bx_tw) {p1 p2 p3 : Int} (h : (inR (p1 * (8 : Int))) ∧ (inR ((p1 * (8 : Int)) + p2)) ∧ (0 ≤ ((p1 * (8 : Int)) + p2) ∧ ((p1 * (8 : Int)) + p2) < 64) ∧ Q (S, up2 M (t + 7) ((p1 * (8 : Int)) + p2).toNat p3, none)) : Ca 89 [.inr (.inr (t + 1)), .inl p1, .inl p2, .inl p3] S M Q := by
  have hP : PR 89 = (bc_89, 4) := rfl
  refine ⟨Nat.le_of_ble_eq_true rfl, ?_⟩
  show En 89 0 [some (.inr (.inr (t + 1))), some (.inl p1), some (.inl p2), some (.inl p3)] [] S M Q
  refine e_ldR hP rfl rfl (nz_q (tw_p ht 0)) ?_
  refine e_gR (a := 7) (w := t + 8) t (tw_o hS ht) hP rfl (by decide) rfl ?_
  refine e_ld hP rfl rfl ?_
  refine e_c hP rfl ?_
  obtain ⟨hs1, h⟩ := h
  refine e_mul hP rfl hs1 ?_
  refine e_ld hP rfl rfl ?_
  obtain ⟨hs2, h⟩ := h
  refine e_add hP rfl hs2 ?_
  refine e_ld hP rfl rfl ?_
  obtain ⟨hs3, h⟩ := h
  refine e_as (t + 7) (tw_a7 hS ht) (tw_p ht 7) hP rfl hs3 ?_
  exact e_retv hP rfl h
theorem r_X7_balance_0 {S : Shp} {M : Mem} {Q : Res → Prop} (hS : KC S) {t : Nat} (ht : t ∈ bx_tw) {p1 : Int} (h : En 90 4 [some (.inr (.inr (t + 1))), some (.inl p1), some (.inl (0 : Int)), some (.inl (0 : Int))] [] S M Q) : Ca 90 [.inr (.inr (t + 1)), .inl p1] S M Q := by
  have hP : PR 90 = (bc_90, 4) := rfl
  refine ⟨Nat.le_of_ble_eq_true rfl, ?_⟩
  show En 90 0 [some (.inr (.inr (t + 1))), some (.inl p1), none, none] [] S M Q
  refine e_c hP rfl ?_
  refine e_st (L' := [some (.inr (.inr (t + 1))), some (.inl p1), some (.inl (0 : Int)), none]) hP rfl rfl ?_
  refine e_c hP rfl ?_
  refine e_st (L' := [some (.inr (.inr (t + 1))), some (.inl p1), some (.inl (0 : Int)), some (.inl (0 : Int))]) hP rfl rfl ?_
  exact h
theorem r_X7_balance_4 {S : Shp} {M : Mem} {Q : Res → Prop} (hS : KC S) {t : Nat} (ht : t ∈ bx_tw) {x1 x2 x3 : Int} (h : (((M t 0) ≤ x3 → Q (S, M, some (.inl x2))) ∧ (x3 < (M t 0) → Ca 88 [.inr (.inr (t + 1)), .inl x1, .inl x3] S M (fun r => ∃ (M1 : Mem) (v2 : Int), r = (S, M1, some (.inl v2)) ∧ Ca 88 [.inr (.inr (t + 1)), .inl x3, .inl x1] S M1 (fun r => ∃ (M3 : Mem) (v4 : Int), r = (S, M3, some (.inl v4)) ∧ (inR (v2 - v4)) ∧ (inR (x2 + (v2 - v4))) ∧ (inR (x3 + 1)) ∧ En 90 4 [some (.inr (.inr (t + 1))), some (.inl x1), some (.inl (x2 + (v2 - v4))), some (.inl (x3 + 1))] [] S M3 Q))))) : En 90 4 [some (.inr (.inr (t + 1))), some (.inl x1), some (.inl x2), some (.inl x3)] [] S M Q := by
  have hP : PR 90 = (bc_90, 4) := rfl
  refine e_ld hP rfl rfl ?_
  refine e_ldR hP rfl rfl (nz_q (tw_p ht 0)) ?_
  refine e_gI (a := 7) t (tw_o hS ht) hP rfl (by decide) ?_
  refine e_cge hP rfl (fun hc => ?_) (fun hc => ?_)
  · have h := h.1 hc
    refine e_ld hP rfl rfl ?_
    exact e_ret hP rfl rfl h
  · have h := h.2 hc
    refine e_ld hP rfl rfl ?_
    refine e_ldR hP rfl rfl (nz_q (tw_p ht 0)) ?_
    refine e_ld hP rfl rfl ?_
    refine e_ld hP rfl rfl ?_
    refine e_call hP rfl rfl rfl (Nat.le_of_ble_eq_true rfl) (Nat.le_of_ble_eq_true rfl) (rcv0 (tw_o hS ht) (tw_p ht 0)) ?_
    refine Ca.mono h (fun r hr => ?_)
    obtain ⟨M1, v2, rfl, h⟩ := hr
    show En 90 13 [some (.inr (.inr (t + 1))), some (.inl x1), some (.inl x2), some (.inl x3)] [.inl v2, .inl x2] S M1 Q
    refine e_ldR hP rfl rfl (nz_q (tw_p ht 0)) ?_
    refine e_ld hP rfl rfl ?_
    refine e_ld hP rfl rfl ?_
    refine e_call hP rfl rfl rfl (Nat.le_of_ble_eq_true rfl) (Nat.le_of_ble_eq_true rfl) (rcv0 (tw_o hS ht) (tw_p ht 0)) ?_
    refine Ca.mono h (fun r hr => ?_)
    obtain ⟨M3, v4, rfl, h⟩ := hr
    show En 90 17 [some (.inr (.inr (t + 1))), some (.inl x1), some (.inl x2), some (.inl x3)] [.inl v4, .inl v2, .inl x2] S M3 Q
    obtain ⟨hs5, h⟩ := h
    refine e_sub hP rfl hs5 ?_
    obtain ⟨hs6, h⟩ := h
    refine e_add hP rfl hs6 ?_
    refine e_st (L' := [some (.inr (.inr (t + 1))), some (.inl x1), some (.inl (x2 + (v2 - v4))), some (.inl x3)]) hP rfl rfl ?_
    obtain ⟨hs7, h⟩ := h
    refine e_inc (L' := [some (.inr (.inr (t + 1))), some (.inl x1), some (.inl (x2 + (v2 - v4))), some (.inl (x3 + 1))]) hP rfl rfl hs7 rfl ?_
    refine e_go hP rfl ?_
    exact h
theorem r_X7_quarrelAtTable_0 {S : Shp} {M : Mem} {Q : Res → Prop} (hS : KC S) {t : Nat} (ht : t ∈ bx_tw) {p1 p2 : Int} (h : Ca 74 [.inr (.inr (t + 1)), .inl p1] S M (fun r => ∃ (M1 : Mem) (v2 : Int), r = (S, M1, some (.inl v2)) ∧ ((v2 ≠ 0 → Q (S, M1, some (.inl (0 : Int)))) ∧ (v2 = 0 → Ca 74 [.inr (.inr (t + 1)), .inl p2] S M1 (fun r => ∃ (M3 : Mem) (v4 : Int), r = (S, M3, some (.inl v4)) ∧ ((v4 ≠ 0 → Q (S, M3, some (.inl (0 : Int)))) ∧ (v4 = 0 → Ca 76 [.inr (.inr (t + 1)), .inl p1] S M3 (fun r => ∃ (M5 : Mem) (v6 : Int), r = (S, M5, some (.inl v6)) ∧ Ca 76 [.inr (.inr (t + 1)), .inl p2] S M5 (fun r => ∃ (M7 : Mem) (v8 : Int), r = (S, M7, some (.inl v8)) ∧ Ca 72 [.inr (.inr (t + 1)), .inl v6, .inl v8] S M7 (fun r => ∃ (M9 : Mem) (v10 : Int), r = (S, M9, some (.inl v10)) ∧ ((v10 = 0 → Q (S, M9, some (.inl (0 : Int)))) ∧ (v10 ≠ 0 → Q (S, M9, some (.inl (1 : Int))))))))))))))) : Ca 91 [.inr (.inr (t + 1)), .inl p1, .inl p2] S M Q := by
  have hP : PR 91 = (bc_91, 3) := rfl
  refine ⟨Nat.le_of_ble_eq_true rfl, ?_⟩
  show En 91 0 [some (.inr (.inr (t + 1))), some (.inl p1), some (.inl p2)] [] S M Q
  refine e_ldR hP rfl rfl (nz_q (tw_p ht 0)) ?_
  refine e_ld hP rfl rfl ?_
  refine e_call hP rfl rfl rfl (Nat.le_of_ble_eq_true rfl) (Nat.le_of_ble_eq_true rfl) (rcv0 (tw_o hS ht) (tw_p ht 0)) ?_
  refine Ca.mono h (fun r hr => ?_)
  obtain ⟨M1, v2, rfl, h⟩ := hr
  show En 91 3 [some (.inr (.inr (t + 1))), some (.inl p1), some (.inl p2)] [.inl v2] S M1 Q
  refine e_zne hP rfl (fun hc => ?_) (fun hc => ?_)
  · have h := h.1 hc
    refine e_c hP rfl ?_
    exact e_ret hP rfl rfl h
  · have h := h.2 hc
    refine e_ldR hP rfl rfl (nz_q (tw_p ht 0)) ?_
    refine e_ld hP rfl rfl ?_
    refine e_call hP rfl rfl rfl (Nat.le_of_ble_eq_true rfl) (Nat.le_of_ble_eq_true rfl) (rcv0 (tw_o hS ht) (tw_p ht 0)) ?_
    refine Ca.mono h (fun r hr => ?_)
    obtain ⟨M3, v4, rfl, h⟩ := hr
    show En 91 7 [some (.inr (.inr (t + 1))), some (.inl p1), some (.inl p2)] [.inl v4] S M3 Q
    refine e_zne hP rfl (fun hc => ?_) (fun hc => ?_)
    · have h := h.1 hc
      refine e_c hP rfl ?_
      exact e_ret hP rfl rfl h
    · have h := h.2 hc
      refine e_ldR hP rfl rfl (nz_q (tw_p ht 0)) ?_
      refine e_ldR hP rfl rfl (nz_q (tw_p ht 0)) ?_
      refine e_ld hP rfl rfl ?_
      refine e_call hP rfl rfl rfl (Nat.le_of_ble_eq_true rfl) (Nat.le_of_ble_eq_true rfl) (rcv0 (tw_o hS ht) (tw_p ht 0)) ?_
      refine Ca.mono h (fun r hr => ?_)
      obtain ⟨M5, v6, rfl, h⟩ := hr
      show En 91 12 [some (.inr (.inr (t + 1))), some (.inl p1), some (.inl p2)] [.inl v6, .inr (.inr (t + 1))] S M5 Q
      refine e_ldR hP rfl rfl (nz_q (tw_p ht 0)) ?_
      refine e_ld hP rfl rfl ?_
      refine e_call hP rfl rfl rfl (Nat.le_of_ble_eq_true rfl) (Nat.le_of_ble_eq_true rfl) (rcv0 (tw_o hS ht) (tw_p ht 0)) ?_
      refine Ca.mono h (fun r hr => ?_)
      obtain ⟨M7, v8, rfl, h⟩ := hr
      show En 91 15 [some (.inr (.inr (t + 1))), some (.inl p1), some (.inl p2)] [.inl v8, .inl v6, .inr (.inr (t + 1))] S M7 Q
      refine e_call hP rfl rfl rfl (Nat.le_of_ble_eq_true rfl) (Nat.le_of_ble_eq_true rfl) (rcv0 (tw_o hS ht) (tw_p ht 0)) ?_
      refine Ca.mono h (fun r hr => ?_)
      obtain ⟨M9, v10, rfl, h⟩ := hr
      show En 91 16 [some (.inr (.inr (t + 1))), some (.inl p1), some (.inl p2)] [.inl v10] S M9 Q
      refine e_zeq hP rfl (fun hc => ?_) (fun hc => ?_)
      · have h := h.1 hc
        refine e_c hP rfl ?_
        exact e_ret hP rfl rfl h
      · have h := h.2 hc
        refine e_c hP rfl ?_
        refine e_go hP rfl ?_
        exact e_ret hP rfl rfl h
theorem r_X7_drawFirstLetters_0 {S : Shp} {M : Mem} {Q : Res → Prop} (hS : KC S) {t : Nat} (ht : t ∈ bx_tw) {p1 : Int} (h : En 92 2 [some (.inr (.inr (t + 1))), some (.inl p1), some (.inl (0 : Int)), none, none] [] S M Q) : Ca 92 [.inr (.inr (t + 1)), .inl p1] S M Q := by
  have hP : PR 92 = (bc_92, 5) := rfl
  refine ⟨Nat.le_of_ble_eq_true rfl, ?_⟩
  show En 92 0 [some (.inr (.inr (t + 1))), some (.inl p1), none, none, none] [] S M Q
  refine e_c hP rfl ?_
  refine e_st (L' := [some (.inr (.inr (t + 1))), some (.inl p1), some (.inl (0 : Int)), none, none]) hP rfl rfl ?_
  exact h
theorem r_X7_drawFirstLetters_2 {S : Shp} {M : Mem} {Q : Res → Prop} (hS : KC S) {t : Nat} (ht : t ∈ bx_tw) {x1 x2 : Int} (h : (((M t 0) ≤ x2 → Q (S, M, none)) ∧ (x2 < (M t 0) → (inL ((7919 : Int) * x1)) ∧ (inL ((6151 : Int) * x2)) ∧ (inL (((7919 : Int) * x1) + ((6151 : Int) * x2))) ∧ (inL ((((7919 : Int) * x1) + ((6151 : Int) * x2)) + (1 : Int))) ∧ (inL (((((7919 : Int) * x1) + ((6151 : Int) * x2)) + (1 : Int)) * ((((7919 : Int) * x1) + ((6151 : Int) * x2)) + (1 : Int)))) ∧ (0 ≤ (((((7919 : Int) * x1) + ((6151 : Int) * x2)) + (1 : Int)) * ((((7919 : Int) * x1) + ((6151 : Int) * x2)) + (1 : Int))) ∧ 0 < (65521 : Int)) ∧ (0 ≤ ((((((7919 : Int) * x1) + ((6151 : Int) * x2)) + (1 : Int)) * ((((7919 : Int) * x1) + ((6151 : Int) * x2)) + (1 : Int))) % (65521 : Int)) ∧ 0 < (26 : Int)) ∧ (inR (((((((7919 : Int) * x1) + ((6151 : Int) * x2)) + (1 : Int)) * ((((7919 : Int) * x1) + ((6151 : Int) * x2)) + (1 : Int))) % (65521 : Int)) % (26 : Int))) ∧ Ca 77 [.inr (.inr (t + 1)), .inl x2, .inl (((((((7919 : Int) * x1) + ((6151 : Int) * x2)) + (1 : Int)) * ((((7919 : Int) * x1) + ((6151 : Int) * x2)) + (1 : Int))) % (65521 : Int)) % (26 : Int))] S M (fun r => ∃ M9 : Mem, r = (S, M9, none) ∧ (inR (x2 + 1)) ∧ En 92 2 [some (.inr (.inr (t + 1))), some (.inl x1), some (.inl (x2 + 1)), none, none] [] S M9 Q)))) : En 92 2 [some (.inr (.inr (t + 1))), some (.inl x1), some (.inl x2), none, none] [] S M Q := by
  have hP : PR 92 = (bc_92, 5) := rfl
  refine e_ld hP rfl rfl ?_
  refine e_ldR hP rfl rfl (nz_q (tw_p ht 0)) ?_
  refine e_gI (a := 7) t (tw_o hS ht) hP rfl (by decide) ?_
  refine e_cge hP rfl (fun hc => ?_) (fun hc => ?_)
  · have h := h.1 hc
    exact e_retv hP rfl h
  · have h := h.2 hc
    refine e_lc hP rfl ?_
    refine e_ld hP rfl rfl ?_
    refine e_i2l hP rfl ?_
    obtain ⟨hs1, h⟩ := h
    refine e_lb (z := (7919 : Int) * x1) hP rfl (if_pos hs1) ?_
    refine e_lc hP rfl ?_
    refine e_ld hP rfl rfl ?_
    refine e_i2l hP rfl ?_
    obtain ⟨hs2, h⟩ := h
    refine e_lb (z := (6151 : Int) * x2) hP rfl (if_pos hs2) ?_
    obtain ⟨hs3, h⟩ := h
    refine e_lb (z := ((7919 : Int) * x1) + ((6151 : Int) * x2)) hP rfl (if_pos hs3) ?_
    refine e_lc hP rfl ?_
    obtain ⟨hs4, h⟩ := h
    refine e_lb (z := (((7919 : Int) * x1) + ((6151 : Int) * x2)) + (1 : Int)) hP rfl (if_pos hs4) ?_
    refine e_st (L' := [some (.inr (.inr (t + 1))), some (.inl x1), some (.inl x2), some (.inr (.inl ((((7919 : Int) * x1) + ((6151 : Int) * x2)) + (1 : Int)))), none]) hP rfl rfl ?_
    refine e_ldR hP rfl rfl (nz_q (tw_p ht 0)) ?_
    refine e_ld hP rfl rfl ?_
    refine e_ld hP rfl rfl ?_
    refine e_ld hP rfl rfl ?_
    obtain ⟨hs5, h⟩ := h
    refine e_lb (z := ((((7919 : Int) * x1) + ((6151 : Int) * x2)) + (1 : Int)) * ((((7919 : Int) * x1) + ((6151 : Int) * x2)) + (1 : Int))) hP rfl (if_pos hs5) ?_
    refine e_lc hP rfl ?_
    obtain ⟨hs6, h⟩ := h
    refine e_lb (z := (((((7919 : Int) * x1) + ((6151 : Int) * x2)) + (1 : Int)) * ((((7919 : Int) * x1) + ((6151 : Int) * x2)) + (1 : Int))) % (65521 : Int)) hP rfl (if_pos hs6) ?_
    refine e_lc hP rfl ?_
    obtain ⟨hs7, h⟩ := h
    refine e_lb (z := ((((((7919 : Int) * x1) + ((6151 : Int) * x2)) + (1 : Int)) * ((((7919 : Int) * x1) + ((6151 : Int) * x2)) + (1 : Int))) % (65521 : Int)) % (26 : Int)) hP rfl (if_pos hs7) ?_
    obtain ⟨hs8, h⟩ := h
    refine e_l2i hP rfl hs8 ?_
    refine e_call hP rfl rfl rfl (Nat.le_of_ble_eq_true rfl) (Nat.le_of_ble_eq_true rfl) (rcv0 (tw_o hS ht) (tw_p ht 0)) ?_
    refine Ca.mono h (fun r hr => ?_)
    obtain ⟨M9, rfl, h⟩ := hr
    show En 92 29 [some (.inr (.inr (t + 1))), some (.inl x1), some (.inl x2), some (.inr (.inl ((((7919 : Int) * x1) + ((6151 : Int) * x2)) + (1 : Int)))), none] [] S M9 Q
    obtain ⟨hs10, h⟩ := h
    refine e_inc (L' := [some (.inr (.inr (t + 1))), some (.inl x1), some (.inl (x2 + 1)), some (.inr (.inl ((((7919 : Int) * x1) + ((6151 : Int) * x2)) + (1 : Int)))), none]) hP rfl rfl hs10 rfl ?_
    refine e_go hP rfl ?_
    exact en_fg h ⟨Or.inr rfl, Or.inr rfl, Or.inr rfl, Or.inl rfl, Or.inr rfl, trivial⟩
