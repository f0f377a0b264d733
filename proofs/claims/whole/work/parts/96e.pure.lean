/-! THE LAW, FROM ITS START TO ITS END -/
section Whole
variable {S : Shp} {M : Mem} {Q : Res → Prop} {N : Nat}
theorem and_63 (x : Int) : ∃ z, bi_and x 63 = some z := by
  unfold bi_and
  by_cases h : 0 ≤ x
  · rw [if_pos h, if_pos (by decide)]; exact ⟨_, rfl⟩
  · rw [if_neg h, if_pos (by decide)]; exact ⟨_, rfl⟩
theorem f738 : bc_227[738]? = some (10, 3, 0, 6, []) := by decide +kernel
theorem f739 : bc_227[739]? = some (11, 10, 0, 0, []) := by decide +kernel
theorem f740 : bc_227[740]? = some (0, 0, 0, 1, []) := by decide +kernel
theorem f741 : bc_227[741]? = some (33, 1, 0, 0, []) := by decide +kernel
theorem lw_loop (hK : KC S) (hM : KM S) (hl : 4 ≤ S.length) (hS : S[0]? = some (0, N, [])) (hN : N ≤ 384) (h : ∀ M, Q (S, M, some (.inl 1))) : ∀ (d i : Nat) (M : Mem), N ≤ i + d → i ≤ 400 → Rel M → En 227 10 (LL i) [] S M Q := by
  intro d
  induction d using Nat.strongRecOn with
  | _ d ih =>
    intro i M hd hi4 hR
    refine e_ld hP227 rfl rfl ?_
    refine e_ldR hP227 rfl rfl (by decide) ?_
    refine e_len 0 hS (by decide) hP227 rfl ?_
    refine e_c hP227 rfl ?_
    refine e_sub hP227 rfl (by unfold inR; omega) ?_
    refine e_cgt hP227 rfl (fun _ => ?_) (fun hc => ?_)
    · refine e_c hP227 f740 ?_
      exact e_ret hP227 f741 (by decide) (h M)
    · have h5 : i + 5 < N := by omega
      have nx : ∀ M2, Rel M2 → M2 0 = M 0 → En 227 738 (LL i) [] S M2 Q := fun M2 R2 _ => by
        refine e_inc hP227 f738 rfl (by unfold inR; omega) rfl ?_
        refine e_go hP227 f739 ?_
        have ec : ((i : Int) + 6) = ((i + 6 : Nat) : Int) := by omega
        show En 227 10 [some (.inr (.inr 1)), some (.inr (.inr 5)), some (.inr (.inr 173)), some (.inl ((i : Int) + 6))] [] S M2 Q
        rw [ec]
        exact ih (d - 6) (by omega) (i + 6) M2 (by omega) (by omega) R2
      obtain ⟨z, hz⟩ := and_63 (M 0 i)
      refine e_ldR hP227 rfl rfl (by decide) ?_
      refine e_ld hP227 rfl rfl ?_
      refine e_al 0 hS hP227 rfl (by omega) ?_
      rw [Int.toNat_natCast]
      refine e_c hP227 rfl ?_
      refine e_and hP227 rfl hz ?_
      refine e_tab hP227 rfl (fun _ => nx M hR rfl) (fun k t hk _ => ?_)
      match k, hk with
      | 0, hk =>
        have e := Option.some.inj hk
        subst e
        exact lw_b1 (m := 15) (by decide +kernel) hK hM hl hS hN h5 (sim_write hK hM hR (M 0 (i + 1))) nx
      | 1, hk =>
        have e := Option.some.inj hk
        subst e
        exact lw_b0 (m := 5) (by decide +kernel) hK hM hl hS hN h5 (sim_wipe hK hM hR) nx
      | 2, hk =>
        have e := Option.some.inj hk
        subst e
        exact lw_b0 (m := 5) (by decide +kernel) hK hM hl hS hN h5 (sim_fault hK hM hR) nx
      | 3, hk =>
        have e := Option.some.inj hk
        subst e
        exact lw_b0 (m := 5) (by decide +kernel) hK hM hl hS hN h5 (sim_lay hK hM hR) nx
      | 4, hk =>
        have e := Option.some.inj hk
        subst e
        exact lw_b2 (m := 25) (by decide +kernel) hK hM hl hS hN h5 (sim_person hK hM hR (M 0 (i + 1)) (M 0 (i + 2))) nx
      | 5, hk =>
        have e := Option.some.inj hk
        subst e
        exact lw_b2 (m := 25) (by decide +kernel) hK hM hl hS hN h5 (sim_letter hK hM hR (M 0 (i + 1)) (M 0 (i + 2))) nx
      | 6, hk =>
        have e := Option.some.inj hk
        subst e
        exact lw_b2 (m := 25) (by decide +kernel) hK hM hl hS hN h5 (sim_alphabet hK hM hR (M 0 (i + 1)) (M 0 (i + 2))) nx
      | 7, hk =>
        have e := Option.some.inj hk
        subst e
        exact lw_b2 (m := 25) (by decide +kernel) hK hM hl hS hN h5 (sim_quarrel hK hM hR (M 0 (i + 1)) (M 0 (i + 2))) nx
      | 8, hk =>
        have e := Option.some.inj hk
        subst e
        exact lw_b1 (m := 15) (by decide +kernel) hK hM hl hS hN h5 (sim_spell hK hM hR (M 0 (i + 1))) nx
      | 9, hk =>
        have e := Option.some.inj hk
        subst e
        exact lw_b0 (m := 5) (by decide +kernel) hK hM hl hS hN h5 (sim_unspell hK hM hR) nx
      | 10, hk =>
        have e := Option.some.inj hk
        subst e
        exact lw_b1 (m := 15) (by decide +kernel) hK hM hl hS hN h5 (sim_price hK hM hR (M 0 (i + 1))) nx
      | 11, hk =>
        have e := Option.some.inj hk
        subst e
        exact lw_b1 (m := 15) (by decide +kernel) hK hM hl hS hN h5 (sim_rename hK hM hR (M 0 (i + 1))) nx
      | 12, hk =>
        have e := Option.some.inj hk
        subst e
        exact lw_b2 (m := 25) (by decide +kernel) hK hM hl hS hN h5 (sim_may hK hM hR (M 0 (i + 1)) (M 0 (i + 2))) nx
      | 13, hk =>
        have e := Option.some.inj hk
        subst e
        exact lw_b2 (m := 25) (by decide +kernel) hK hM hl hS hN h5 (sim_wed hK hM hR (M 0 (i + 1)) (M 0 (i + 2))) nx
      | 14, hk =>
        have e := Option.some.inj hk
        subst e
        exact lw_b3 (m := 35) (by decide +kernel) hK hM hl hS hN h5 (sim_lend hK hM hR (M 0 (i + 1)) (M 0 (i + 2)) (M 0 (i + 3))) nx
      | 15, hk =>
        have e := Option.some.inj hk
        subst e
        exact lw_b3 (m := 35) (by decide +kernel) hK hM hl hS hN h5 (sim_repay hK hM hR (M 0 (i + 1)) (M 0 (i + 2)) (M 0 (i + 3))) nx
      | 16, hk =>
        have e := Option.some.inj hk
        subst e
        exact lw_b2 (m := 25) (by decide +kernel) hK hM hl hS hN h5 (sim_swap hK hM hR (M 0 (i + 1)) (M 0 (i + 2))) nx
      | 17, hk =>
        have e := Option.some.inj hk
        subst e
        exact lw_b0 (m := 5) (by decide +kernel) hK hM hl hS hN h5 (sim_newYear hK hM hR) nx
      | 18, hk =>
        have e := Option.some.inj hk
        subst e
        exact lw_b0 (m := 5) (by decide +kernel) hK hM hl hS hN h5 (sim_undo hK hM hR) nx
      | 19, hk =>
        have e := Option.some.inj hk
        subst e
        exact lw_b2 (m := 25) (by decide +kernel) hK hM hl hS hN h5 (sim_change hK hM hR (M 0 (i + 1)) (M 0 (i + 2))) nx
      | 20, hk =>
        have e := Option.some.inj hk
        subst e
        exact lw_b1 (m := 15) (by decide +kernel) hK hM hl hS hN h5 (sim_run hK hM hR (M 0 (i + 1))) nx
      | 21, hk =>
        have e := Option.some.inj hk
        subst e
        exact lw_b5 (m := 55) (by decide +kernel) hK hM hl hS hN h5 (sim_shortest hK hM hR (M 0 (i + 1)) (M 0 (i + 2)) (M 0 (i + 3)) (M 0 (i + 4)) (M 0 (i + 5))) nx
      | 22, hk =>
        have e := Option.some.inj hk
        subst e
        exact lw_b1 (m := 15) (by decide +kernel) hK hM hl hS hN h5 (sim_match hK hM hR (M 0 (i + 1))) nx
      | 23, hk =>
        have e := Option.some.inj hk
        subst e
        exact lw_b1 (m := 15) (by decide +kernel) hK hM hl hS hN h5 (sim_wide hK hM hR (M 0 (i + 1))) nx
      | 24, hk =>
        have e := Option.some.inj hk
        subst e
        exact lw_b2 (m := 25) (by decide +kernel) hK hM hl hS hN h5 (sim_owed hK hM hR (M 0 (i + 1)) (M 0 (i + 2))) nx
      | 25, hk =>
        have e := Option.some.inj hk
        subst e
        exact lw_b1 (m := 15) (by decide +kernel) hK hM hl hS hN h5 (sim_net hK hM hR (M 0 (i + 1))) nx
      | 26, hk =>
        have e := Option.some.inj hk
        subst e
        exact lw_b0 (m := 5) (by decide +kernel) hK hM hl hS hN h5 (sim_chain hK hM hR) nx
      | 27, hk =>
        have e := Option.some.inj hk
        subst e
        exact lw_b0 (m := 5) (by decide +kernel) hK hM hl hS hN h5 (sim_payments hK hM hR) nx
      | 28, hk =>
        have e := Option.some.inj hk
        subst e
        exact lw_b1 (m := 15) (by decide +kernel) hK hM hl hS hN h5 (sim_seats hK hM hR (M 0 (i + 1))) nx
      | 29, hk =>
        have e := Option.some.inj hk
        subst e
        exact lw_b1 (m := 15) (by decide +kernel) hK hM hl hS hN h5 (sim_bestSwap hK hM hR (M 0 (i + 1))) nx
      | 30, hk =>
        have e := Option.some.inj hk
        subst e
        exact lw_b2 (m := 25) (by decide +kernel) hK hM hl hS hN h5 (sim_enter hK hM hR (M 0 (i + 1)) (M 0 (i + 2))) nx
      | 31, hk =>
        have e := Option.some.inj hk
        subst e
        exact lw_b0 (m := 5) (by decide +kernel) hK hM hl hS hN h5 (sim_close hK hM hR) nx
      | 32, hk =>
        have e := Option.some.inj hk
        subst e
        exact lw_b0 (m := 5) (by decide +kernel) hK hM hl hS hN h5 (sim_fits hK hM hR) nx
      | 33, hk =>
        have e := Option.some.inj hk
        subst e
        exact lw_b1 (m := 15) (by decide +kernel) hK hM hl hS hN h5 (sim_sure hK hM hR (M 0 (i + 1))) nx
      | 34, hk =>
        have e := Option.some.inj hk
        subst e
        exact lw_b2 (m := 25) (by decide +kernel) hK hM hl hS hN h5 (sim_year hK hM hR (M 0 (i + 1)) (M 0 (i + 2))) nx
      | 35, hk =>
        have e := Option.some.inj hk
        subst e
        exact lw_b0 (m := 5) (by decide +kernel) hK hM hl hS hN h5 (sim_keep hK hM hR) nx
      | 36, hk =>
        have e := Option.some.inj hk
        subst e
        exact lw_b0 (m := 5) (by decide +kernel) hK hM hl hS hN h5 (sim_back hK hM hR) nx
      | 37, hk =>
        have e := Option.some.inj hk
        subst e
        exact lw_b1 (m := 15) (by decide +kernel) hK hM hl hS hN h5 (sim_count hK hM hR (M 0 (i + 1))) nx
      | k + 38, hk => exact absurd hk (by simp)
theorem undo_in : ∀ k, k < 8 → 32 + 11 * k ∈ undoT := by decide
theorem bs_pure_all : bs_pure := by
  intro N xs hN hx
  have hB : (bs_S N).length = 4 := rfl
  have hzB : Zer (bs_S N) (bs_M xs) := fun q j hq => by
    rw [hB] at hq
    show (if q = 0 then xs j else if q = 2 then bs_txt.getD j 0 else 0) = 0
    rw [if_neg (by omega), if_neg (by omega)]
  have zrow : ∀ q, 4 ≤ q → ∀ j, bs_M xs q j = 0 := fun q h j => hzB q j (by rw [hB]; exact h)
  have main : En 227 0 [some (.inr (.inr 1)), none, none, none] [] (bs_S N) (bs_M xs) (fun r => r.1 = (bs_S N ++ clsT) ++ modT ∧ r.2.2 = some (.inl 1)) := by
    refine e_newZ hzB hP227 rfl ?_
    rw [hB]
    refine e_dupR hP227 rfl ?_
    refine e_call (as := [.inr (.inr 5)]) (rest := [.inr (.inr 5)]) hP227 rfl rfl rfl (by decide) (by decide) (rcv2 (by decide)) ?_
    refine sk_class hB hzB rfl rfl rfl (fun k hk => rfl) (fun M1 c1 so m52 f1 f2 f3 => ?_)
    show En 227 3 [some (.inr (.inr 1)), none, none, none] [.inr (.inr 5)] (bs_S N ++ clsT) M1 _
    refine e_stR hP227 rfl (by decide) (by decide) rfl ?_
    have hl0 : (bs_S N ++ clsT).length = 172 := by
      have e : clsT.length = 168 := by decide +kernel
      rw [List.length_append, e, hB]
    have hz1 : Zer (bs_S N ++ clsT) M1 := fun q j hq => by
      rw [hl0] at hq
      rw [f1 q (by omega) (by omega) (by omega) (by omega) (by omega) (by omega)]
      exact zrow q (by omega) j
    refine e_newZ hz1 hP227 rfl ?_
    rw [hl0]
    refine e_dupR hP227 rfl ?_
    refine e_call (as := [.inr (.inr 173)]) (rest := [.inr (.inr 173)]) hP227 rfl rfl rfl (by decide) (by decide) (rcv2 (by decide)) ?_
    refine sk_model hl0 hz1 (fun M2 g1 g2 g3 => ?_)
    show En 227 7 [some (.inr (.inr 1)), some (.inr (.inr 5)), none, none] [.inr (.inr 173)] ((bs_S N ++ clsT) ++ modT) M2 _
    refine e_stR hP227 rfl (by decide) (by decide) rfl ?_
    refine e_c hP227 rfl ?_
    refine e_st hP227 rfl rfl ?_
    have hK : KC ((bs_S N ++ clsT) ++ modT) := by rw [List.append_assoc]; exact KC_of hB
    have hM : KM ((bs_S N ++ clsT) ++ modT) := KM_of hl0
    refine lw_loop (N := N) hK hM (by rw [List.length_append, hl0]; omega) rfl hN (fun M => ⟨rfl, rfl⟩) N 0 M2 (by omega) (by omega) ?_
    obtain ⟨M0, t1, t2, t3, t4, t5, t6, t7, t8, t9⟩ := g3
    have z2 : ∀ q, 4 ≤ q → q < 172 → q ≠ 5 → q ≠ 6 → q ≠ 7 → ¬ (8 ≤ q ∧ q ≤ 18) → q ≠ 31 → q ≠ 121 → ∀ j, M2 q j = 0 := fun q a b c d e f g h j => by rw [g1 q b, f1 q c d e f g h]; exact zrow q a j
    have n4 : σF 0 = ((4 : Nat) : Int) := by decide +kernel
    refine ⟨4, Tn_new (CR_rows c1 (fun j hj => g1 _ (by omega)) (by rw [g1 5 (by decide)])) so n4 (by decide) t4 (fun i hi => t5 i (by omega)) t6 (fun i hi => t7 i (by omega)) t8 t9, ⟨0, by omega, z2 30 (by decide) (by decide) (by decide) (by decide) (by decide) (by decide) (by decide) (by decide) 1, t3.2.1, fun k hk => ⟨32 + 11 * k, undo_in k hk, ?_⟩, fun a b ha hb hab => ?_, fun k t hk => by omega⟩, ⟨0, by omega, z2 120 (by decide) (by decide) (by decide) (by decide) (by decide) (by decide) (by decide) (by decide) 1, t3.1, fun k hk => ?_, fun k hk => by omega⟩, ⟨0, by omega, ?_, g2, fun k hk => by omega⟩, ⟨0, by omega, z2 4 (by decide) (by decide) (by decide) (by decide) (by decide) (by decide) (by decide) (by decide) 11, t3.2.2.1, fun k hk => by omega⟩, ⟨0, by omega, z2 168 (by decide) (by decide) (by decide) (by decide) (by decide) (by decide) (by decide) (by decide) 2, t3.2.2.2, fun k hk => by omega⟩⟩
    · rw [g1 31 (by decide)]; exact f2 k hk
    · rw [g1 31 (by decide), f2 a ha, f2 b hb] at hab; omega
    · rw [g1 121 (by decide)]; exact f3 k hk
    · rw [g1 5 (by decide)]; exact m52
  obtain ⟨n, r, h1, h2, h3⟩ := main
  obtain ⟨S', M', v⟩ := r
  refine ⟨n, S', M', ?_, ?_, ?_⟩
  · have h3' : v = some (.inl 1) := h3
    rw [← h3']
    exact h1
  · have h2' : S' = (bs_S N ++ clsT) ++ modT := h2
    have e : clsT.length = 168 := by decide +kernel
    have e2 : modT.length = 17 := by decide +kernel
    rw [h2', List.length_append, List.length_append, e, e2, hB]
    omega
  · have h2' : S' = (bs_S N ++ clsT) ++ modT := h2
    have e : bw_z clsT + bw_z modT ≤ 7302250 := by decide +kernel
    rw [h2', List.append_assoc]
    unfold bw_z at e ⊢
    rw [List.map_append, List.sum_append, List.map_append, List.sum_append]
    omega
end Whole
