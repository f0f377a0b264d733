/-! THE TEXT'S OWN METHODS, of the JDK -/
section Jdk
variable {S : Shp} {M : Mem} {Q : Res → Prop}
/-- the constant text lies where it lay -/
def KJ (S : Shp) (M : Mem) : Prop := S[1]? = some (13, 2, [3, 0]) ∧ S[2]? = some (1, 41, []) ∧ M 1 1 = 0 ∧ ∀ k, k < 41 → M 2 k = bs_txt.getD k 0
theorem sj_coder (hJ : KJ S M) (h : Q (S, M, some (.inl 0))) : Ca 222 [.inr (.inr 2)] S M Q := by
  have hP : PR 222 = (bc_222, 1) := rfl
  refine ⟨Nat.le_of_ble_eq_true rfl, ?_⟩
  show En 222 0 [some (.inr (.inr 2))] [] S M Q
  refine e_gs0 hP rfl ?_
  refine e_zeq hP rfl (fun z => absurd z (by decide)) (fun _ => ?_)
  refine e_ldR hP rfl rfl (by decide) ?_
  refine e_gI (a := 10) 1 hJ.1 hP rfl (by decide) ?_
  rw [hJ.2.2.1]
  refine e_go hP rfl ?_
  exact e_ret hP rfl (by decide) h
theorem sj_isLatin1 (hJ : KJ S M) (h : Q (S, M, some (.inl 1))) : Ca 223 [.inr (.inr 2)] S M Q := by
  have hP : PR 223 = (bc_223, 1) := rfl
  refine ⟨Nat.le_of_ble_eq_true rfl, ?_⟩
  show En 223 0 [some (.inr (.inr 2))] [] S M Q
  refine e_gs0 hP rfl ?_
  refine e_zeq hP rfl (fun z => absurd z (by decide)) (fun _ => ?_)
  refine e_ldR hP rfl rfl (by decide) ?_
  refine e_gI (a := 10) 1 hJ.1 hP rfl (by decide) ?_
  rw [hJ.2.2.1]
  refine e_zne hP rfl (fun z => absurd rfl z) (fun _ => ?_)
  refine e_c hP rfl ?_
  refine e_go hP rfl ?_
  exact e_ret hP rfl (by decide) h
theorem sj_length (hJ : KJ S M) (h : Q (S, M, some (.inl 41))) : Ca 220 [.inr (.inr 2)] S M Q := by
  have hP : PR 220 = (bc_220, 1) := rfl
  refine ⟨Nat.le_of_ble_eq_true rfl, ?_⟩
  show En 220 0 [some (.inr (.inr 2))] [] S M Q
  refine e_ldR hP rfl rfl (by decide) ?_
  refine e_gR (a := 10) (w := 3) 1 hJ.1 hP rfl (by decide) rfl ?_
  refine e_len 2 hJ.2.1 (by decide) hP rfl ?_
  refine e_ldR hP rfl rfl (by decide) ?_
  refine e_call (as := [.inr (.inr 2)]) (rest := [.inl ((41 : Nat) : Int)]) hP rfl rfl rfl (by decide) (by decide) (rcvS hJ.1) (sj_coder hJ ?_)
  show En 220 5 [some (.inr (.inr 2))] [.inl 0, .inl ((41 : Nat) : Int)] S M Q
  refine e_shr hP rfl (by decide) ?_
  exact e_ret hP rfl (by decide) h
theorem sj_check226 {k n : Int} (hk : 0 ≤ k ∧ k < n) (h : Q (S, M, some (.inl k))) : Ca 226 [.inl k, .inl n, .inr (.inr 4)] S M Q := by
  have hP : PR 226 = (bc_226, 3) := rfl
  refine ⟨Nat.le_of_ble_eq_true rfl, ?_⟩
  show En 226 0 [some (.inl k), some (.inl n), some (.inr (.inr 4))] [] S M Q
  refine e_ld hP rfl rfl ?_
  refine e_zlt hP rfl (fun z => by omega) (fun _ => ?_)
  refine e_ld hP rfl rfl ?_
  refine e_ld hP rfl rfl ?_
  refine e_clt hP rfl (fun _ => ?_) (fun z => by omega)
  refine e_ld hP rfl rfl ?_
  exact e_ret hP rfl rfl h
theorem sj_check224 {k n : Int} (hk : 0 ≤ k ∧ k < n) (h : Q (S, M, none)) : Ca 224 [.inl k, .inl n] S M Q := by
  have hP : PR 224 = (bc_224, 2) := rfl
  refine ⟨Nat.le_of_ble_eq_true rfl, ?_⟩
  show En 224 0 [some (.inl k), some (.inl n)] [] S M Q
  refine e_ld hP rfl rfl ?_
  refine e_ld hP rfl rfl ?_
  refine e_gs1 hP rfl ?_
  refine e_call (as := [.inl k, .inl n, .inr (.inr 4)]) (rest := []) hP rfl rfl rfl (Nat.le_of_ble_eq_true rfl) (Nat.le_of_ble_eq_true rfl) rcv1 (sj_check226 hk ?_)
  show En 224 4 [some (.inl k), some (.inl n)] [.inl k] S M Q
  refine e_pop hP rfl ?_
  exact e_retv hP rfl h
theorem txt_in : ∀ k, k < 41 → bi_and (bs_txt.getD k 0) 255 = some (bs_txt.getD k 0) ∧ bi_un 2 (bs_txt.getD k 0) = some (bs_txt.getD k 0) ∧ bi_retok 2 (bs_txt.getD k 0) = true ∧ 32 ≤ bs_txt.getD k 0 ∧ bs_txt.getD k 0 ≤ 126 := by decide +kernel
theorem sj_charAt225 (hJ : KJ S M) {k : Nat} (hk : k < 41) (h : Q (S, M, some (.inl (bs_txt.getD k 0)))) : Ca 225 [.inr (.inr 3), .inl (k : Int)] S M Q := by
  have hP : PR 225 = (bc_225, 2) := rfl
  obtain ⟨t1, t2, t3, _⟩ := txt_in k hk
  refine ⟨Nat.le_of_ble_eq_true rfl, ?_⟩
  show En 225 0 [some (.inr (.inr 3)), some (.inl (k : Int))] [] S M Q
  refine e_ld hP rfl rfl ?_
  refine e_ldR hP rfl rfl (by decide) ?_
  refine e_len 2 hJ.2.1 (by decide) hP rfl ?_
  refine e_call (as := [.inl (k : Int), .inl ((41 : Nat) : Int)]) (rest := []) hP rfl rfl rfl (Nat.le_of_ble_eq_true rfl) (Nat.le_of_ble_eq_true rfl) rcv1 (sj_check224 (by omega) ?_)
  show En 225 4 [some (.inr (.inr 3)), some (.inl (k : Int))] [] S M Q
  refine e_ldR hP rfl rfl (by decide) ?_
  refine e_ld hP rfl rfl ?_
  refine e_bl 2 hJ.2.1 hP rfl (by omega) ?_
  rw [Int.toNat_natCast, hJ.2.2.2 k hk]
  refine e_c hP rfl ?_
  refine e_and hP rfl t1 ?_
  refine e_un hP rfl t2 ?_
  exact e_ret hP rfl t3 h
theorem sj_charAt (hJ : KJ S M) {k : Nat} (hk : k < 41) (h : Q (S, M, some (.inl (bs_txt.getD k 0)))) : Ca 221 [.inr (.inr 2), .inl (k : Int)] S M Q := by
  have hP : PR 221 = (bc_221, 2) := rfl
  obtain ⟨t1, t2, t3, _⟩ := txt_in k hk
  refine ⟨Nat.le_of_ble_eq_true rfl, ?_⟩
  show En 221 0 [some (.inr (.inr 2)), some (.inl (k : Int))] [] S M Q
  refine e_ldR hP rfl rfl (by decide) ?_
  refine e_call (as := [.inr (.inr 2)]) (rest := []) hP rfl rfl rfl (by decide) (by decide) (rcvS hJ.1) (sj_isLatin1 hJ ?_)
  show En 221 2 [some (.inr (.inr 2)), some (.inl (k : Int))] [.inl 1] S M Q
  refine e_zeq hP rfl (fun z => absurd z (by decide)) (fun _ => ?_)
  refine e_ldR hP rfl rfl (by decide) ?_
  refine e_gR (a := 10) (w := 3) 1 hJ.1 hP rfl (by decide) rfl ?_
  refine e_ld hP rfl rfl ?_
  refine e_call (as := [.inr (.inr 3), .inl (k : Int)]) (rest := []) hP rfl rfl rfl (Nat.le_of_ble_eq_true rfl) (Nat.le_of_ble_eq_true rfl) rcv1 (sj_charAt225 hJ hk ?_)
  show En 221 7 [some (.inr (.inr 2)), some (.inl (k : Int))] [.inl (bs_txt.getD k 0)] S M Q
  exact e_ret hP rfl t3 h
end Jdk
