/-! THE LAW's LOOP -/
section Law
variable {S : Shp} {M : Mem} {Q : Res → Prop} {N i : Nat}
abbrev LL (i : Nat) : Lcl := [some (.inr (.inr 1)), some (.inr (.inr 5)), some (.inr (.inr 173)), some (.inl (i : Int))]
theorem gt {l seg : List Ins} {s n k : Nat} {x : Ins} (h : (l.drop s).take n = seg) (hx : seg[k]? = some x) : l[s + k]? = some x := by
  rw [← h, List.getElem?_take] at hx
  split at hx
  · rw [List.getElem?_drop] at hx; exact hx
  · cases hx
theorem hP227 : PR 227 = (bc_227, 4) := rfl
theorem lw_arg {s : Nat} {j : Nat} {st : List AV} (h0 : bc_227[s]? = some (1, 0, 1, 0, [])) (h1 : bc_227[s + 1]? = some (1, 3, 0, 0, [])) (h2 : bc_227[s + 2]? = some (0, 0, 0, (j : Int), [])) (h3 : bc_227[s + 3]? = some (3, 0, 0, 0, [])) (h4 : bc_227[s + 4]? = some (18, 0, 0, 0, [])) (hS : S[0]? = some (0, N, [])) (hN : N ≤ 384) (hi : i + j < N) (h : En 227 (s + 5) (LL i) (.inl (M 0 (i + j)) :: st) S M Q) : En 227 s (LL i) st S M Q := by
  refine e_ldR hP227 h0 rfl (by decide) ?_
  refine e_ld hP227 h1 rfl ?_
  refine e_c hP227 h2 ?_
  refine e_add hP227 h3 (by unfold inR; omega) ?_
  refine e_al 0 hS hP227 h4 (by omega) ?_
  rw [show ((i : Int) + (j : Int)).toNat = i + j by omega]
  exact h
theorem lw_b0 {a b s m : Nat} (hf : (bc_227.drop s).take m = [(1, 1, 1, 0, []), (36, a, 1, 0, [8]), (1, 2, 1, 0, []), (36, b, 1, 0, [9]), (12, 738, 0, 0, [])]) (hK : KC S) (hM : KM S) (hl : 4 ≤ S.length) (hS : S[0]? = some (0, N, [])) (hN : N ≤ 384) (hi : i + 5 < N) (hs : Sim S M a b []) (h : ∀ M2, Rel M2 → M2 0 = M 0 → En 227 738 (LL i) [] S M2 Q) : En 227 s (LL i) [] S M Q := by
  have g172 : S[172]? = some (12, 25, [0, 174, 0, 175, 176, 177, 178, 179, 180, 181, 0, 0, 0, 182, 0, 183, 184, 185, 186, 187, 0, 188, 189, 0, 0]) := hM 172 (by decide) (by decide)
  refine e_ldR hP227 (gt (k := 0) hf rfl) rfl (by decide) ?_
  refine e_call (i := s + 1) (as := [.inr (.inr 5)]) (rest := []) hP227 (gt (k := 1) hf rfl) rfl rfl (Nat.le_of_ble_eq_true rfl) (Nat.le_of_ble_eq_true rfl) (rcv0 (sh_4 hK) (by decide)) ?_
  refine (Ca.keep0 hs hl).mono (fun r hr => ?_)
  obtain ⟨⟨M1, v, rfl, hb⟩, e0⟩ := hr
  have e0' : M1 0 = M 0 := e0
  show En 227 (s + 2) (LL i) [.inl v] S M1 Q
  refine e_ldR hP227 (gt (k := 2) hf rfl) rfl (by decide) ?_
  refine e_call (i := s + 3) (as := [.inr (.inr 173)]) (rest := [.inl v]) hP227 (gt (k := 3) hf rfl) rfl rfl (Nat.le_of_ble_eq_true rfl) (Nat.le_of_ble_eq_true rfl) (rcv0 g172 (by decide)) ?_
  refine Ca.mono hb (fun r hr => ?_)
  obtain ⟨M2, rfl, R2, z2⟩ := hr
  show En 227 (s + 4) (LL i) [.inl v, .inl v] S M2 Q
  exact e_ceq hP227 (gt (k := 4) hf rfl) (fun _ => h M2 R2 (by rw [z2])) (fun z => absurd rfl z)
theorem lw_b1 {a b s m : Nat} (hf : (bc_227.drop s).take m = [(1, 1, 1, 0, []), (1, 0, 1, 0, []), (1, 3, 0, 0, []), (0, 0, 0, 1, []), (3, 0, 0, 0, []), (18, 0, 0, 0, []), (36, a, 2, 0, [8]), (1, 2, 1, 0, []), (1, 0, 1, 0, []), (1, 3, 0, 0, []), (0, 0, 0, 1, []), (3, 0, 0, 0, []), (18, 0, 0, 0, []), (36, b, 2, 0, [9]), (12, 738, 0, 0, [])]) (hK : KC S) (hM : KM S) (hl : 4 ≤ S.length) (hS : S[0]? = some (0, N, [])) (hN : N ≤ 384) (hi : i + 5 < N) (hs : Sim S M a b [.inl (M 0 (i + 1))]) (h : ∀ M2, Rel M2 → M2 0 = M 0 → En 227 738 (LL i) [] S M2 Q) : En 227 s (LL i) [] S M Q := by
  have g172 : S[172]? = some (12, 25, [0, 174, 0, 175, 176, 177, 178, 179, 180, 181, 0, 0, 0, 182, 0, 183, 184, 185, 186, 187, 0, 188, 189, 0, 0]) := hM 172 (by decide) (by decide)
  refine e_ldR hP227 (gt (k := 0) hf rfl) rfl (by decide) ?_
  refine lw_arg (s := s + 1) (j := 1) (gt (k := 1) hf rfl) (gt (k := 2) hf rfl) (gt (k := 3) hf rfl) (gt (k := 4) hf rfl) (gt (k := 5) hf rfl) hS hN (by omega) ?_
  refine e_call (i := s + 6) (as := [.inr (.inr 5), .inl (M 0 (i + 1))]) (rest := []) hP227 (gt (k := 6) hf rfl) rfl rfl (Nat.le_of_ble_eq_true rfl) (Nat.le_of_ble_eq_true rfl) (rcv0 (sh_4 hK) (by decide)) ?_
  refine (Ca.keep0 hs hl).mono (fun r hr => ?_)
  obtain ⟨⟨M1, v, rfl, hb⟩, e0⟩ := hr
  have e0' : M1 0 = M 0 := e0
  rw [← e0'] at hb
  show En 227 (s + 7) (LL i) [.inl v] S M1 Q
  refine e_ldR hP227 (gt (k := 7) hf rfl) rfl (by decide) ?_
  refine lw_arg (s := s + 8) (j := 1) (gt (k := 8) hf rfl) (gt (k := 9) hf rfl) (gt (k := 10) hf rfl) (gt (k := 11) hf rfl) (gt (k := 12) hf rfl) hS hN (by omega) ?_
  refine e_call (i := s + 13) (as := [.inr (.inr 173), .inl (M1 0 (i + 1))]) (rest := [.inl v]) hP227 (gt (k := 13) hf rfl) rfl rfl (Nat.le_of_ble_eq_true rfl) (Nat.le_of_ble_eq_true rfl) (rcv0 g172 (by decide)) ?_
  refine Ca.mono hb (fun r hr => ?_)
  obtain ⟨M2, rfl, R2, z2⟩ := hr
  show En 227 (s + 14) (LL i) [.inl v, .inl v] S M2 Q
  exact e_ceq hP227 (gt (k := 14) hf rfl) (fun _ => h M2 R2 (by rw [z2, e0'])) (fun z => absurd rfl z)
theorem lw_b2 {a b s m : Nat} (hf : (bc_227.drop s).take m = [(1, 1, 1, 0, []), (1, 0, 1, 0, []), (1, 3, 0, 0, []), (0, 0, 0, 1, []), (3, 0, 0, 0, []), (18, 0, 0, 0, []), (1, 0, 1, 0, []), (1, 3, 0, 0, []), (0, 0, 0, 2, []), (3, 0, 0, 0, []), (18, 0, 0, 0, []), (36, a, 3, 0, [8]), (1, 2, 1, 0, []), (1, 0, 1, 0, []), (1, 3, 0, 0, []), (0, 0, 0, 1, []), (3, 0, 0, 0, []), (18, 0, 0, 0, []), (1, 0, 1, 0, []), (1, 3, 0, 0, []), (0, 0, 0, 2, []), (3, 0, 0, 0, []), (18, 0, 0, 0, []), (36, b, 3, 0, [9]), (12, 738, 0, 0, [])]) (hK : KC S) (hM : KM S) (hl : 4 ≤ S.length) (hS : S[0]? = some (0, N, [])) (hN : N ≤ 384) (hi : i + 5 < N) (hs : Sim S M a b [.inl (M 0 (i + 1)), .inl (M 0 (i + 2))]) (h : ∀ M2, Rel M2 → M2 0 = M 0 → En 227 738 (LL i) [] S M2 Q) : En 227 s (LL i) [] S M Q := by
  have g172 : S[172]? = some (12, 25, [0, 174, 0, 175, 176, 177, 178, 179, 180, 181, 0, 0, 0, 182, 0, 183, 184, 185, 186, 187, 0, 188, 189, 0, 0]) := hM 172 (by decide) (by decide)
  refine e_ldR hP227 (gt (k := 0) hf rfl) rfl (by decide) ?_
  refine lw_arg (s := s + 1) (j := 1) (gt (k := 1) hf rfl) (gt (k := 2) hf rfl) (gt (k := 3) hf rfl) (gt (k := 4) hf rfl) (gt (k := 5) hf rfl) hS hN (by omega) ?_
  refine lw_arg (s := s + 6) (j := 2) (gt (k := 6) hf rfl) (gt (k := 7) hf rfl) (gt (k := 8) hf rfl) (gt (k := 9) hf rfl) (gt (k := 10) hf rfl) hS hN (by omega) ?_
  refine e_call (i := s + 11) (as := [.inr (.inr 5), .inl (M 0 (i + 1)), .inl (M 0 (i + 2))]) (rest := []) hP227 (gt (k := 11) hf rfl) rfl rfl (Nat.le_of_ble_eq_true rfl) (Nat.le_of_ble_eq_true rfl) (rcv0 (sh_4 hK) (by decide)) ?_
  refine (Ca.keep0 hs hl).mono (fun r hr => ?_)
  obtain ⟨⟨M1, v, rfl, hb⟩, e0⟩ := hr
  have e0' : M1 0 = M 0 := e0
  rw [← e0'] at hb
  show En 227 (s + 12) (LL i) [.inl v] S M1 Q
  refine e_ldR hP227 (gt (k := 12) hf rfl) rfl (by decide) ?_
  refine lw_arg (s := s + 13) (j := 1) (gt (k := 13) hf rfl) (gt (k := 14) hf rfl) (gt (k := 15) hf rfl) (gt (k := 16) hf rfl) (gt (k := 17) hf rfl) hS hN (by omega) ?_
  refine lw_arg (s := s + 18) (j := 2) (gt (k := 18) hf rfl) (gt (k := 19) hf rfl) (gt (k := 20) hf rfl) (gt (k := 21) hf rfl) (gt (k := 22) hf rfl) hS hN (by omega) ?_
  refine e_call (i := s + 23) (as := [.inr (.inr 173), .inl (M1 0 (i + 1)), .inl (M1 0 (i + 2))]) (rest := [.inl v]) hP227 (gt (k := 23) hf rfl) rfl rfl (Nat.le_of_ble_eq_true rfl) (Nat.le_of_ble_eq_true rfl) (rcv0 g172 (by decide)) ?_
  refine Ca.mono hb (fun r hr => ?_)
  obtain ⟨M2, rfl, R2, z2⟩ := hr
  show En 227 (s + 24) (LL i) [.inl v, .inl v] S M2 Q
  exact e_ceq hP227 (gt (k := 24) hf rfl) (fun _ => h M2 R2 (by rw [z2, e0'])) (fun z => absurd rfl z)
theorem lw_b3 {a b s m : Nat} (hf : (bc_227.drop s).take m = [(1, 1, 1, 0, []), (1, 0, 1, 0, []), (1, 3, 0, 0, []), (0, 0, 0, 1, []), (3, 0, 0, 0, []), (18, 0, 0, 0, []), (1, 0, 1, 0, []), (1, 3, 0, 0, []), (0, 0, 0, 2, []), (3, 0, 0, 0, []), (18, 0, 0, 0, []), (1, 0, 1, 0, []), (1, 3, 0, 0, []), (0, 0, 0, 3, []), (3, 0, 0, 0, []), (18, 0, 0, 0, []), (36, a, 4, 0, [8]), (1, 2, 1, 0, []), (1, 0, 1, 0, []), (1, 3, 0, 0, []), (0, 0, 0, 1, []), (3, 0, 0, 0, []), (18, 0, 0, 0, []), (1, 0, 1, 0, []), (1, 3, 0, 0, []), (0, 0, 0, 2, []), (3, 0, 0, 0, []), (18, 0, 0, 0, []), (1, 0, 1, 0, []), (1, 3, 0, 0, []), (0, 0, 0, 3, []), (3, 0, 0, 0, []), (18, 0, 0, 0, []), (36, b, 4, 0, [9]), (12, 738, 0, 0, [])]) (hK : KC S) (hM : KM S) (hl : 4 ≤ S.length) (hS : S[0]? = some (0, N, [])) (hN : N ≤ 384) (hi : i + 5 < N) (hs : Sim S M a b [.inl (M 0 (i + 1)), .inl (M 0 (i + 2)), .inl (M 0 (i + 3))]) (h : ∀ M2, Rel M2 → M2 0 = M 0 → En 227 738 (LL i) [] S M2 Q) : En 227 s (LL i) [] S M Q := by
  have g172 : S[172]? = some (12, 25, [0, 174, 0, 175, 176, 177, 178, 179, 180, 181, 0, 0, 0, 182, 0, 183, 184, 185, 186, 187, 0, 188, 189, 0, 0]) := hM 172 (by decide) (by decide)
  refine e_ldR hP227 (gt (k := 0) hf rfl) rfl (by decide) ?_
  refine lw_arg (s := s + 1) (j := 1) (gt (k := 1) hf rfl) (gt (k := 2) hf rfl) (gt (k := 3) hf rfl) (gt (k := 4) hf rfl) (gt (k := 5) hf rfl) hS hN (by omega) ?_
  refine lw_arg (s := s + 6) (j := 2) (gt (k := 6) hf rfl) (gt (k := 7) hf rfl) (gt (k := 8) hf rfl) (gt (k := 9) hf rfl) (gt (k := 10) hf rfl) hS hN (by omega) ?_
  refine lw_arg (s := s + 11) (j := 3) (gt (k := 11) hf rfl) (gt (k := 12) hf rfl) (gt (k := 13) hf rfl) (gt (k := 14) hf rfl) (gt (k := 15) hf rfl) hS hN (by omega) ?_
  refine e_call (i := s + 16) (as := [.inr (.inr 5), .inl (M 0 (i + 1)), .inl (M 0 (i + 2)), .inl (M 0 (i + 3))]) (rest := []) hP227 (gt (k := 16) hf rfl) rfl rfl (Nat.le_of_ble_eq_true rfl) (Nat.le_of_ble_eq_true rfl) (rcv0 (sh_4 hK) (by decide)) ?_
  refine (Ca.keep0 hs hl).mono (fun r hr => ?_)
  obtain ⟨⟨M1, v, rfl, hb⟩, e0⟩ := hr
  have e0' : M1 0 = M 0 := e0
  rw [← e0'] at hb
  show En 227 (s + 17) (LL i) [.inl v] S M1 Q
  refine e_ldR hP227 (gt (k := 17) hf rfl) rfl (by decide) ?_
  refine lw_arg (s := s + 18) (j := 1) (gt (k := 18) hf rfl) (gt (k := 19) hf rfl) (gt (k := 20) hf rfl) (gt (k := 21) hf rfl) (gt (k := 22) hf rfl) hS hN (by omega) ?_
  refine lw_arg (s := s + 23) (j := 2) (gt (k := 23) hf rfl) (gt (k := 24) hf rfl) (gt (k := 25) hf rfl) (gt (k := 26) hf rfl) (gt (k := 27) hf rfl) hS hN (by omega) ?_
  refine lw_arg (s := s + 28) (j := 3) (gt (k := 28) hf rfl) (gt (k := 29) hf rfl) (gt (k := 30) hf rfl) (gt (k := 31) hf rfl) (gt (k := 32) hf rfl) hS hN (by omega) ?_
  refine e_call (i := s + 33) (as := [.inr (.inr 173), .inl (M1 0 (i + 1)), .inl (M1 0 (i + 2)), .inl (M1 0 (i + 3))]) (rest := [.inl v]) hP227 (gt (k := 33) hf rfl) rfl rfl (Nat.le_of_ble_eq_true rfl) (Nat.le_of_ble_eq_true rfl) (rcv0 g172 (by decide)) ?_
  refine Ca.mono hb (fun r hr => ?_)
  obtain ⟨M2, rfl, R2, z2⟩ := hr
  show En 227 (s + 34) (LL i) [.inl v, .inl v] S M2 Q
  exact e_ceq hP227 (gt (k := 34) hf rfl) (fun _ => h M2 R2 (by rw [z2, e0'])) (fun z => absurd rfl z)
theorem lw_b5 {a b s m : Nat} (hf : (bc_227.drop s).take m = [(1, 1, 1, 0, []), (1, 0, 1, 0, []), (1, 3, 0, 0, []), (0, 0, 0, 1, []), (3, 0, 0, 0, []), (18, 0, 0, 0, []), (1, 0, 1, 0, []), (1, 3, 0, 0, []), (0, 0, 0, 2, []), (3, 0, 0, 0, []), (18, 0, 0, 0, []), (1, 0, 1, 0, []), (1, 3, 0, 0, []), (0, 0, 0, 3, []), (3, 0, 0, 0, []), (18, 0, 0, 0, []), (1, 0, 1, 0, []), (1, 3, 0, 0, []), (0, 0, 0, 4, []), (3, 0, 0, 0, []), (18, 0, 0, 0, []), (1, 0, 1, 0, []), (1, 3, 0, 0, []), (0, 0, 0, 5, []), (3, 0, 0, 0, []), (18, 0, 0, 0, []), (36, a, 6, 0, [8]), (1, 2, 1, 0, []), (1, 0, 1, 0, []), (1, 3, 0, 0, []), (0, 0, 0, 1, []), (3, 0, 0, 0, []), (18, 0, 0, 0, []), (1, 0, 1, 0, []), (1, 3, 0, 0, []), (0, 0, 0, 2, []), (3, 0, 0, 0, []), (18, 0, 0, 0, []), (1, 0, 1, 0, []), (1, 3, 0, 0, []), (0, 0, 0, 3, []), (3, 0, 0, 0, []), (18, 0, 0, 0, []), (1, 0, 1, 0, []), (1, 3, 0, 0, []), (0, 0, 0, 4, []), (3, 0, 0, 0, []), (18, 0, 0, 0, []), (1, 0, 1, 0, []), (1, 3, 0, 0, []), (0, 0, 0, 5, []), (3, 0, 0, 0, []), (18, 0, 0, 0, []), (36, b, 6, 0, [9]), (12, 738, 0, 0, [])]) (hK : KC S) (hM : KM S) (hl : 4 ≤ S.length) (hS : S[0]? = some (0, N, [])) (hN : N ≤ 384) (hi : i + 5 < N) (hs : Sim S M a b [.inl (M 0 (i + 1)), .inl (M 0 (i + 2)), .inl (M 0 (i + 3)), .inl (M 0 (i + 4)), .inl (M 0 (i + 5))]) (h : ∀ M2, Rel M2 → M2 0 = M 0 → En 227 738 (LL i) [] S M2 Q) : En 227 s (LL i) [] S M Q := by
  have g172 : S[172]? = some (12, 25, [0, 174, 0, 175, 176, 177, 178, 179, 180, 181, 0, 0, 0, 182, 0, 183, 184, 185, 186, 187, 0, 188, 189, 0, 0]) := hM 172 (by decide) (by decide)
  refine e_ldR hP227 (gt (k := 0) hf rfl) rfl (by decide) ?_
  refine lw_arg (s := s + 1) (j := 1) (gt (k := 1) hf rfl) (gt (k := 2) hf rfl) (gt (k := 3) hf rfl) (gt (k := 4) hf rfl) (gt (k := 5) hf rfl) hS hN (by omega) ?_
  refine lw_arg (s := s + 6) (j := 2) (gt (k := 6) hf rfl) (gt (k := 7) hf rfl) (gt (k := 8) hf rfl) (gt (k := 9) hf rfl) (gt (k := 10) hf rfl) hS hN (by omega) ?_
  refine lw_arg (s := s + 11) (j := 3) (gt (k := 11) hf rfl) (gt (k := 12) hf rfl) (gt (k := 13) hf rfl) (gt (k := 14) hf rfl) (gt (k := 15) hf rfl) hS hN (by omega) ?_
  refine lw_arg (s := s + 16) (j := 4) (gt (k := 16) hf rfl) (gt (k := 17) hf rfl) (gt (k := 18) hf rfl) (gt (k := 19) hf rfl) (gt (k := 20) hf rfl) hS hN (by omega) ?_
  refine lw_arg (s := s + 21) (j := 5) (gt (k := 21) hf rfl) (gt (k := 22) hf rfl) (gt (k := 23) hf rfl) (gt (k := 24) hf rfl) (gt (k := 25) hf rfl) hS hN (by omega) ?_
  refine e_call (i := s + 26) (as := [.inr (.inr 5), .inl (M 0 (i + 1)), .inl (M 0 (i + 2)), .inl (M 0 (i + 3)), .inl (M 0 (i + 4)), .inl (M 0 (i + 5))]) (rest := []) hP227 (gt (k := 26) hf rfl) rfl rfl (Nat.le_of_ble_eq_true rfl) (Nat.le_of_ble_eq_true rfl) (rcv0 (sh_4 hK) (by decide)) ?_
  refine (Ca.keep0 hs hl).mono (fun r hr => ?_)
  obtain ⟨⟨M1, v, rfl, hb⟩, e0⟩ := hr
  have e0' : M1 0 = M 0 := e0
  rw [← e0'] at hb
  show En 227 (s + 27) (LL i) [.inl v] S M1 Q
  refine e_ldR hP227 (gt (k := 27) hf rfl) rfl (by decide) ?_
  refine lw_arg (s := s + 28) (j := 1) (gt (k := 28) hf rfl) (gt (k := 29) hf rfl) (gt (k := 30) hf rfl) (gt (k := 31) hf rfl) (gt (k := 32) hf rfl) hS hN (by omega) ?_
  refine lw_arg (s := s + 33) (j := 2) (gt (k := 33) hf rfl) (gt (k := 34) hf rfl) (gt (k := 35) hf rfl) (gt (k := 36) hf rfl) (gt (k := 37) hf rfl) hS hN (by omega) ?_
  refine lw_arg (s := s + 38) (j := 3) (gt (k := 38) hf rfl) (gt (k := 39) hf rfl) (gt (k := 40) hf rfl) (gt (k := 41) hf rfl) (gt (k := 42) hf rfl) hS hN (by omega) ?_
  refine lw_arg (s := s + 43) (j := 4) (gt (k := 43) hf rfl) (gt (k := 44) hf rfl) (gt (k := 45) hf rfl) (gt (k := 46) hf rfl) (gt (k := 47) hf rfl) hS hN (by omega) ?_
  refine lw_arg (s := s + 48) (j := 5) (gt (k := 48) hf rfl) (gt (k := 49) hf rfl) (gt (k := 50) hf rfl) (gt (k := 51) hf rfl) (gt (k := 52) hf rfl) hS hN (by omega) ?_
  refine e_call (i := s + 53) (as := [.inr (.inr 173), .inl (M1 0 (i + 1)), .inl (M1 0 (i + 2)), .inl (M1 0 (i + 3)), .inl (M1 0 (i + 4)), .inl (M1 0 (i + 5))]) (rest := [.inl v]) hP227 (gt (k := 53) hf rfl) rfl rfl (Nat.le_of_ble_eq_true rfl) (Nat.le_of_ble_eq_true rfl) (rcv0 g172 (by decide)) ?_
  refine Ca.mono hb (fun r hr => ?_)
  obtain ⟨M2, rfl, R2, z2⟩ := hr
  show En 227 (s + 54) (LL i) [.inl v, .inl v] S M2 Q
  exact e_ceq hP227 (gt (k := 54) hf rfl) (fun _ => h M2 R2 (by rw [z2, e0'])) (fun z => absurd rfl z)
end Law
