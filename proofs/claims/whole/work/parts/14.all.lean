set_option maxHeartbeats 2000000 in
/-- what the interpreter comes to, the machine comes to -/
theorem bw_main (hP : ∀ m, bw_ok m) : ∀ (n m i : Nat) (L : Lcl) (st : List AV) (S : Shp) (M : Mem) (res : Res), bi_exec PR n m i L st S M = some res → bw_I S M res ∧ bw_J m i L st S M res := by
  intro n
  induction n with
  | zero => intro m i L st S M res h; cases h
  | succ n ih =>
    intro m i L st S M res h
    unfold bi_exec at h
    split at h
    · rename_i ins hins
      obtain ⟨hh, hk⟩ := hP m i ins hins
      unfold bi_step at h
      split at h
      · obtain ⟨hi, hj⟩ := ih _ _ _ _ _ _ _ h
        exact ⟨hi, bw_S_J (bw_0 hk) (bw_I_mono hi) hj⟩
      · split at h
        · rename_i hv
          obtain ⟨hi, hj⟩ := ih _ _ _ _ _ _ _ h
          exact ⟨hi, bw_S_J (bw_1 hk hv) (bw_I_mono hi) hj⟩
        · cases h
      · split at h
        · split at h
          · rename_i hv
            obtain ⟨hi, hj⟩ := ih _ _ _ _ _ _ _ h
            exact ⟨hi, bw_2 hk hv hj⟩
          · cases h
        · cases h
      · split at h
        · split at h
          · rename_i hv
            obtain ⟨hi, hj⟩ := ih _ _ _ _ _ _ _ h
            exact ⟨hi, bw_S_J (bw_3 hk hv) (bw_I_mono hi) hj⟩
          · cases h
        · cases h
      · split at h
        · split at h
          · rename_i hv
            obtain ⟨hi, hj⟩ := ih _ _ _ _ _ _ _ h
            exact ⟨hi, bw_S_J (bw_4 hk hv) (bw_I_mono hi) hj⟩
          · cases h
        · cases h
      · split at h
        · obtain ⟨hi, hj⟩ := ih _ _ _ _ _ _ _ h
          exact ⟨hi, bw_S_J (bw_5 hk) (bw_I_mono hi) hj⟩
        · cases h
      · split at h
        · obtain ⟨h1, h⟩ := bi_iteO h
          obtain ⟨hi, hj⟩ := ih _ _ _ _ _ _ _ h
          exact ⟨hi, bw_S_J (bw_6 hk h1) (bw_I_mono hi) hj⟩
        · cases h
      · split at h
        · split at h
          · rename_i hv
            obtain ⟨hi, hj⟩ := ih _ _ _ _ _ _ _ h
            exact ⟨hi, bw_S_J (bw_7 hk hv) (bw_I_mono hi) hj⟩
          · cases h
        · cases h
      · split at h
        · obtain ⟨hi, hj⟩ := ih _ _ _ _ _ _ _ h
          exact ⟨hi, bw_S_J (bw_8 hk) (bw_I_mono hi) hj⟩
        · cases h
      · obtain ⟨hi, hj⟩ := ih _ _ _ _ _ _ _ h
        exact ⟨hi, bw_S_J (bw_9 hk) (bw_I_mono hi) hj⟩
      · split at h
        · rename_i hx
          obtain ⟨h1, h⟩ := bi_iteO h
          obtain ⟨hi, hj⟩ := ih _ _ _ _ _ _ _ h
          exact ⟨hi, bw_10 hk hx h1 hj⟩
        · cases h
      · obtain ⟨hi, hj⟩ := ih _ _ _ _ _ _ _ h
        exact ⟨hi, bw_S_J (bw_11 hk) (bw_I_mono hi) hj⟩
      · split at h
        · rename_i y x t
          have hs := bw_12 (L := L) (st := t) (S := S) (M := M) (x := x) (y := y) hk
          split at h
          · rename_i hc
            rw [if_pos hc] at hs
            obtain ⟨hi, hj⟩ := ih _ _ _ _ _ _ _ h
            exact ⟨hi, bw_S_J hs (bw_I_mono hi) hj⟩
          · rename_i hc
            rw [if_neg hc] at hs
            obtain ⟨hi, hj⟩ := ih _ _ _ _ _ _ _ h
            exact ⟨hi, bw_S_J hs (bw_I_mono hi) hj⟩
        · cases h
      · split at h
        · rename_i x t
          have hs := bw_13 (L := L) (st := t) (S := S) (M := M) (x := x) hk
          split at h
          · rename_i hc
            rw [if_pos hc] at hs
            obtain ⟨hi, hj⟩ := ih _ _ _ _ _ _ _ h
            exact ⟨hi, bw_S_J hs (bw_I_mono hi) hj⟩
          · rename_i hc
            rw [if_neg hc] at hs
            obtain ⟨hi, hj⟩ := ih _ _ _ _ _ _ _ h
            exact ⟨hi, bw_S_J hs (bw_I_mono hi) hj⟩
        · cases h
      · obtain ⟨hi, hj⟩ := ih _ _ _ _ _ _ _ h
        exact ⟨bw_I_new hi, bw_25 hk (bw_I_mono hi) hj⟩
      · split at h
        · obtain ⟨h1, h⟩ := bi_iteO h
          obtain ⟨hi, hj⟩ := ih _ _ _ _ _ _ _ h
          exact ⟨bw_I_new hi, bw_26 hk h1 (bw_I_mono hi) hj⟩
        · cases h
      · split at h
        · obtain ⟨hi, hj⟩ := ih _ _ _ _ _ _ _ h
          exact ⟨hi, bw_S_J (bw_28 hk rfl) (bw_I_mono hi) hj⟩
        · obtain ⟨hi, hj⟩ := ih _ _ _ _ _ _ _ h
          exact ⟨hi, bw_S_J (bw_28 hk rfl) (bw_I_mono hi) hj⟩
        · cases h
      · split at h
        · obtain ⟨hi, hj⟩ := ih _ _ _ _ _ _ _ h
          exact ⟨hi, bw_S_J (bw_29 hk) (bw_I_mono hi) hj⟩
        · cases h
      · split at h
        · obtain ⟨hi, hj⟩ := ih _ _ _ _ _ _ _ h
          exact ⟨hi, bw_S_J (bw_30 hk rfl) (bw_I_mono hi) hj⟩
        · obtain ⟨hi, hj⟩ := ih _ _ _ _ _ _ _ h
          exact ⟨hi, bw_S_J (bw_30 hk rfl) (bw_I_mono hi) hj⟩
        · cases h
      · split at h
        · rename_i x t
          have hs := bw_31 (L := L) (st := t) (S := S) (M := M) (x := x) hk
          split at h
          · rename_i hc
            rw [if_pos hc] at hs
            obtain ⟨hi, hj⟩ := ih _ _ _ _ _ _ _ h
            exact ⟨hi, bw_S_J hs (bw_I_mono hi) hj⟩
          · rename_i hc
            rw [if_neg hc] at hs
            obtain ⟨hi, hj⟩ := ih _ _ _ _ _ _ _ h
            exact ⟨hi, bw_S_J hs (bw_I_mono hi) hj⟩
        · cases h
      · split at h
        · obtain ⟨hi, hj⟩ := ih _ _ _ _ _ _ _ h
          exact ⟨hi, bw_S_J (bw_32 hk) (bw_I_mono hi) hj⟩
        · cases h
      · split at h
        · obtain ⟨h1, h⟩ := bi_ite h
          subst h
          exact ⟨bw_I_refl _ _ _, bw_33 (st := []) (res := (S, M, none)) hk h1⟩
        · cases h
      · split at h
        · cases h
          exact ⟨bw_I_refl _ _ _, bw_34 (st := []) (res := (S, M, none)) hk⟩
        · cases h
      · split at h
        · cases h
          exact ⟨bw_I_refl _ _ _, bw_35 (st := []) (res := (S, M, none)) hk⟩
        · cases h
      · obtain ⟨h1, h⟩ := bi_iteO h
        split at h
        · rename_i hcl
          obtain ⟨hf, hcl⟩ := bi_iteO hcl
          obtain ⟨hi1, hj1⟩ := ih _ _ _ _ _ _ _ hcl
          obtain ⟨hi2, hj2⟩ := ih _ _ _ _ _ _ _ h
          exact ⟨bw_I_tr hi1 hi2, bw_36 hk h1 hf hi1 hj1 hi2 hj2⟩
        · cases h
      · split at h
        · obtain ⟨h1, h⟩ := bi_iteO h
          obtain ⟨hi, hj⟩ := ih _ _ _ _ _ _ _ h
          exact ⟨hi, bw_S_J (bw_37 hk ⟨_, rfl, rfl⟩ (by omega) h1.2) (bw_I_mono hi) hj⟩
        · cases h
      · split at h
        · rename_i hm
          obtain ⟨h1, h⟩ := bi_iteO h
          obtain ⟨hi, hj⟩ := ih _ _ _ _ _ _ _ h
          exact ⟨hi, bw_S_J (bw_38 hk hm h1) (bw_I_mono hi) hj⟩
        · cases h
      · split at h
        · split at h
          · rename_i hSa hSb
            obtain ⟨h1, h⟩ := bi_iteO h
            obtain ⟨hi, hj⟩ := ih _ _ _ _ _ _ _ h
            exact ⟨bw_I_M (fun k hk4 => bi_cpy_ne _ _ _ _ _ _ k (by omega)) hi, bw_39 hk hSa hSb h1 hj⟩
          · cases h
        · cases h
      · obtain ⟨hi, hj⟩ := ih _ _ _ _ _ _ _ h
        exact ⟨hi, bw_S_J (bw_40 hk) (bw_I_mono hi) hj⟩
      · obtain ⟨hi, hj⟩ := ih _ _ _ _ _ _ _ h
        exact ⟨hi, bw_S_J (bw_41 hk) (bw_I_mono hi) hj⟩
      · rename_i x b c d hne
        obtain ⟨hi, hj⟩ := ih _ _ _ _ _ _ _ h
        have hs := bw_41 (L := L) (st := st) (S := S) (M := M) hk
        rw [if_neg hne] at hs
        exact ⟨hi, bw_S_J hs (bw_I_mono hi) hj⟩
      · exact bw_hp (fun i L st S M h => ih m i L st S M res h) hk h
    · cases h
