/-! THE WHOLE: what the interpreter does, the machine does -/
theorem bw_I_refl (S : Shp) (M : Mem) (r : Option AV) : bw_I S M (S, M, r) := ⟨Nat.le_refl _, Nat.le_refl _, fun _ _ _ => ⟨rfl, rfl⟩⟩
theorem bw_I_M {S : Shp} {M M' : Mem} {res : Res} (hM : ∀ k, k < 4 → M' k = M k) (h : bw_I S M' res) : bw_I S M res := ⟨h.1, h.2.1, fun h4 k hk => ⟨(h.2.2 h4 k hk).1, ((h.2.2 h4 k hk).2).trans (hM k hk)⟩⟩
theorem bw_I_tr {S S1 : Shp} {M M1 : Mem} {r : Option AV} {res : Res} (h1 : bw_I S M (S1, M1, r)) (h2 : bw_I S1 M1 res) : bw_I S M res :=
  ⟨Nat.le_trans h1.1 h2.1, Nat.le_trans h1.2.1 h2.2.1, fun h4 k hk => ⟨((h2.2.2 (Nat.le_trans h4 h1.1) k hk).1).trans (h1.2.2 h4 k hk).1, ((h2.2.2 (Nat.le_trans h4 h1.1) k hk).2).trans (h1.2.2 h4 k hk).2⟩⟩
theorem bw_I_mono {S : Shp} {M : Mem} {res : Res} (h : bw_I S M res) : S.length ≤ res.1.length ∧ bw_z S ≤ bw_z res.1 := ⟨h.1, h.2.1⟩
theorem bw_I_new {S : Shp} {M : Mem} {res : Res} {x : Nat × Nat × List Nat} (h : bw_I (S ++ [x]) (fun q j => if q = S.length then 0 else M q j) res) : bw_I S M res := by
  refine ⟨by have := h.1; rw [List.length_append] at this; omega, by have := h.2.1; rw [bw_z_app] at this; omega, fun h4 k hk => ?_⟩
  obtain ⟨h1, h2⟩ := h.2.2 (by rw [List.length_append]; omega) k hk
  refine ⟨by rw [h1, List.getElem?_append_left (by omega)], ?_⟩
  rw [h2]
  funext j
  exact if_neg (by omega)
def bw_ok (m : Nat) : Prop := ∀ (i : Nat) (x : Ins), (PR m).1[i]? = some x → ∃ h, bi_ok m i h x = true
/-- fields and arrays, all of them -/
theorem bw_hp {P : Nat → Lcl → List AV → Shp → Mem → Option Res} {m i : Nat} {hh : List Nat} {op a b : Nat} {n : Int} {l' : List Nat} {L : Lcl} {st : List AV} {S : Shp} {M : Mem} {res : Res} (ih : ∀ (i : Nat) (L : Lcl) (st : List AV) (S : Shp) (M : Mem), P i L st S M = some res → bw_I S M res ∧ bw_J m i L st S M res) (hk : bi_ok m i hh (op, a, b, n, l') = true) (h : bi_heap P op a b i L st S M = some res) : bw_I S M res ∧ bw_J m i L st S M res := by
  unfold bi_heap at h
  split at h
  · split at h
    · rename_i hS
      obtain ⟨h1, h⟩ := bi_iteO h
      obtain ⟨hi, hj⟩ := ih _ _ _ _ _ h
      exact ⟨hi, bw_S_J (bw_14 hk hS h1) (bw_I_mono hi) hj⟩
    · cases h
  · split at h
    · rename_i hS
      obtain ⟨h1, h⟩ := bi_iteO h
      obtain ⟨hi, hj⟩ := ih _ _ _ _ _ h
      exact ⟨hi, bw_S_J (bw_15 hk hS h1) (bw_I_mono hi) hj⟩
    · cases h
  · split at h
    · rename_i hS
      obtain ⟨h1, h⟩ := bi_iteO h
      obtain ⟨hi, hj⟩ := ih _ _ _ _ _ h
      exact ⟨bw_I_M (fun k hk4 => up2_ne _ _ _ _ k (by omega)) hi, bw_16 hk hS h1 hj⟩
    · cases h
  · split at h
    · rename_i hS
      obtain ⟨h1, h⟩ := bi_iteO h
      obtain ⟨hi, hj⟩ := ih _ _ _ _ _ h
      refine ⟨⟨by have := hi.1; rw [List.length_set] at this; exact this, by have := hi.2.1; rw [bw_z_set hS] at this; exact this, fun h4 k hk4 => ?_⟩, bw_17 hk hS h1 hj⟩
      obtain ⟨g1, g2⟩ := hi.2.2 (by rw [List.length_set]; exact h4) k hk4
      exact ⟨by rw [g1, List.getElem?_set_ne (by omega)], g2⟩
    · cases h
  · split at h
    · rename_i hS
      obtain ⟨h1, h⟩ := bi_iteO h
      obtain ⟨hi, hj⟩ := ih _ _ _ _ _ h
      exact ⟨hi, bw_S_J (bw_18 hk hS h1.1 h1.2) (bw_I_mono hi) hj⟩
    · cases h
  · split at h
    · rename_i hS
      obtain ⟨h1, h⟩ := bi_iteO h
      obtain ⟨hi, hj⟩ := ih _ _ _ _ _ h
      exact ⟨bw_I_M (fun k hk4 => up2_ne _ _ _ _ k (by omega)) hi, bw_19 hk hS h1.1 h1.2.1 h1.2.2 hj⟩
    · cases h
  · split at h
    · rename_i hS
      obtain ⟨h1, h⟩ := bi_iteO h
      obtain ⟨hi, hj⟩ := ih _ _ _ _ _ h
      exact ⟨hi, bw_S_J (bw_20 hk hS h1.1 h1.2) (bw_I_mono hi) hj⟩
    · cases h
  · split at h
    · rename_i hS
      obtain ⟨h1, h⟩ := bi_iteO h
      obtain ⟨hi, hj⟩ := ih _ _ _ _ _ h
      exact ⟨bw_I_M (fun k hk4 => up2_ne _ _ _ _ k (by omega)) hi, bw_21 hk hS h1.1 h1.2.1 h1.2.2.1 h1.2.2.2.1 h1.2.2.2.2 hj⟩
    · cases h
  · split at h
    · rename_i hS
      obtain ⟨h1, h⟩ := bi_iteO h
      obtain ⟨hi, hj⟩ := ih _ _ _ _ _ h
      exact ⟨hi, bw_S_J (bw_22 hk hS h1.1 h1.2.1 h1.2.2) (bw_I_mono hi) hj⟩
    · cases h
  · split at h
    · rename_i hS hS2
      obtain ⟨h1, h⟩ := bi_iteO h
      obtain ⟨hi, hj⟩ := ih _ _ _ _ _ h
      exact ⟨bw_I_M (fun k hk4 => up2_ne _ _ _ _ k (by omega)) hi, bw_23 hk hS hS2 h1.1 h1.2.1 h1.2.2.1 h1.2.2.2 hj⟩
    · cases h
  · split at h
    · rename_i hS
      obtain ⟨h1, h⟩ := bi_iteO h
      obtain ⟨hi, hj⟩ := ih _ _ _ _ _ h
      exact ⟨hi, bw_S_J (bw_24 hk hS h1.1 h1.2) (bw_I_mono hi) hj⟩
    · cases h
  · cases h
theorem bw_lk {x : Int} {d : Nat} {m i : Nat} : ∀ (k : Nat) (l : List Nat) (ps : List (Int × Int)), l.length = 2 * k → ps.flatMap (fun q => [q.1, q.2 + (bi_pc m i : Int)]) = (List.range k).flatMap (fun j => [(l.getD (2 * j) 0 : Int), (bi_pc m (l.getD (2 * j + 1) 0) : Int)]) → (bi_pc m i : Int) + Op.lookupswitch.offset ps (bi_off m i d) x = (bi_pc m (bi_look x l d) : Int) := by
  intro k
  induction k with
  | zero =>
    intro l ps hl h
    have e : l = [] := List.length_eq_zero_iff.mp (by omega)
    subst e
    cases ps with
    | nil => exact bi_off_ok m i d
    | cons q ps => simp at h
  | succ k ih =>
    intro l ps hl h
    match l, hl with
    | a :: t :: l, hl =>
      rw [List.range_succ_eq_map, List.flatMap_cons] at h
      cases ps with
      | nil => simp at h
      | cons q ps =>
        rw [List.flatMap_cons] at h
        simp only [List.cons_append, List.nil_append, List.cons.injEq] at h
        obtain ⟨h1, h2, h3⟩ := h
        have h1' : q.1 = (a : Int) := h1
        have h2' : q.2 + (bi_pc m i : Int) = (bi_pc m t : Int) := h2
        have h4 := ih l ps (by simp at hl; omega) (by
          rw [h3, List.flatMap_map]
          congr 1)
        obtain ⟨q1, q2⟩ := q
        show (bi_pc m i : Int) + (if q1 = x then q2 else Op.lookupswitch.offset ps (bi_off m i d) x) = ((bi_pc m (if x = (a : Int) then t else bi_look x l d) : Nat) : Int)
        dsimp only at h1' h2'
        subst h1'
        by_cases hx : (a : Int) = x
        · rw [if_pos hx, if_pos hx.symm]; omega
        · rw [if_neg hx, if_neg (fun z => hx z.symm)]; exact h4
theorem bw_32 {m i : Nat} {hh : List Nat} {a b : Nat} {n : Int} {l' : List Nat} {L : Lcl} {st : List AV} {S : Shp} {M : Mem} {x : Int} (hk : bi_ok m i hh (32, a, b, n, l') = true) : bw_S m i (bi_look x l' a) L (.inl x :: st) st S M := by
  intro p l e R s mid args below meth c H locs cells slots Q D tys A rv ws ls lvs stc hF hW hl hL hs hc hz hfr hlo
  obtain ⟨hx, hb, -⟩ := hF
  obtain ⟨vx, t, rfl, ⟨y, rfl, rfl⟩, hs1⟩ := bw_cons hs
  simp only [bi_ok] at hk
  split at hk
  · rename_i d ps len hdec
    simp only [Bool.and_eq_true, decide_eq_true_eq] at hk
    obtain ⟨⟨⟨rfl, hso⟩, hfl⟩, hln⟩ := hk
    exact ⟨t, hs1, fun k => lv_lookup (tgt := bi_pc m (bi_look y.toInt l' a)) hx hb hdec hso rfl (bw_lk (l'.length / 2) l' ps.toList hln hfl) k⟩
  · cases hk
