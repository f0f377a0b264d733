/-! INSTRUCTIONS that leave heap and locals: from place i to place j -/
def bw_S (m i j : Nat) (L : Lcl) (st st' : List AV) (S : Shp) (M : Mem) : Prop := ∀ (p : Program) (l : Launch) (e : Env) (R : Room) (s : State) (mid : MethodId) (args : Array Value) (below : List Frame) (meth : Method) (c : Code) (H : Heap) (locs : List Loc) (cells slots : Nat) (Q : State → Prop) (D : va_G) (tys : List (ClassId × FieldType)) (A : Nat → Prop) (rv : List Value) (ws : va_W) (ls : Array Slot) (lvs : List (Nat × Value)) (stc : List Value),
  bw_f m p s mid args meth c A → bw_w D tys s A s.heap H locs rv ws S M → lv_has ls (bi_mL m) lvs → bw_l rv L lvs → bw_s rv st stc → cells ≤ R.cells → slots ≤ R.slots → bi_fr m ≤ R.frames → bi_lo m ≤ R.locals →
  ∃ stc', bw_s rv st' stc' ∧ (W p l e R s mid args below meth c H locs cells slots Q (F0 mid (bi_pc m j) ls stc') → W p l e R s mid args below meth c H locs cells slots Q (F0 mid (bi_pc m i) ls stc))
theorem bw_p {rv : List Value} {a : AV} {v : Value} {st : List AV} {t : List Value} (h : bw_v rv a v) (hs : bw_s rv st t) : bw_s rv (a :: st) (v :: t) := ⟨h, hs⟩
theorem bw_pI {rv : List Value} {x : Int} {y : Int32} {st : List AV} {t : List Value} (h : y.toInt = x) (hs : bw_s rv st t) : bw_s rv (.inl x :: st) (.int y :: t) := ⟨⟨y, rfl, h⟩, hs⟩
theorem bw_pL {rv : List Value} {x : Int} {y : Int64} {st : List AV} {t : List Value} (h : y.toInt = x) (hs : bw_s rv st t) : bw_s rv (.inr (.inl x) :: st) (.long y :: t) := ⟨⟨y, rfl, h⟩, hs⟩
theorem bw_pR {rv : List Value} {c : Nat} {v : Value} {st : List AV} {t : List Value} (h : rv[c]? = some v) (hs : bw_s rv st t) : bw_s rv (.inr (.inr c) :: st) (v :: t) := ⟨h, hs⟩
theorem bw_S_J {m i j : Nat} {L : Lcl} {st st' : List AV} {S : Shp} {M : Mem} {res : Res} (h : bw_S m i j L st st' S M) (hm : S.length ≤ res.1.length ∧ bw_z S ≤ bw_z res.1) (k : bw_J m j L st' S M res) : bw_J m i L st S M res := by
  intro p l e R s mid args below meth c H locs cells slots Q D tys A rv0 rv ws ls lvs stc b0 z0 hF hW hp hl hLl hL hs hc hz hRc hRz hfr hlo hRO
  obtain ⟨stc', h1, h2⟩ := h p l e R s mid args below meth c H locs cells slots Q D tys A rv ws ls lvs stc hF hW hl hL hs (by omega) (by omega) hfr hlo
  exact h2 (k p l e R s mid args below meth c H locs cells slots Q D tys A rv0 rv ws ls lvs stc' b0 z0 hF hW hp hl hLl hL h1 hc hz hRc hRz hfr hlo hRO)
theorem bw_0 {m i : Nat} {hh : List Nat} {a b : Nat} {n : Int} {l' : List Nat} {L : Lcl} {st : List AV} {S : Shp} {M : Mem} (hk : bi_ok m i hh (0, a, b, n, l') = true) : bw_S m i (i + 1) L st (.inl n :: st) S M := by
  intro p l e R s mid args below meth c H locs cells slots Q D tys A rv ws ls lvs stc hF hW hl hL hs hc hz hfr hlo
  obtain ⟨hx, hb, -, -, ho, hts, -⟩ := hF
  simp only [bi_ok, Bool.or_eq_true, Bool.and_eq_true, decide_eq_true_eq] at hk
  rcases hk with ((⟨hd, hv⟩ | ⟨hd, hv⟩) | ⟨hd, hv⟩) | hd
  · obtain ⟨hd, hn⟩ := bi_dn_ok hd
    rw [hn]
    exact ⟨_, (bw_pI (hv) hs), fun k => lv_iconst hx hb hd rfl k⟩
  · obtain ⟨hd, hn⟩ := bi_dn_ok hd
    rw [hn]
    exact ⟨_, (bw_pI (hv) hs), fun k => lv_bipush hx hb hd rfl k⟩
  · obtain ⟨hd, hn⟩ := bi_dn_ok hd
    rw [hn]
    exact ⟨_, (bw_pI (hv) hs), fun k => lv_sipush hx hb hd rfl k⟩
  · unfold bi_cfI at hd
    split at hd
    · simp only [Bool.or_eq_true, Bool.and_eq_true, decide_eq_true_eq] at hd
      obtain ⟨⟨⟨-, hw⟩, hv⟩, hd | hd⟩ := hd
      · obtain ⟨hd, hn⟩ := bi_dn_ok hd
        rw [hn]
        exact ⟨_, (bw_pI (hv) hs), fun k => lv_ldc hx hb ho (hts _ (bi_w_ok hw)) hd k⟩
      · obtain ⟨hd, hn⟩ := bi_dn_ok hd
        rw [hn]
        exact ⟨_, (bw_pI (hv) hs), fun k => lv_ldcw hx hb ho (hts _ (bi_w_ok hw)) hd k⟩
    · cases hd
theorem bw_9 {m i : Nat} {hh : List Nat} {a b : Nat} {n : Int} {l' : List Nat} {L : Lcl} {st : List AV} {S : Shp} {M : Mem} (hk : bi_ok m i hh (9, a, b, n, l') = true) : bw_S m i (i + 1) L st (.inr (.inl n) :: st) S M := by
  intro p l e R s mid args below meth c H locs cells slots Q D tys A rv ws ls lvs stc hF hW hl hL hs hc hz hfr hlo
  obtain ⟨hx, hb, -, -, ho, hts, -⟩ := hF
  simp only [bi_ok, Bool.or_eq_true, Bool.and_eq_true, decide_eq_true_eq] at hk
  rcases hk with (⟨hd, rfl⟩ | ⟨hd, rfl⟩) | hd
  · obtain ⟨hd, hn⟩ := bi_dn_ok hd
    rw [hn]
    exact ⟨_, (bw_pL (by decide) hs), fun k => lv_lconst hx hb hd rfl k⟩
  · obtain ⟨hd, hn⟩ := bi_dn_ok hd
    rw [hn]
    exact ⟨_, (bw_pL (by decide) hs), fun k => lv_lconst hx hb hd rfl k⟩
  · unfold bi_cfL at hd
    split at hd
    · simp only [Bool.and_eq_true, decide_eq_true_eq] at hd
      obtain ⟨⟨⟨-, hw⟩, hv⟩, hd⟩ := hd
      obtain ⟨hd, hn⟩ := bi_dn_ok hd
      rw [hn]
      exact ⟨_, (bw_pL (hv) hs), fun k => lv_ldc2 hx hb ho (hts _ (bi_w_ok hw)) hd k⟩
    · cases hd
theorem bw_1 {m i : Nat} {hh : List Nat} {a b : Nat} {n : Int} {l' : List Nat} {L : Lcl} {st : List AV} {S : Shp} {M : Mem} {v : AV} (hk : bi_ok m i hh (1, a, b, n, l') = true) (hv : bi_load b L[a]? = some v) : bw_S m i (i + 1) L st (v :: st) S M := by
  intro p l e R s mid args below meth c H locs cells slots Q D tys A rv ws ls lvs stc hF hW hl hL hs hc hz hfr hlo
  obtain ⟨hx, hb, -⟩ := hF
  unfold bi_load at hv
  split at hv
  · rename_i x hLa
    cases hv
    obtain ⟨cv, hm, y, rfl, hy⟩ := hL a _ hLa
    have hat := hl.2.2 _ hm
    simp only [bi_ok, Bool.or_eq_true] at hk
    rcases hk with hd | hd
    · obtain ⟨hd, hn⟩ := bi_dn_ok hd
      rw [hn]
      exact ⟨_, (bw_pI (hy) hs), fun k => lv_iload hx hb hd hat k⟩
    · split at hd
      · obtain ⟨hd, hn⟩ := bi_dn_ok hd
        rw [hn]
        exact ⟨_, (bw_pI (hy) hs), fun k => lv_iload_n hx hb hd rfl hat k⟩
      · cases hd
  · rename_i x hLa
    split at hv
    · cases hv
    · rename_i hc0
      cases hv
      obtain ⟨cv, hm, hy⟩ := hL a _ hLa
      obtain ⟨ad, rfl⟩ := bw_ref hW hc0 hy
      have hat := hl.2.2 _ hm
      simp only [bi_ok] at hk
      split at hk
      · obtain ⟨hd, hn⟩ := bi_dn_ok hk
        rw [hn]
        exact ⟨_, (bw_pR (hy) hs), fun k => lv_aload_n hx hb hd rfl hat k⟩
      · cases hk
  · rename_i x hLa
    cases hv
    obtain ⟨cv, hm, y, rfl, hy⟩ := hL a _ hLa
    have hat := hl.2.2 _ hm
    simp only [bi_ok, Bool.or_eq_true] at hk
    rcases hk with hd | hd
    · obtain ⟨hd, hn⟩ := bi_dn_ok hd
      rw [hn]
      exact ⟨_, (bw_pL (hy) hs), fun k => lv_lload hx hb hd hat k⟩
    · split at hd
      · obtain ⟨hd, hn⟩ := bi_dn_ok hd
        rw [hn]
        exact ⟨_, (bw_pL (hy) hs), fun k => lv_lload_n hx hb hd rfl hat k⟩
      · cases hd
  · cases hv
theorem bw_3 {m i : Nat} {hh : List Nat} {a b : Nat} {n : Int} {l' : List Nat} {L : Lcl} {st : List AV} {S : Shp} {M : Mem} {x y z : Int} (hk : bi_ok m i hh (3, a, b, n, l') = true) (hv : bi_bin a x y = some z) : bw_S m i (i + 1) L (.inl y :: .inl x :: st) (.inl z :: st) S M := by
  intro p l e R s mid args below meth c H locs cells slots Q D tys A rv ws ls lvs stc hF hW hl hL hs hc hz hfr hlo
  obtain ⟨hx, hb, -⟩ := hF
  obtain ⟨vy, t1, rfl, ⟨y', rfl, rfl⟩, hs1⟩ := bw_cons hs
  obtain ⟨vx, t2, rfl, ⟨x', rfl, rfl⟩, hs2⟩ := bw_cons hs1
  simp only [bi_ok] at hk
  obtain ⟨hd, hn⟩ := bi_dn_ok hk
  rw [hn]
  match a, hv, hd with
  | 0, hv, hd => obtain ⟨h1, rfl⟩ := bi_ite hv; exact ⟨_, (bw_pI (nu_add h1) hs2), fun k => lv_iadd hx hb hd k⟩
  | 1, hv, hd => obtain ⟨h1, rfl⟩ := bi_ite hv; exact ⟨_, (bw_pI (nu_sub h1) hs2), fun k => lv_isub hx hb hd k⟩
  | 2, hv, hd => obtain ⟨h1, rfl⟩ := bi_ite hv; exact ⟨_, (bw_pI (nu_mul h1) hs2), fun k => lv_imul hx hb hd k⟩
  | 3, hv, hd => obtain ⟨h1, rfl⟩ := bi_ite hv; exact ⟨_, (bw_pI (nu_div h1.1 h1.2) hs2), fun k => lv_idiv hx hb hd (fun q => by rw [q] at h1; exact absurd h1.2 (by decide)) k⟩
  | 4, hv, hd => obtain ⟨h1, rfl⟩ := bi_ite hv; exact ⟨_, (bw_pI (nu_rem h1.1 h1.2) hs2), fun k => lv_irem hx hb hd (fun q => by rw [q] at h1; exact absurd h1.2 (by decide)) k⟩
  | 5, hv, hd => obtain ⟨h1, rfl⟩ := bi_ite hv; exact ⟨_, (bw_pI (nu_shl h1.1 h1.2.1 h1.2.2.1 h1.2.2.2) hs2), fun k => lv_ishl hx hb hd k⟩
  | 6, hv, hd => obtain ⟨h1, rfl⟩ := bi_ite hv; exact ⟨_, (bw_pI (nu_shr h1.1 h1.2.1 h1.2.2) hs2), fun k => lv_ishr hx hb hd k⟩
  | 7, hv, hd => obtain ⟨h1, rfl⟩ := bi_ite hv; exact ⟨_, (bw_pI (nu_ushr h1.1 h1.2.1 h1.2.2) hs2), fun k => lv_iushr hx hb hd rfl k⟩
  | 8, hv, hd => exact ⟨_, (bw_pI (nu_bi_and hv) hs2), fun k => lv_iand hx hb hd k⟩
  | 9, hv, hd =>
    obtain ⟨h1, rfl⟩ := bi_ite hv
    obtain ⟨u, hu, -, eu⟩ := nu_nat h1.1
    obtain ⟨w, hw, -, ew⟩ := nu_nat h1.2
    exact ⟨_, (bw_pI (by rw [nu_or hu hw eu ew, eu, ew]; rfl) hs2), fun k => lv_ior hx hb hd k⟩
  | 10, hv, hd =>
    simp only [bi_bin] at hv
    split at hv
    · rename_i h1
      cases hv
      obtain ⟨u, hu, -, eu⟩ := nu_nat h1.1
      obtain ⟨w, hw, -, ew⟩ := nu_nat h1.2
      exact ⟨_, (bw_pI (by rw [nu_xor hu hw eu ew, eu, ew]; rfl) hs2), fun k => lv_ixor hx hb hd k⟩
    · obtain ⟨h1, rfl⟩ := bi_ite hv
      exact ⟨_, (bw_pI (nu_not h1) hs2), fun k => lv_ixor hx hb hd k⟩
  | a + 11, hv, hd => cases hv
theorem bw_4 {m i : Nat} {hh : List Nat} {a b : Nat} {n : Int} {l' : List Nat} {L : Lcl} {st : List AV} {S : Shp} {M : Mem} {x z : Int} (hk : bi_ok m i hh (4, a, b, n, l') = true) (hv : bi_un a x = some z) : bw_S m i (i + 1) L (.inl x :: st) (.inl z :: st) S M := by
  intro p l e R s mid args below meth c H locs cells slots Q D tys A rv ws ls lvs stc hF hW hl hL hs hc hz hfr hlo
  obtain ⟨hx, hb, -⟩ := hF
  obtain ⟨vx, t2, rfl, ⟨x', rfl, rfl⟩, hs1⟩ := bw_cons hs
  simp only [bi_ok] at hk
  obtain ⟨hd, hn⟩ := bi_dn_ok hk
  rw [hn]
  match a, hv, hd with
  | 0, hv, hd => obtain ⟨h1, rfl⟩ := bi_ite hv; exact ⟨_, (bw_pI (nu_neg h1) hs1), fun k => lv_ineg hx hb hd k⟩
  | 1, hv, hd => obtain ⟨h1, rfl⟩ := bi_ite hv; exact ⟨_, (bw_pI (y := x') (rfl) hs1), fun k => lv_i2b hx hb hd (nu_b8 h1.1 h1.2) k⟩
  | 2, hv, hd => obtain ⟨h1, rfl⟩ := bi_ite hv; exact ⟨_, (bw_pI (y := x') (rfl) hs1), fun k => lv_i2c hx hb hd (nu_c16 h1.1 h1.2) k⟩
  | a + 3, hv, hd => cases hv
theorem bw_5 {m i : Nat} {hh : List Nat} {a b : Nat} {n : Int} {l' : List Nat} {L : Lcl} {st : List AV} {S : Shp} {M : Mem} {x : Int} (hk : bi_ok m i hh (5, a, b, n, l') = true) : bw_S m i (i + 1) L (.inl x :: st) (.inr (.inl x) :: st) S M := by
  intro p l e R s mid args below meth c H locs cells slots Q D tys A rv ws ls lvs stc hF hW hl hL hs hc hz hfr hlo
  obtain ⟨hx, hb, -⟩ := hF
  obtain ⟨vx, t2, rfl, ⟨x', rfl, rfl⟩, hs1⟩ := bw_cons hs
  simp only [bi_ok] at hk
  obtain ⟨hd, hn⟩ := bi_dn_ok hk
  rw [hn]
  exact ⟨_, (bw_pL (y := x'.toInt64) (Int32.toInt_toInt64 x') hs1), fun k => lv_i2l hx hb hd rfl k⟩
theorem bw_6 {m i : Nat} {hh : List Nat} {a b : Nat} {n : Int} {l' : List Nat} {L : Lcl} {st : List AV} {S : Shp} {M : Mem} {x : Int} (hk : bi_ok m i hh (6, a, b, n, l') = true) (hv : inR x) : bw_S m i (i + 1) L (.inr (.inl x) :: st) (.inl x :: st) S M := by
  intro p l e R s mid args below meth c H locs cells slots Q D tys A rv ws ls lvs stc hF hW hl hL hs hc hz hfr hlo
  obtain ⟨hx, hb, -⟩ := hF
  obtain ⟨vx, t2, rfl, ⟨x', rfl, rfl⟩, hs1⟩ := bw_cons hs
  simp only [bi_ok] at hk
  obtain ⟨hd, hn⟩ := bi_dn_ok hk
  rw [hn]
  exact ⟨_, (bw_pI (y := x'.toInt32) (by rw [Int64.toInt_toInt32, nu_bm hv]) hs1), fun k => lv_l2i hx hb hd rfl k⟩
theorem bw_7 {m i : Nat} {hh : List Nat} {a b : Nat} {n : Int} {l' : List Nat} {L : Lcl} {st : List AV} {S : Shp} {M : Mem} {x y z : Int} (hk : bi_ok m i hh (7, a, b, n, l') = true) (hv : bi_lbin a x y = some z) : bw_S m i (i + 1) L (.inr (.inl y) :: .inr (.inl x) :: st) (.inr (.inl z) :: st) S M := by
  intro p l e R s mid args below meth c H locs cells slots Q D tys A rv ws ls lvs stc hF hW hl hL hs hc hz hfr hlo
  obtain ⟨hx, hb, -⟩ := hF
  obtain ⟨vy, t1, rfl, ⟨y', rfl, rfl⟩, hs1⟩ := bw_cons hs
  obtain ⟨vx, t2, rfl, ⟨x', rfl, rfl⟩, hs2⟩ := bw_cons hs1
  simp only [bi_ok] at hk
  obtain ⟨hd, hn⟩ := bi_dn_ok hk
  rw [hn]
  match a, hv, hd with
  | 0, hv, hd => obtain ⟨h1, rfl⟩ := bi_ite hv; exact ⟨_, (bw_pL (nu_ladd h1) hs2), fun k => lv_ladd hx hb hd k⟩
  | 1, hv, hd => obtain ⟨h1, rfl⟩ := bi_ite hv; exact ⟨_, (bw_pL (nu_lmul h1) hs2), fun k => lv_lmul hx hb hd k⟩
  | 2, hv, hd => obtain ⟨h1, rfl⟩ := bi_ite hv; exact ⟨_, (bw_pL (nu_lrem h1.1 h1.2) hs2), fun k => lv_lrem hx hb hd (fun q => by rw [q] at h1; exact absurd h1.2 (by decide)) k⟩
  | a + 3, hv, hd => cases hv
theorem bw_8 {m i : Nat} {hh : List Nat} {a b : Nat} {n : Int} {l' : List Nat} {L : Lcl} {st : List AV} {S : Shp} {M : Mem} {x y : Int} (hk : bi_ok m i hh (8, a, b, n, l') = true) : bw_S m i (i + 1) L (.inr (.inl y) :: .inr (.inl x) :: st) (.inl (if x < y then -1 else if x = y then 0 else 1) :: st) S M := by
  intro p l e R s mid args below meth c H locs cells slots Q D tys A rv ws ls lvs stc hF hW hl hL hs hc hz hfr hlo
  obtain ⟨hx, hb, -⟩ := hF
  obtain ⟨vy, t1, rfl, ⟨y', rfl, rfl⟩, hs1⟩ := bw_cons hs
  obtain ⟨vx, t2, rfl, ⟨x', rfl, rfl⟩, hs2⟩ := bw_cons hs1
  simp only [bi_ok] at hk
  obtain ⟨hd, hn⟩ := bi_dn_ok hk
  rw [hn]
  refine ⟨_, (bw_pI (y := lg_cmp x' y') ?_ hs2), fun k => W.lcmp hx hb hd k⟩
  unfold lg_cmp
  have e1 : x' > y' ↔ y'.toInt < x'.toInt := Int64.lt_iff_toInt_lt
  have e2 : x' = y' ↔ x'.toInt = y'.toInt := nu_leq
  rcases Int.lt_trichotomy x'.toInt y'.toInt with h | h | h
  · rw [if_neg (fun q => by have := e1.mp q; omega), if_neg (fun q => by have := e2.mp q; omega), if_pos h]; decide
  · rw [if_neg (fun q => by have := e1.mp q; omega), if_pos (e2.mpr h), if_neg (by omega), if_pos h]; decide
  · rw [if_pos (e1.mpr h), if_neg (by omega), if_neg (by omega)]; decide
theorem bw_11 {m i : Nat} {hh : List Nat} {a b : Nat} {n : Int} {l' : List Nat} {L : Lcl} {st : List AV} {S : Shp} {M : Mem} (hk : bi_ok m i hh (11, a, b, n, l') = true) : bw_S m i a L st st S M := by
  intro p l e R s mid args below meth c H locs cells slots Q D tys A rv ws ls lvs stc hF hW hl hL hs hc hz hfr hlo
  obtain ⟨hx, hb, -⟩ := hF
  simp only [bi_ok] at hk
  exact ⟨_, hs, fun k => lv_goto hx hb (bi_d_ok hk) (bi_off_ok m i a) k⟩
theorem bw_12 {m i : Nat} {hh : List Nat} {a b : Nat} {n : Int} {l' : List Nat} {L : Lcl} {st : List AV} {S : Shp} {M : Mem} {x y : Int} (hk : bi_ok m i hh (12, a, b, n, l') = true) : bw_S m i (if bi_cond b x y = true then a else i + 1) L (.inl y :: .inl x :: st) st S M := by
  intro p l e R s mid args below meth c H locs cells slots Q D tys A rv ws ls lvs stc hF hW hl hL hs hc hz hfr hlo
  obtain ⟨hx, hb, -⟩ := hF
  obtain ⟨vy, t1, rfl, ⟨y', rfl, rfl⟩, hs1⟩ := bw_cons hs
  obtain ⟨vx, t2, rfl, ⟨x', rfl, rfl⟩, hs2⟩ := bw_cons hs1
  simp only [bi_ok] at hk
  obtain ⟨hd, hn⟩ := bi_dn_ok hk
  refine ⟨_, hs2, fun k => ?_⟩
  have ht := bi_off_ok m i a
  have hlt : ∀ u v : Int32, u < v ↔ u.toInt < v.toInt := fun u v => Int32.lt_iff_toInt_lt
  have hle : ∀ u v : Int32, u ≤ v ↔ u.toInt ≤ v.toInt := fun u v => Int32.le_iff_toInt_le
  match b, hd, k with
  | 0, hd, k => exact lv_icmp_eq (tgt := bi_pc m a) hx hb hd ht (fun h => by rw [if_pos (show bi_cond 0 x'.toInt y'.toInt = true from decide_eq_true (nu_eq.mp h))] at k; exact k) (fun h => by rw [if_neg (show ¬ bi_cond 0 x'.toInt y'.toInt = true from fun z => (fun q => h (nu_eq.mpr q)) (of_decide_eq_true z)), hn] at k; exact k)
  | 1, hd, k => exact lv_icmp_ne (tgt := bi_pc m a) hx hb hd ht (fun h => by rw [if_pos (show bi_cond 1 x'.toInt y'.toInt = true from decide_eq_true (fun q => h (nu_eq.mpr q)))] at k; exact k) (fun h => by rw [if_neg (show ¬ bi_cond 1 x'.toInt y'.toInt = true from fun z => (fun q => q (nu_eq.mp h)) (of_decide_eq_true z)), hn] at k; exact k)
  | 2, hd, k => exact lv_icmp_lt (tgt := bi_pc m a) hx hb hd ht (fun h => by rw [if_pos (show bi_cond 2 x'.toInt y'.toInt = true from decide_eq_true ((hlt _ _).mp h))] at k; exact k) (fun h => by rw [if_neg (show ¬ bi_cond 2 x'.toInt y'.toInt = true from fun z => (fun q => h ((hlt _ _).mpr q)) (of_decide_eq_true z)), hn] at k; exact k)
  | 3, hd, k => exact lv_icmp_ge (tgt := bi_pc m a) hx hb hd ht (fun h => by rw [if_pos (show bi_cond 3 x'.toInt y'.toInt = true from decide_eq_true ((hle _ _).mp h))] at k; exact k) (fun h => by rw [if_neg (show ¬ bi_cond 3 x'.toInt y'.toInt = true from fun z => (fun q => h ((hle _ _).mpr q)) (of_decide_eq_true z)), hn] at k; exact k)
  | 4, hd, k => exact lv_icmp_gt (tgt := bi_pc m a) hx hb hd ht (fun h => by rw [if_pos (show bi_cond 4 x'.toInt y'.toInt = true from decide_eq_true ((hlt _ _).mp h))] at k; exact k) (fun h => by rw [if_neg (show ¬ bi_cond 4 x'.toInt y'.toInt = true from fun z => (fun q => h ((hlt _ _).mpr q)) (of_decide_eq_true z)), hn] at k; exact k)
  | b + 5, hd, k => exact lv_icmp_le (tgt := bi_pc m a) hx hb hd ht (fun h => by rw [if_pos (show bi_cond (b + 5) x'.toInt y'.toInt = true from decide_eq_true ((hle _ _).mp h))] at k; exact k) (fun h => by rw [if_neg (show ¬ bi_cond (b + 5) x'.toInt y'.toInt = true from fun z => (fun q => h ((hle _ _).mpr q)) (of_decide_eq_true z)), hn] at k; exact k)
theorem bw_13 {m i : Nat} {hh : List Nat} {a b : Nat} {n : Int} {l' : List Nat} {L : Lcl} {st : List AV} {S : Shp} {M : Mem} {x : Int} (hk : bi_ok m i hh (13, a, b, n, l') = true) : bw_S m i (if bi_cond b x 0 = true then a else i + 1) L (.inl x :: st) st S M := by
  intro p l e R s mid args below meth c H locs cells slots Q D tys A rv ws ls lvs stc hF hW hl hL hs hc hz hfr hlo
  obtain ⟨hx, hb, -⟩ := hF
  obtain ⟨vx, t2, rfl, ⟨x', rfl, rfl⟩, hs1⟩ := bw_cons hs
  simp only [bi_ok] at hk
  obtain ⟨hd, hn⟩ := bi_dn_ok hk
  refine ⟨_, hs1, fun k => ?_⟩
  have ht := bi_off_ok m i a
  have h00 : (0 : Int32).toInt = 0 := by decide
  have hlt : ∀ u v : Int32, u < v ↔ u.toInt < v.toInt := fun u v => Int32.lt_iff_toInt_lt
  have hle : ∀ u v : Int32, u ≤ v ↔ u.toInt ≤ v.toInt := fun u v => Int32.le_iff_toInt_le
  match b, hd, k with
  | 0, hd, k => exact lv_if_eq (tgt := bi_pc m a) hx hb hd ht (fun h => by rw [if_pos (show bi_cond 0 x'.toInt 0 = true from decide_eq_true ((nu_eq.mp h).trans h00))] at k; exact k) (fun h => by rw [if_neg (show ¬ bi_cond 0 x'.toInt 0 = true from fun z => (fun q => h (nu_eq.mpr (q.trans h00.symm))) (of_decide_eq_true z)), hn] at k; exact k)
  | 1, hd, k => exact lv_if_ne (tgt := bi_pc m a) hx hb hd ht (fun h => by rw [if_pos (show bi_cond 1 x'.toInt 0 = true from decide_eq_true (fun q => h (nu_eq.mpr (q.trans h00.symm))))] at k; exact k) (fun h => by rw [if_neg (show ¬ bi_cond 1 x'.toInt 0 = true from fun z => (fun q => q ((nu_eq.mp h).trans h00)) (of_decide_eq_true z)), hn] at k; exact k)
  | 2, hd, k => exact lv_if_lt (tgt := bi_pc m a) hx hb hd ht (fun h => by rw [if_pos (show bi_cond 2 x'.toInt 0 = true from decide_eq_true (by have z := (hlt _ _).mp h; rw [h00] at z; exact z))] at k; exact k) (fun h => by rw [if_neg (show ¬ bi_cond 2 x'.toInt 0 = true from fun z => (fun q => h ((hlt _ _).mpr (by rw [h00]; exact q))) (of_decide_eq_true z)), hn] at k; exact k)
  | 3, hd, k => exact lv_if_ge (tgt := bi_pc m a) hx hb hd ht (fun h => by rw [if_pos (show bi_cond 3 x'.toInt 0 = true from decide_eq_true (by have z := (hle _ _).mp h; rw [h00] at z; exact z))] at k; exact k) (fun h => by rw [if_neg (show ¬ bi_cond 3 x'.toInt 0 = true from fun z => (fun q => h ((hle _ _).mpr (by rw [h00]; exact q))) (of_decide_eq_true z)), hn] at k; exact k)
  | 4, hd, k => exact lv_if_gt (tgt := bi_pc m a) hx hb hd ht (fun h => by rw [if_pos (show bi_cond 4 x'.toInt 0 = true from decide_eq_true (by have z := (hlt _ _).mp h; rw [h00] at z; exact z))] at k; exact k) (fun h => by rw [if_neg (show ¬ bi_cond 4 x'.toInt 0 = true from fun z => (fun q => h ((hlt _ _).mpr (by rw [h00]; exact q))) (of_decide_eq_true z)), hn] at k; exact k)
  | b + 5, hd, k => exact lv_if_le (tgt := bi_pc m a) hx hb hd ht (fun h => by rw [if_pos (show bi_cond (b + 5) x'.toInt 0 = true from decide_eq_true (by have z := (hle _ _).mp h; rw [h00] at z; exact z))] at k; exact k) (fun h => by rw [if_neg (show ¬ bi_cond (b + 5) x'.toInt 0 = true from fun z => (fun q => h ((hle _ _).mpr (by rw [h00]; exact q))) (of_decide_eq_true z)), hn] at k; exact k)
theorem bw_28 {m i : Nat} {hh : List Nat} {a b : Nat} {n : Int} {l' : List Nat} {L : Lcl} {st : List AV} {S : Shp} {M : Mem} {v : AV} (hk : bi_ok m i hh (28, a, b, n, l') = true) (hv : bi_isL (some (some v)) = false) : bw_S m i (i + 1) L (v :: st) (v :: v :: st) S M := by
  intro p l e R s mid args below meth c H locs cells slots Q D tys A rv ws ls lvs stc hF hW hl hL hs hc hz hfr hlo
  obtain ⟨hx, hb, -⟩ := hF
  obtain ⟨vx, t2, rfl, hv1, hs1⟩ := bw_cons hs
  simp only [bi_ok] at hk
  obtain ⟨hd, hn⟩ := bi_dn_ok hk
  rw [hn]
  have hc1 : vx.category = 1 := by
    rw [bw_cat hW.2.2.2.2.2 hv1]
    match v, hv with
    | .inl _, _ => rfl
    | .inr (.inr _), _ => rfl
  exact ⟨_, (bw_p hv1 (bw_p hv1 hs1)), fun k => lv_dup hx hb hd hc1 k⟩
theorem bw_29 {m i : Nat} {hh : List Nat} {a b : Nat} {n : Int} {l' : List Nat} {L : Lcl} {st : List AV} {S : Shp} {M : Mem} {x : Int} {q : Nat} (hk : bi_ok m i hh (29, a, b, n, l') = true) : bw_S m i (i + 1) L (.inl x :: .inr (.inr q) :: st) (.inl x :: .inr (.inr q) :: .inl x :: .inr (.inr q) :: st) S M := by
  intro p l e R s mid args below meth c H locs cells slots Q D tys A rv ws ls lvs stc hF hW hl hL hs hc hz hfr hlo
  obtain ⟨hx, hb, -⟩ := hF
  obtain ⟨vx, t1, rfl, hv1, hs1⟩ := bw_cons hs
  obtain ⟨vy, t2, rfl, hv2, hs2⟩ := bw_cons hs1
  simp only [bi_ok] at hk
  obtain ⟨hd, hn⟩ := bi_dn_ok hk
  rw [hn]
  exact ⟨_, (bw_p hv1 (bw_p hv2 (bw_p hv1 (bw_p hv2 hs2)))), fun k => lv_dup2_11 hx hb hd (bw_cat hW.2.2.2.2.2 hv1) (bw_cat hW.2.2.2.2.2 hv2) k⟩
theorem bw_30 {m i : Nat} {hh : List Nat} {a b : Nat} {n : Int} {l' : List Nat} {L : Lcl} {st : List AV} {S : Shp} {M : Mem} {v : AV} (hk : bi_ok m i hh (30, a, b, n, l') = true) (hv : bi_isL (some (some v)) = false) : bw_S m i (i + 1) L (v :: st) st S M := by
  intro p l e R s mid args below meth c H locs cells slots Q D tys A rv ws ls lvs stc hF hW hl hL hs hc hz hfr hlo
  obtain ⟨hx, hb, -⟩ := hF
  obtain ⟨vx, t1, rfl, hv1, hs1⟩ := bw_cons hs
  simp only [bi_ok] at hk
  obtain ⟨hd, hn⟩ := bi_dn_ok hk
  rw [hn]
  have hc1 : vx.category = 1 := by
    rw [bw_cat hW.2.2.2.2.2 hv1]
    match v, hv with
    | .inl _, _ => rfl
    | .inr (.inr _), _ => rfl
  exact ⟨_, hs1, fun k => lv_pop hx hb hd hc1 k⟩
