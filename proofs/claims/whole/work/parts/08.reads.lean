/-! INSTRUCTIONS that read fields and arrays, switches, the library's small functions -/
theorem bw_c_0 (tys : List (ClassId × FieldType)) (rv : List Value) (n : Nat) (rs : List Nat) (f : Nat → Int) (e : va_E) : bw_c tys rv (0, n, rs) f e ↔ ∃ (cA : ClassId) (t0 : Nat) (g : Nat → Int32), tys[t0]? = some (cA, .int) ∧ e = .inl (cA, n, .inl g) ∧ n ≤ 65536 ∧ ∀ j, j < n → (g j).toInt = f j := Iff.rfl
theorem bw_c_1 (tys : List (ClassId × FieldType)) (rv : List Value) (n : Nat) (rs : List Nat) (f : Nat → Int) (e : va_E) : bw_c tys rv (1, n, rs) f e ↔ ∃ (cA : ClassId) (t0 : Nat) (g : Nat → Int32), tys[t0]? = some (cA, .byte) ∧ e = .inl (cA, n, .inl g) ∧ n ≤ 65536 ∧ ∀ j, j < n → (g j).toInt = f j := Iff.rfl
theorem bw_c_2 (tys : List (ClassId × FieldType)) (rv : List Value) (n : Nat) (rs : List Nat) (f : Nat → Int) (e : va_E) : bw_c tys rv (2, n, rs) f e ↔ ∃ (cA : ClassId) (t0 : Nat) (g : Nat → Option Nat), tys[t0]? = some (cA, .object "ByInitials$Town") ∧ e = .inl (cA, n, .inr (.inr (.inr (.inr g)))) ∧ n ≤ 65536 ∧ ∀ j, j < n → rv[(f j).toNat]? = some (va_rf (g j)) := Iff.rfl
theorem bw_c_3 (tys : List (ClassId × FieldType)) (rv : List Value) (c n : Nat) (rs : List Nat) (f : Nat → Int) (e : va_E) : bw_c tys rv (c + 3, n, rs) f e ↔ ∃ fs : List Value, e = .inr (c, fs) ∧ fs.length = n ∧ n = (bi_cls c).2.2 ∧ c < 10 ∧ rs.length = n ∧ ∀ j, j < n → ∃ v, fs[j]? = some v ∧ (if bi_isI c j = true then ∃ y : Int32, v = .int y ∧ y.toInt = f j else rv[rs.getD j 0]? = some v) := Iff.rfl
theorem bw_cl : ∀ a, a < 10 → vwCl[a]? = some ((bi_cls a).1, (bi_cls a).2.1, (bi_cls a).2.2) := by
  intro a ha
  rcases (show a = 0 ∨ a = 1 ∨ a = 2 ∨ a = 3 ∨ a = 4 ∨ a = 5 ∨ a = 6 ∨ a = 7 ∨ a = 8 ∨ a = 9 by omega) with rfl | rfl | rfl | rfl | rfl | rfl | rfl | rfl | rfl | rfl <;> rfl
theorem bw_uws : ∀ a, a < 10 → ∀ w ∈ u_ws (bi_cls a).1 (bi_cls a).2.1 (bi_cls a).2.2, w ∈ wAll := by decide +kernel
/-- one of the four cells outside, by its kind -/
theorem bw_ouk {A : Nat → Prop} {U : State} {H : Heap} {rv : List Value} {S : Shp} {M : Mem} (h : bw_ou A U H rv S M) {q kd n' : Nat} {rs : List Nat} (h4 : ¬ 4 ≤ q) (hS : S[q]? = some (kd, n', rs)) : (q = 0 ∧ kd = 0) ∨ (q = 1 ∧ kd = 13 ∧ n' = 2 ∧ rs = [3, 0]) ∨ (q = 2 ∧ kd = 1 ∧ n' = 41) ∨ (q = 3 ∧ kd = 2 ∧ n' = 0) := by
  obtain ⟨b, N, b1, b2, xs, ys, fv, o1, o2, o3, o4, -⟩ := h
  rcases (show q = 0 ∨ q = 1 ∨ q = 2 ∨ q = 3 by omega) with rfl | rfl | rfl | rfl
  · have := Option.some.inj (hS.symm.trans o1.2.1); cases this; exact Or.inl ⟨rfl, rfl⟩
  · have := Option.some.inj (hS.symm.trans o2.2.1); cases this; exact Or.inr (Or.inl ⟨rfl, rfl, rfl, rfl⟩)
  · have := Option.some.inj (hS.symm.trans o3.2.1); cases this; exact Or.inr (Or.inr (Or.inl ⟨rfl, rfl, rfl⟩))
  · have := Option.some.inj (hS.symm.trans o4.2.1); cases this; exact Or.inr (Or.inr (Or.inr ⟨rfl, rfl, rfl⟩))
theorem bw_14 {m i : Nat} {hh : List Nat} {a b : Nat} {n : Int} {l' : List Nat} {L : Lcl} {st : List AV} {S : Shp} {M : Mem} {q kd n' : Nat} {rs : List Nat} (hk : bi_ok m i hh (14, a, b, n, l') = true) (hS : S[q]? = some (kd, n', rs)) (h1 : kd = a + 3 ∧ b < n') : bw_S m i (i + 1) L (.inr (.inr (q + 1)) :: st) (.inl (M q b) :: st) S M := by
  intro p l e R s mid args below meth c H locs cells slots Q D tys A rv ws ls lvs stc hF hW hl hL hs hc hz hfr hlo
  obtain ⟨hx, hb, -, -, ho, hts, -⟩ := hF
  obtain ⟨v, t, rfl, hv, hs1⟩ := bw_cons hs
  obtain ⟨rfl, hbn⟩ := h1
  by_cases h4 : 4 ≤ q
  · obtain ⟨ad, e', rfl, hws, hcell⟩ := bw_cell hW.2.2.2.2.2 h4 hS hv
    obtain ⟨fs, rfl, hfl, hN, ha, hrs, hfield⟩ := (bw_c_3 tys rv a n' rs (M q) e').mp hcell
    have hk' : (bi_fw (bi_own m) (hh.headD 0) a b (bi_jn (hh.headD 0)) && bi_isI a b && bi_dn m i (.getfield (bi_jn (hh.headD 0))) 3) = true := by
      rcases (show a = 0 ∨ a = 1 ∨ a = 2 ∨ a = 3 ∨ a = 4 ∨ a = 5 ∨ a = 6 ∨ a = 7 ∨ a = 8 ∨ a = 9 by omega) with rfl | rfl | rfl | rfl | rfl | rfl | rfl | rfl | rfl | rfl <;> exact hk
    simp only [Bool.and_eq_true, bi_fw, decide_eq_true_eq] at hk'
    obtain ⟨⟨⟨⟨hw, hbN⟩, -⟩, hI⟩, hd⟩ := hk'
    obtain ⟨hd, hn⟩ := bi_dn_ok hd
    rw [hn]
    obtain ⟨fv, hfv, hcond⟩ := hfield b hbn
    rw [if_pos hI] at hcond
    obtain ⟨y, rfl, hy⟩ := hcond
    exact ⟨.int y :: t, (bw_pI (y := y) (hy) hs1), fun k => va_get (D := D) (ci := a) (C := (bi_cls a).1) (T := (bi_cls a).2.1) (N := (bi_cls a).2.2) hx hb hts (bw_uws a ha) ho hW.1 hW.2.1 (q - 4) hws (bw_cl a ha) b hbN (hts _ (bi_w_ok hw)) (fun _ h => h) hfv hd k⟩
  · have hou := hW.2.2.2.2.1
    rcases bw_ouk hou h4 hS with ⟨-, h⟩ | ⟨rfl, h, rfl, -⟩ | ⟨-, h, -⟩ | ⟨-, h, -⟩
    · omega
    · have ha : a = 10 := by omega
      subst ha
      obtain ⟨b', N, b1, b2, xs, ys, fv, o1, o2, o3, o4, -⟩ := hou
      rcases (show b = 0 ∨ b = 1 by omega) with rfl | rfl
      · simp only [bi_ok, bi_fw, Bool.and_eq_true, decide_eq_true_eq] at hk
        exact absurd hk.1.1.2 (by decide)
      · simp only [bi_ok, Bool.and_eq_true] at hk
        obtain ⟨hd, hn⟩ := bi_dn_ok hk.2
        rw [hn]
        have e1 := Option.some.inj (hv.symm.trans o2.1)
        subst e1
        rw [o2.2.2.1]
        exact ⟨.int 0 :: t, (bw_pI (y := 0) (by decide) hs1), fun k => vk_getf hx hb o2.2.2.2.2.1 hW.2.2.2.1 ho (hts _ (bi_w_ok hk.1)) (fun _ h => h) hd k⟩
    · omega
    · omega
theorem bw_15 {m i : Nat} {hh : List Nat} {a b : Nat} {n : Int} {l' : List Nat} {L : Lcl} {st : List AV} {S : Shp} {M : Mem} {q kd n' : Nat} {rs : List Nat} (hk : bi_ok m i hh (15, a, b, n, l') = true) (hS : S[q]? = some (kd, n', rs)) (h1 : kd = a + 3 ∧ b < n') : bw_S m i (i + 1) L (.inr (.inr (q + 1)) :: st) (.inr (.inr (rs.getD b 0)) :: st) S M := by
  intro p l e R s mid args below meth c H locs cells slots Q D tys A rv ws ls lvs stc hF hW hl hL hs hc hz hfr hlo
  obtain ⟨hx, hb, -, -, ho, hts, -⟩ := hF
  obtain ⟨v, t, rfl, hv, hs1⟩ := bw_cons hs
  obtain ⟨rfl, hbn⟩ := h1
  by_cases h4 : 4 ≤ q
  · obtain ⟨ad, e', rfl, hws, hcell⟩ := bw_cell hW.2.2.2.2.2 h4 hS hv
    obtain ⟨fs, rfl, hfl, hN, ha, hrs, hfield⟩ := (bw_c_3 tys rv a n' rs (M q) e').mp hcell
    have hk' : (bi_fw (bi_own m) (hh.headD 0) a b (bi_jn (hh.headD 0)) && !bi_isI a b && bi_dn m i (.getfield (bi_jn (hh.headD 0))) 3) = true := by
      rcases (show a = 0 ∨ a = 1 ∨ a = 2 ∨ a = 3 ∨ a = 4 ∨ a = 5 ∨ a = 6 ∨ a = 7 ∨ a = 8 ∨ a = 9 by omega) with rfl | rfl | rfl | rfl | rfl | rfl | rfl | rfl | rfl | rfl <;> exact hk
    simp only [Bool.and_eq_true, bi_fw, decide_eq_true_eq, Bool.not_eq_true'] at hk'
    obtain ⟨⟨⟨⟨hw, hbN⟩, -⟩, hI⟩, hd⟩ := hk'
    obtain ⟨hd, hn⟩ := bi_dn_ok hd
    rw [hn]
    obtain ⟨fv, hfv, hcond⟩ := hfield b hbn
    rw [if_neg (by rw [hI]; decide)] at hcond
    exact ⟨fv :: t, (bw_pR (hcond) hs1), fun k => va_get (D := D) (ci := a) (C := (bi_cls a).1) (T := (bi_cls a).2.1) (N := (bi_cls a).2.2) hx hb hts (bw_uws a ha) ho hW.1 hW.2.1 (q - 4) hws (bw_cl a ha) b hbN (hts _ (bi_w_ok hw)) (fun _ h => h) hfv hd k⟩
  · have hou := hW.2.2.2.2.1
    rcases bw_ouk hou h4 hS with ⟨-, h⟩ | ⟨rfl, h, rfl, rfl⟩ | ⟨-, h, -⟩ | ⟨-, h, -⟩
    · omega
    · have ha : a = 10 := by omega
      subst ha
      obtain ⟨b', N, b1, b2, xs, ys, fv, o1, o2, o3, o4, -⟩ := hou
      rcases (show b = 0 ∨ b = 1 by omega) with rfl | rfl
      · simp only [bi_ok, Bool.and_eq_true] at hk
        obtain ⟨hd, hn⟩ := bi_dn_ok hk.2
        rw [hn]
        have e1 := Option.some.inj (hv.symm.trans o2.1)
        subst e1
        exact ⟨.ref b2 :: t, (bw_pR (o3.1) hs1), fun k => vk_getf hx hb o2.2.2.2.2.2 hW.2.2.2.1 ho (hts _ (bi_w_ok hk.1)) (fun _ h => h) hd k⟩
      · simp only [bi_ok, bi_fw, Bool.and_eq_true, decide_eq_true_eq] at hk
        exact absurd hk.1.1.2 (by decide)
    · omega
    · omega
theorem bw_18 {m i : Nat} {hh : List Nat} {a b : Nat} {n : Int} {l' : List Nat} {L : Lcl} {st : List AV} {S : Shp} {M : Mem} {q n' : Nat} {rs : List Nat} {j : Int} (hk : bi_ok m i hh (18, a, b, n, l') = true) (hS : S[q]? = some (0, n', rs)) (h0 : 0 ≤ j) (h1 : j < n') : bw_S m i (i + 1) L (.inl j :: .inr (.inr (q + 1)) :: st) (.inl (M q j.toNat) :: st) S M := by
  intro p l e R s mid args below meth c H locs cells slots Q D tys A rv ws ls lvs stc hF hW hl hL hs hc hz hfr hlo
  obtain ⟨hx, hb, -, -, ho, hts, -⟩ := hF
  obtain ⟨vj, t1, rfl, ⟨y, rfl, rfl⟩, hs1⟩ := bw_cons hs
  obtain ⟨v, t, rfl, hv, hs2⟩ := bw_cons hs1
  simp only [bi_ok] at hk
  obtain ⟨hd, hn⟩ := bi_dn_ok hk
  rw [hn]
  have hin : vp_in y n' := nu_vin h0 h1
  by_cases h4 : 4 ≤ q
  · obtain ⟨ad, e', rfl, hws, hcell⟩ := bw_cell hW.2.2.2.2.2 h4 hS hv
    obtain ⟨cA, t0, g, ht, rfl, -, hg⟩ := (bw_c_0 tys rv n' rs (M q) e').mp hcell
    exact ⟨_, (bw_pI (by rw [nu_cl]; exact hg _ (by omega)) hs2), fun k => va_iald hx hb hW.1 hW.2.1 (q - 4) t0 hws ht hin hd k⟩
  · have hou := hW.2.2.2.2.1
    rcases bw_ouk hou h4 hS with ⟨rfl, -⟩ | ⟨-, h, -⟩ | ⟨-, h, -⟩ | ⟨-, h, -⟩
    · obtain ⟨b', N, b1, b2, xs, ys, fv, o1, -⟩ := hou
      have e1 := Option.some.inj (hv.symm.trans o1.1)
      subst e1
      have e2 := Option.some.inj (hS.symm.trans o1.2.1)
      cases e2
      exact ⟨_, (bw_pI (by rw [nu_cl]; exact o1.2.2.2.2 _ (by omega)) hs2), fun k => va_ti hx hb o1.2.2.2.1 hW.2.2.2.1 hin rfl hd k⟩
    · omega
    · omega
    · omega
theorem bw_20 {m i : Nat} {hh : List Nat} {a b : Nat} {n : Int} {l' : List Nat} {L : Lcl} {st : List AV} {S : Shp} {M : Mem} {q n' : Nat} {rs : List Nat} {j : Int} (hk : bi_ok m i hh (20, a, b, n, l') = true) (hS : S[q]? = some (1, n', rs)) (h0 : 0 ≤ j) (h1 : j < n') : bw_S m i (i + 1) L (.inl j :: .inr (.inr (q + 1)) :: st) (.inl (M q j.toNat) :: st) S M := by
  intro p l e R s mid args below meth c H locs cells slots Q D tys A rv ws ls lvs stc hF hW hl hL hs hc hz hfr hlo
  obtain ⟨hx, hb, -, -, ho, hts, -⟩ := hF
  obtain ⟨vj, t1, rfl, ⟨y, rfl, rfl⟩, hs1⟩ := bw_cons hs
  obtain ⟨v, t, rfl, hv, hs2⟩ := bw_cons hs1
  simp only [bi_ok] at hk
  obtain ⟨hd, hn⟩ := bi_dn_ok hk
  rw [hn]
  have hin : vp_in y n' := nu_vin h0 h1
  by_cases h4 : 4 ≤ q
  · obtain ⟨ad, e', rfl, hws, hcell⟩ := bw_cell hW.2.2.2.2.2 h4 hS hv
    obtain ⟨cA, t0, g, ht, rfl, -, hg⟩ := (bw_c_1 tys rv n' rs (M q) e').mp hcell
    exact ⟨_, (bw_pI (by rw [nu_cl]; exact hg _ (by omega)) hs2), fun k => va_bald hx hb hW.1 hW.2.1 (q - 4) t0 hws ht hin hd k⟩
  · have hou := hW.2.2.2.2.1
    rcases bw_ouk hou h4 hS with ⟨-, h⟩ | ⟨-, h, -⟩ | ⟨rfl, -, rfl⟩ | ⟨-, h, -⟩
    · omega
    · omega
    · obtain ⟨b', N, b1, b2, xs, ys, fv, o1, o2, o3, -⟩ := hou
      have e1 := Option.some.inj (hv.symm.trans o3.1)
      subst e1
      exact ⟨_, (bw_pI (by rw [nu_cl]; exact o3.2.2.2 _ (by omega)) hs2), fun k => va_tb hx hb o3.2.2.1 hW.2.2.2.1 hin rfl hd k⟩
    · omega
theorem bw_22 {m i : Nat} {hh : List Nat} {a b : Nat} {n : Int} {l' : List Nat} {L : Lcl} {st : List AV} {S : Shp} {M : Mem} {q n' : Nat} {rs : List Nat} {j : Int} (hk : bi_ok m i hh (22, a, b, n, l') = true) (hS : S[q]? = some (2, n', rs)) (h0 : 0 ≤ j) (h1 : j < n') (h4 : 4 ≤ q) : bw_S m i (i + 1) L (.inl j :: .inr (.inr (q + 1)) :: st) (.inr (.inr (M q j.toNat).toNat) :: st) S M := by
  intro p l e R s mid args below meth c H locs cells slots Q D tys A rv ws ls lvs stc hF hW hl hL hs hc hz hfr hlo
  obtain ⟨hx, hb, -, -, ho, hts, -⟩ := hF
  obtain ⟨vj, t1, rfl, ⟨y, rfl, rfl⟩, hs1⟩ := bw_cons hs
  obtain ⟨v, t, rfl, hv, hs2⟩ := bw_cons hs1
  simp only [bi_ok] at hk
  obtain ⟨hd, hn⟩ := bi_dn_ok hk
  rw [hn]
  have hin : vp_in y n' := nu_vin h0 h1
  obtain ⟨ad, e', rfl, hws, hcell⟩ := bw_cell hW.2.2.2.2.2 h4 hS hv
  obtain ⟨cA, t0, g, ht, rfl, -, hg⟩ := (bw_c_2 tys rv n' rs (M q) e').mp hcell
  exact ⟨va_rf (g y.toNatClampNeg) :: t, (bw_pR (by rw [nu_cl]; exact hg _ (by omega)) hs2), fun k => va_aldq hx hb hW.1 hW.2.1 (q - 4) t0 hws ht hin hd k⟩
theorem bw_24 {m i : Nat} {hh : List Nat} {a b : Nat} {n : Int} {l' : List Nat} {L : Lcl} {st : List AV} {S : Shp} {M : Mem} {q kd n' : Nat} {rs : List Nat} (hk : bi_ok m i hh (24, a, b, n, l') = true) (hS : S[q]? = some (kd, n', rs)) (h0 : kd < 3) (h3 : q ≠ 3) : bw_S m i (i + 1) L (.inr (.inr (q + 1)) :: st) (.inl (n' : Int) :: st) S M := by
  intro p l e R s mid args below meth c H locs cells slots Q D tys A rv ws ls lvs stc hF hW hl hL hs hc hz hfr hlo
  obtain ⟨hx, hb, -, -, ho, hts, -⟩ := hF
  obtain ⟨v, t, rfl, hv, hs1⟩ := bw_cons hs
  simp only [bi_ok] at hk
  obtain ⟨hd, hn⟩ := bi_dn_ok hk
  rw [hn]
  by_cases h4 : 4 ≤ q
  · obtain ⟨ad, e', rfl, hws, hcell⟩ := bw_cell hW.2.2.2.2.2 h4 hS hv
    rcases (show kd = 0 ∨ kd = 1 ∨ kd = 2 by omega) with rfl | rfl | rfl
    · obtain ⟨cA, t0, g, ht, rfl, hle, -⟩ := (bw_c_0 tys rv n' rs (M q) e').mp hcell
      exact ⟨_, (bw_pI (y := nI n') (nI_toInt (by omega)) hs1), fun k => va_alen hx hb hW.1 hW.2.1 (q - 4) t0 hws ht rfl hd k⟩
    · obtain ⟨cA, t0, g, ht, rfl, hle, -⟩ := (bw_c_1 tys rv n' rs (M q) e').mp hcell
      exact ⟨_, (bw_pI (y := nI n') (nI_toInt (by omega)) hs1), fun k => va_alen hx hb hW.1 hW.2.1 (q - 4) t0 hws ht rfl hd k⟩
    · obtain ⟨cA, t0, g, ht, rfl, hle, -⟩ := (bw_c_2 tys rv n' rs (M q) e').mp hcell
      exact ⟨_, (bw_pI (y := nI n') (nI_toInt (by omega)) hs1), fun k => va_alen hx hb hW.1 hW.2.1 (q - 4) t0 hws ht rfl hd k⟩
  · have hou := hW.2.2.2.2.1
    rcases bw_ouk hou h4 hS with ⟨rfl, -⟩ | ⟨-, h, -⟩ | ⟨rfl, -, rfl⟩ | ⟨h, -⟩
    · obtain ⟨b', N, b1, b2, xs, ys, fv, o1, -⟩ := hou
      have e1 := Option.some.inj (hv.symm.trans o1.1)
      subst e1
      have e2 := Option.some.inj (hS.symm.trans o1.2.1)
      cases e2
      have := o1.2.2.1
      exact ⟨_, (bw_pI (y := nI n') (nI_toInt (by omega)) hs1), fun k => va_tlen hx hb o1.2.2.2.1 hW.2.2.2.1 rfl hd k⟩
    · omega
    · obtain ⟨b', N, b1, b2, xs, ys, fv, o1, o2, o3, -⟩ := hou
      have e1 := Option.some.inj (hv.symm.trans o3.1)
      subst e1
      exact ⟨_, (bw_pI (y := nI 41) (by decide) hs1), fun k => va_tlen hx hb o3.2.2.1 hW.2.2.2.1 rfl hd k⟩
    · exact absurd h h3
theorem bw_31 {m i : Nat} {hh : List Nat} {a b : Nat} {n : Int} {l' : List Nat} {L : Lcl} {st : List AV} {S : Shp} {M : Mem} {x : Int} (hk : bi_ok m i hh (31, a, b, n, l') = true) : bw_S m i (if x < n ∨ n + l'.length ≤ x then a else l'.getD (x - n).toNat 0) L (.inl x :: st) st S M := by
  intro p l e R s mid args below meth c H locs cells slots Q D tys A rv ws ls lvs stc hF hW hl hL hs hc hz hfr hlo
  obtain ⟨hx, hb, -⟩ := hF
  obtain ⟨vx, t, rfl, ⟨y, rfl, rfl⟩, hs1⟩ := bw_cons hs
  simp only [bi_ok] at hk
  split at hk
  · rename_i d lo hi offs len hdec
    simp only [Bool.and_eq_true, decide_eq_true_eq, bi_tabs] at hk
    obtain ⟨⟨⟨rfl, rfl⟩, rfl⟩, hoffs⟩ := hk
    refine ⟨t, hs1, fun k => ?_⟩
    by_cases hx2 : y.toInt < lo ∨ lo + l'.length ≤ y.toInt
    · rw [if_pos hx2] at k
      exact lv_tableOut (tgt := bi_pc m a) hx hb hdec (by omega) (bi_off_ok m i a) k
    · rw [if_neg hx2] at k
      have hlt : (y.toInt - lo).toNat < l'.length := by omega
      refine lv_tableIn (tgt := bi_pc m (l'.getD (y.toInt - lo).toNat 0)) (off := bi_off m i (l'.getD (y.toInt - lo).toNat 0)) hx hb hdec (by omega) (by omega) ?_ (bi_off_ok m i _) k
      rw [← Array.getElem?_toList, ← hoffs, List.getElem?_map, List.getElem?_eq_getElem hlt, List.getD_eq_getElem?_getD, List.getElem?_eq_getElem hlt]
      rfl
  · cases hk
theorem bw_37 {m i : Nat} {hh : List Nat} {a b : Nat} {n : Int} {l' : List Nat} {L : Lcl} {st : List AV} {S : Shp} {M : Mem} {q : Nat} (hk : bi_ok m i hh (37, a, b, n, l') = true) (hq : ∃ r, L = L ∧ r = q) (hr : ¬ (q = 0 ∨ q = 4)) (hct : bi_cats st ≤ 8) : bw_S m i (i + 1) L (.inr (.inr q) :: st) st S M := by
  intro p l e R s mid args below meth c H locs cells slots Q D tys A rv ws ls lvs stc hF hW hl hL hs hc hz hfr hlo
  obtain ⟨hx, hb, hml, -, ho, hts, -⟩ := hF
  obtain ⟨v, t, rfl, hv, hs1⟩ := bw_cons hs
  obtain ⟨ad, rfl⟩ := bw_ref hW hr hv
  simp only [bi_ok, Bool.and_eq_true, bi_mis, decide_eq_true_eq] at hk
  obtain ⟨⟨⟨⟨h1, h2⟩, h3⟩, h4, h5⟩, hd⟩ := hk
  obtain ⟨hd, hn⟩ := bi_dn_ok hd
  rw [hn]
  have hcs := bw_cats hW.2.2.2.2.2 _ _ hs1
  exact ⟨t, hs1, fun k => W.objInit hx hb ho (hts _ (bi_w_ok h1)) (hts _ (bi_w_ok h2)) (hts _ (bi_w_ok h3)) rfl (by rw [hml]; exact hl.1) rfl hd (by omega) (by show 2 * 0 + _ + 12 ≤ _; omega) k⟩
theorem bw_38 {m i : Nat} {hh : List Nat} {a b : Nat} {n : Int} {l' : List Nat} {L : Lcl} {st : List AV} {S : Shp} {M : Mem} {st' : List AV} (hk : bi_ok m i hh (38, a, b, n, l') = true) (hm : bi_math a st = some st') (hct : bi_cats st' ≤ 8) : bw_S m i (i + 1) L st st' S M := by
  intro p l e R s mid args below meth c H locs cells slots Q D tys A rv ws ls lvs stc hF hW hl hL hs hc hz hfr hlo
  obtain ⟨hx, hb, hml, -, ho, hts, -⟩ := hF
  simp only [bi_ok, Bool.and_eq_true, bi_mis, decide_eq_true_eq] at hk
  obtain ⟨⟨⟨hA, h2⟩, h4, h5⟩, hd⟩ := hk
  obtain ⟨hd, hn⟩ := bi_dn_ok hd
  rw [hn]
  have hlt : ∀ u v : Int32, u < v ↔ u.toInt < v.toInt := fun u v => Int32.lt_iff_toInt_lt
  have hle : ∀ u v : Int32, u ≤ v ↔ u.toInt ≤ v.toInt := fun u v => Int32.le_iff_toInt_le
  unfold bi_math at hm
  split at hm
  · cases hm
    obtain ⟨vy, t1, rfl, ⟨y', rfl, rfl⟩, hs1⟩ := bw_cons hs
    obtain ⟨vx, t2, rfl, ⟨x', rfl, rfl⟩, hs2⟩ := bw_cons hs1
    simp only [Bool.and_eq_true] at hA
    have hcs := bw_cats hW.2.2.2.2.2 _ _ hs2
    simp only [bi_cats, List.map_cons, List.sum_cons] at hct hcs
    refine ⟨_, (bw_pI (y := if x' < y' then y' else x') ?_ hs2), fun k => va_mmax hx hb (by rw [hml]; exact hl.1.symm) ho (hts _ (bi_w_ok hA.1.1)) (hts _ (bi_w_ok hA.1.2)) (hts _ (bi_w_ok h2)) (hts _ (bi_w_ok hA.2)) (by omega) (by omega) hc hz hd k⟩
    by_cases h : x' < y'
    · rw [if_pos h, if_pos ((hlt _ _).mp h)]
    · rw [if_neg h, if_neg (fun z => h ((hlt _ _).mpr z))]
  · cases hm
    obtain ⟨vy, t1, rfl, ⟨y', rfl, rfl⟩, hs1⟩ := bw_cons hs
    obtain ⟨vx, t2, rfl, ⟨x', rfl, rfl⟩, hs2⟩ := bw_cons hs1
    simp only [Bool.and_eq_true] at hA
    have hcs := bw_cats hW.2.2.2.2.2 _ _ hs2
    simp only [bi_cats, List.map_cons, List.sum_cons] at hct hcs
    refine ⟨_, (bw_pI (y := if y' < x' then y' else x') ?_ hs2), fun k => va_mmin hx hb (by rw [hml]; exact hl.1.symm) ho (hts _ (bi_w_ok hA.1.1)) (hts _ (bi_w_ok hA.1.2)) (hts _ (bi_w_ok h2)) (hts _ (bi_w_ok hA.2)) (by omega) (by omega) hc hz hd k⟩
    by_cases h : y' < x'
    · rw [if_pos h, if_pos ((hlt _ _).mp h)]
    · rw [if_neg h, if_neg (fun z => h ((hlt _ _).mpr z))]
  · obtain ⟨vx, t2, rfl, ⟨x', rfl, rfl⟩, hs1⟩ := bw_cons hs
    simp only [Bool.and_eq_true] at hA
    have hcs := bw_cats hW.2.2.2.2.2 _ _ hs1
    have h00 : (0 : Int32).toInt = 0 := by decide
    by_cases h : 0 ≤ x'.toInt
    · rw [if_pos h] at hm
      cases hm
      simp only [bi_cats, List.map_cons, List.sum_cons] at hct hcs
      exact ⟨_, (bw_pI (y := if 0 ≤ x' then x' else 0 - x') (by rw [if_pos ((hle _ _).mpr (by rw [h00]; exact h))]) hs1), fun k => va_mabs hx hb (by rw [hml]; exact hl.1.symm) ho (hts _ (bi_w_ok hA.1.1)) (hts _ (bi_w_ok hA.1.2)) (hts _ (bi_w_ok h2)) (hts _ (bi_w_ok hA.2)) (by omega) (by omega) hc hz hd k⟩
    · rw [if_neg h] at hm
      obtain ⟨h9, hm⟩ := bi_ite hm
      cases hm
      simp only [bi_cats, List.map_cons, List.sum_cons] at hct hcs
      exact ⟨_, (bw_pI (y := if 0 ≤ x' then x' else 0 - x') (by rw [if_neg (fun z => h (by have := (hle _ _).mp z; rw [h00] at this; exact this)), nu_sub (by rw [h00]; simpa using h9), h00]; omega) hs1), fun k => va_mabs hx hb (by rw [hml]; exact hl.1.symm) ho (hts _ (bi_w_ok hA.1.1)) (hts _ (bi_w_ok hA.1.2)) (hts _ (bi_w_ok h2)) (hts _ (bi_w_ok hA.2)) (by omega) (by omega) hc hz hd k⟩
  · cases hm
theorem bw_40 {m i : Nat} {hh : List Nat} {a b : Nat} {n : Int} {l' : List Nat} {L : Lcl} {st : List AV} {S : Shp} {M : Mem} (hk : bi_ok m i hh (40, a, b, n, l') = true) : bw_S m i (i + 1) L st (.inr (.inr 2) :: st) S M := by
  intro p l e R s mid args below meth c H locs cells slots Q D tys A rv ws ls lvs stc hF hW hl hL hs hc hz hfr hlo
  obtain ⟨hx, hb, hml, -, ho, hts, -⟩ := hF
  simp only [bi_ok, Bool.and_eq_true, decide_eq_true_eq] at hk
  obtain ⟨hd, hn⟩ := bi_dn_ok hk.2
  rw [hn]
  obtain ⟨b', N, b1, b2, xs, ys, fv, o1, o2, o3, o4, o5⟩ := hW.2.2.2.2.1
  exact ⟨.ref b1 :: stc, (bw_pR (o2.1) hs), fun k => va_ldcS hx hb (by rw [← hk.1]; exact ho) o5 hd k⟩
theorem bw_41 {m i : Nat} {hh : List Nat} {a b : Nat} {n : Int} {l' : List Nat} {L : Lcl} {st : List AV} {S : Shp} {M : Mem} (hk : bi_ok m i hh (41, a, b, n, l') = true) : bw_S m i (i + 1) L st ((if a = 0 then .inl 1 else .inr (.inr 4)) :: st) S M := by
  intro p l e R s mid args below meth c H locs cells slots Q D tys A rv ws ls lvs stc hF hW hl hL hs hc hz hfr hlo
  obtain ⟨hx, hb, hml, -, ho, hts, -⟩ := hF
  obtain ⟨b', N, b1, b2, xs, ys, fv, o1, o2, o3, o4, o5⟩ := hW.2.2.2.2.1
  match a, hk with
  | 0, hk =>
    simp only [bi_ok, Bool.and_eq_true] at hk
    obtain ⟨hd, hn⟩ := bi_dn_ok hk.2
    rw [hn]
    exact ⟨.int 1 :: stc, (bw_pI (y := 1) (by decide) hs), fun k => va_gets hx hb o4.2.2.2 hW.2.2.2.1 ho (hts _ (bi_w_ok hk.1)) (fun _ h => h) hd k⟩
  | a + 1, hk =>
    simp only [bi_ok, Bool.and_eq_true] at hk
    obtain ⟨hd, hn⟩ := bi_dn_ok hk.2
    rw [hn]
    exact ⟨fv :: stc, (bw_pR (o4.1) hs), fun k => va_gets hx hb o4.2.2.1 hW.2.2.2.1 ho (hts _ (bi_w_ok hk.1)) (fun _ h => h) hd k⟩
