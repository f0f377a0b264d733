/-! ARRAY WRITES, NEW CELLS -/
theorem bw_19 {m i : Nat} {hh : List Nat} {a b : Nat} {n : Int} {l' : List Nat} {L : Lcl} {st : List AV} {S : Shp} {M : Mem} {res : Res} {q n' : Nat} {rs : List Nat} {j v : Int} (hk : bi_ok m i hh (19, a, b, n, l') = true) (hS : S[q]? = some (0, n', rs)) (h0 : 0 ≤ j) (h1 : j < n') (h4 : 4 ≤ q) (K : bw_J m (i + 1) L st S (up2 M q j.toNat v) res) : bw_J m i L (.inl v :: .inl j :: .inr (.inr (q + 1)) :: st) S M res := by
  intro p l e R s mid args below meth c H locs cells slots Q D tys A rv0 rv ws ls lvs stc b0 z0 hF hW hp hl hLl hL hs hc hz hRc hRz hfr hlo hRO
  obtain ⟨hx, hb, -⟩ := id hF
  obtain ⟨vx, t1, rfl, ⟨x, rfl, rfl⟩, hs1⟩ := bw_cons hs
  obtain ⟨vj, t2, rfl, ⟨y, rfl, rfl⟩, hs2⟩ := bw_cons hs1
  obtain ⟨vr, t, rfl, hv, hs3⟩ := bw_cons hs2
  simp only [bi_ok] at hk
  obtain ⟨hd, hn⟩ := bi_dn_ok hk
  obtain ⟨ad, e', rfl, hws, hcell⟩ := bw_cell hW.2.2.2.2.2 h4 hS hv
  obtain ⟨cA, t0, g, ht, rfl, hle, hg⟩ := (bw_c_0 tys rv n' rs (M q) e').mp hcell
  refine va_iast hx hb hW.1 hW.2.1 hW.2.2.1 hW.2.2.2.1 (q - 4) t0 hws ht (nu_vin h0 h1) hd (fun H1 locs1 hP1 hD1 hS1 => ?_)
  rw [← hn]
  refine K p l e R s mid args below meth c H1 locs1 cells slots Q D tys A rv0 rv _ ls lvs t b0 z0 hF ⟨hW.1, hP1, hD1, hS1, bw_ou_M hW.2.2.2.2.1 (fun _ _ => rfl) (fun k hk => up2_ne M q _ _ k (by omega)), bw_k_set hW.2.2.2.2.2 h4 hws rfl hS (fun _ _ => rfl) (up2_ne M q _ _) ?_⟩ hp hl hLl hL hs3 hc hz hRc hRz hfr hlo hRO
  refine (bw_c_0 tys rv n' rs _ _).mpr ⟨cA, t0, _, ht, rfl, hle, fun k hk => ?_⟩
  rw [up2_at, nu_cl]
  by_cases h : k = y.toInt.toNat
  · rw [if_pos h, h, pk_us]
  · rw [if_neg h, pk_un h]; exact hg k hk
theorem bw_21 {m i : Nat} {hh : List Nat} {a b : Nat} {n : Int} {l' : List Nat} {L : Lcl} {st : List AV} {S : Shp} {M : Mem} {res : Res} {q n' : Nat} {rs : List Nat} {j v : Int} (hk : bi_ok m i hh (21, a, b, n, l') = true) (hS : S[q]? = some (1, n', rs)) (h0 : 0 ≤ j) (h1 : j < n') (h4 : 4 ≤ q) (hv1 : -128 ≤ v) (hv2 : v ≤ 127) (K : bw_J m (i + 1) L st S (up2 M q j.toNat v) res) : bw_J m i L (.inl v :: .inl j :: .inr (.inr (q + 1)) :: st) S M res := by
  intro p l e R s mid args below meth c H locs cells slots Q D tys A rv0 rv ws ls lvs stc b0 z0 hF hW hp hl hLl hL hs hc hz hRc hRz hfr hlo hRO
  obtain ⟨hx, hb, -⟩ := id hF
  obtain ⟨vx, t1, rfl, ⟨x, rfl, rfl⟩, hs1⟩ := bw_cons hs
  obtain ⟨vj, t2, rfl, ⟨y, rfl, rfl⟩, hs2⟩ := bw_cons hs1
  obtain ⟨vr, t, rfl, hv, hs3⟩ := bw_cons hs2
  simp only [bi_ok] at hk
  obtain ⟨hd, hn⟩ := bi_dn_ok hk
  obtain ⟨ad, e', rfl, hws, hcell⟩ := bw_cell hW.2.2.2.2.2 h4 hS hv
  obtain ⟨cA, t0, g, ht, rfl, hle, hg⟩ := (bw_c_1 tys rv n' rs (M q) e').mp hcell
  refine va_bast hx hb hW.1 hW.2.1 hW.2.2.1 hW.2.2.2.1 (q - 4) t0 hws ht (nu_vin h0 h1) hd (fun H1 locs1 hP1 hD1 hS1 => ?_)
  rw [← hn]
  refine K p l e R s mid args below meth c H1 locs1 cells slots Q D tys A rv0 rv _ ls lvs t b0 z0 hF ⟨hW.1, hP1, hD1, hS1, bw_ou_M hW.2.2.2.2.1 (fun _ _ => rfl) (fun k hk => up2_ne M q _ _ k (by omega)), bw_k_set hW.2.2.2.2.2 h4 hws rfl hS (fun _ _ => rfl) (up2_ne M q _ _) ?_⟩ hp hl hLl hL hs3 hc hz hRc hRz hfr hlo hRO
  refine (bw_c_1 tys rv n' rs _ _).mpr ⟨cA, t0, _, ht, rfl, hle, fun k hk => ?_⟩
  rw [up2_at, nu_cl, vp_nar_byte, nu_b8 hv1 hv2]
  by_cases h : k = y.toInt.toNat
  · rw [if_pos h, h, pk_us]
  · rw [if_neg h, pk_un h]; exact hg k hk
theorem bw_23 {m i : Nat} {hh : List Nat} {a b : Nat} {n : Int} {l' : List Nat} {L : Lcl} {st : List AV} {S : Shp} {M : Mem} {res : Res} {q n' w n2 : Nat} {rs rs2 : List Nat} {j : Int} (hk : bi_ok m i hh (23, a, b, n, l') = true) (hS : S[q]? = some (2, n', rs)) (hS2 : S[w]? = some (10, n2, rs2)) (h0 : 0 ≤ j) (h1 : j < n') (h4 : 4 ≤ q) (hw4 : 4 ≤ w) (K : bw_J m (i + 1) L st S (up2 M q j.toNat ((w + 1 : Nat) : Int)) res) : bw_J m i L (.inr (.inr (w + 1)) :: .inl j :: .inr (.inr (q + 1)) :: st) S M res := by
  intro p l e R s mid args below meth c H locs cells slots Q D tys A rv0 rv ws ls lvs stc b0 z0 hF hW hp hl hLl hL hs hc hz hRc hRz hfr hlo hRO
  obtain ⟨hx, hb, -⟩ := id hF
  obtain ⟨vx, t1, rfl, hvw, hs1⟩ := bw_cons hs
  obtain ⟨vj, t2, rfl, ⟨y, rfl, rfl⟩, hs2⟩ := bw_cons hs1
  obtain ⟨vr, t, rfl, hv, hs3⟩ := bw_cons hs2
  simp only [bi_ok] at hk
  obtain ⟨hd, hn⟩ := bi_dn_ok hk
  obtain ⟨ad, e', rfl, hws, hcell⟩ := bw_cell hW.2.2.2.2.2 h4 hS hv
  obtain ⟨cA, t0, g, ht, rfl, hle, hg⟩ := (bw_c_2 tys rv n' rs (M q) e').mp hcell
  obtain ⟨ad2, e2, rfl, hws2, hcell2⟩ := bw_cell hW.2.2.2.2.2 hw4 hS2 hvw
  obtain ⟨fs, rfl, -⟩ := (bw_c_3 tys rv 7 n2 rs2 (M w) e2).mp hcell2
  refine va_astq (r := (RX7, TX7, 15)) hx hb hW.1 hW.2.1 hW.2.2.1 hW.2.2.2.1 (q - 4) t0 (w - 4) 7 hws ht hws2 rfl (nu_vin h0 h1) hd (fun H1 locs1 hP1 hD1 hS1 => ?_)
  rw [← hn]
  refine K p l e R s mid args below meth c H1 locs1 cells slots Q D tys A rv0 rv _ ls lvs t b0 z0 hF ⟨hW.1, hP1, hD1, hS1, bw_ou_M hW.2.2.2.2.1 (fun _ _ => rfl) (fun k hk => up2_ne M q _ _ k (by omega)), bw_k_set hW.2.2.2.2.2 h4 hws rfl hS (fun _ _ => rfl) (up2_ne M q _ _) ?_⟩ hp hl hLl hL hs3 hc hz hRc hRz hfr hlo hRO
  refine (bw_c_2 tys rv n' rs _ _).mpr ⟨cA, t0, _, ht, rfl, hle, fun k hk => ?_⟩
  rw [up2_at, nu_cl]
  unfold va_up
  by_cases h : k = y.toInt.toNat
  · rw [if_pos h, if_pos h]; exact hvw
  · rw [if_neg h, if_neg h]; exact hg k hk
theorem bi_cpy_ne (M : Mem) (a sp b dp n : Nat) : ∀ k, k ≠ b → bi_cpy M a sp b dp n k = M k := fun k hk => by
  funext j
  unfold bi_cpy
  rw [if_neg (fun h => hk h.1)]
theorem bw_39 {m i : Nat} {hh : List Nat} {a b : Nat} {n : Int} {l' : List Nat} {L : Lcl} {st : List AV} {S : Shp} {M : Mem} {res : Res} {qa qb na nb : Nat} {ra rb : List Nat} {k0 dp sp : Int} (hk : bi_ok m i hh (39, a, b, n, l') = true) (hSa : S[qa]? = some (0, na, ra)) (hSb : S[qb]? = some (0, nb, rb)) (h1 : 0 ≤ k0 ∧ 0 ≤ dp ∧ 0 ≤ sp ∧ sp + k0 ≤ na ∧ dp + k0 ≤ nb ∧ 4 ≤ qa ∧ 4 ≤ qb ∧ bi_cats st ≤ 8) (K : bw_J m (i + 1) L st S (bi_cpy M qa sp.toNat qb dp.toNat k0.toNat) res) : bw_J m i L (.inl k0 :: .inl dp :: .inr (.inr (qb + 1)) :: .inl sp :: .inr (.inr (qa + 1)) :: st) S M res := by
  intro p l e R s mid args below meth c H locs cells slots Q D tys A rv0 rv ws ls lvs stc b0 z0 hF hW hp hl hLl hL hs hc hz hRc hRz hfr hlo hRO
  obtain ⟨hx, hb, hml, -, ho, hts, -⟩ := id hF
  obtain ⟨v1, t1, rfl, ⟨x, rfl, rfl⟩, hs1⟩ := bw_cons hs
  obtain ⟨v2, t2, rfl, ⟨y, rfl, rfl⟩, hs2⟩ := bw_cons hs1
  obtain ⟨v3, t3, rfl, hvb, hs3⟩ := bw_cons hs2
  obtain ⟨v4, t4, rfl, ⟨z, rfl, rfl⟩, hs4⟩ := bw_cons hs3
  obtain ⟨v5, t, rfl, hva, hs5⟩ := bw_cons hs4
  obtain ⟨g1, g2, g3, g4, g5, g6, g7, g8⟩ := h1
  simp only [bi_ok, Bool.and_eq_true, bi_mis, decide_eq_true_eq] at hk
  obtain ⟨⟨⟨⟨⟨w1, w2⟩, w3⟩, w4⟩, r1, r2⟩, hd⟩ := hk
  obtain ⟨hd, hn⟩ := bi_dn_ok hd
  obtain ⟨ada, ea, rfl, hwsa, hca⟩ := bw_cell hW.2.2.2.2.2 g6 hSa hva
  obtain ⟨cA, ta, ga, hta, rfl, hlea, hga⟩ := (bw_c_0 tys rv na ra (M qa) ea).mp hca
  obtain ⟨adb, eb, rfl, hwsb, hcb⟩ := bw_cell hW.2.2.2.2.2 g7 hSb hvb
  obtain ⟨cB, tb, gb, htb, rfl, hleb, hgb⟩ := (bw_c_0 tys rv nb rb (M qb) eb).mp hcb
  have hcs := bw_cats hW.2.2.2.2.2 _ _ hs5
  have hlt : ∀ u : Int32, 0 ≤ u.toInt → ¬ u < 0 := fun u hu q => by have := Int32.lt_iff_toInt_lt.mp q; simp at this; omega
  have hnf : nativeFrameWords "java/lang/System" "arraycopy" 5 = 7 := by decide
  refine va_copyi hx hb (by rw [hml]; exact hl.1.symm) ho (hts _ (bi_w_ok w1)) (hts _ (bi_w_ok w2)) (hts _ (bi_w_ok w3)) (hts _ (bi_w_ok w4)) hW.1 hW.2.1 hW.2.2.1 hW.2.2.2.1 (qa - 4) (qb - 4) ta tb hwsa hwsb hta htb rfl (hlt _ g3) (hlt _ g2) (hlt _ g1) (by rw [nu_cl, nu_cl]; omega) (by rw [nu_cl, nu_cl]; omega) (fun _ _ => rfl) (by omega) (by rw [hcs, hnf]; omega) hd (fun H1 locs1 hP1 hD1 hS1 => ?_)
  rw [← hn]
  refine K p l e R s mid args below meth c H1 locs1 cells slots Q D tys A rv0 rv _ ls lvs t b0 z0 hF ⟨hW.1, hP1, hD1, hS1, bw_ou_M hW.2.2.2.2.1 (fun _ _ => rfl) (fun k hk => bi_cpy_ne M qa _ qb _ _ k (by omega)), bw_k_set hW.2.2.2.2.2 g7 hwsb rfl hSb (fun _ _ => rfl) (bi_cpy_ne M qa _ qb _ _) ?_⟩ hp hl hLl hL hs5 hc hz hRc hRz hfr hlo hRO
  refine (bw_c_0 tys rv nb rb _ _).mpr ⟨cB, tb, _, htb, rfl, hleb, fun k hk => ?_⟩
  rw [nu_cl, nu_cl, nu_cl]
  unfold va_cpy bi_cpy
  by_cases h : y.toInt.toNat ≤ k ∧ k < y.toInt.toNat + x.toInt.toNat
  · rw [if_pos h, if_pos ⟨rfl, h⟩]; exact hga _ (by omega)
  · rw [if_neg h, if_neg (fun z => h z.2)]; exact hgb k hk
theorem bw_c_mono {tys tys' : List (ClassId × FieldType)} {rv rv' : List Value} {sh : Nat × Nat × List Nat} {f : Nat → Int} {e : va_E} (ht : ∀ (k : Nat) (x : ClassId × FieldType), tys[k]? = some x → tys'[k]? = some x) (hr : rv <+: rv') (h : bw_c tys rv sh f e) : bw_c tys' rv' sh f e := by
  match sh, h with
  | (0, n, rs), h =>
    obtain ⟨cA, t0, g, h1, h2⟩ := (bw_c_0 _ _ _ rs _ _).mp h
    exact (bw_c_0 _ _ _ rs _ _).mpr ⟨cA, t0, g, ht _ _ h1, h2⟩
  | (1, n, rs), h =>
    obtain ⟨cA, t0, g, h1, h2⟩ := (bw_c_1 _ _ _ rs _ _).mp h
    exact (bw_c_1 _ _ _ rs _ _).mpr ⟨cA, t0, g, ht _ _ h1, h2⟩
  | (2, n, rs), h =>
    obtain ⟨cA, t0, g, h1, h2, h3, h4⟩ := (bw_c_2 _ _ _ rs _ _).mp h
    exact (bw_c_2 _ _ _ rs _ _).mpr ⟨cA, t0, g, ht _ _ h1, h2, h3, fun j hj => bw_pre hr (h4 j hj)⟩
  | (k + 3, n, rs), h =>
    obtain ⟨fs, h1, h2, h3, h4, h5, h6⟩ := (bw_c_3 _ _ _ _ _ _ _).mp h
    refine (bw_c_3 _ _ _ _ _ _ _).mpr ⟨fs, h1, h2, h3, h4, h5, fun j hj => ?_⟩
    obtain ⟨v, hv, hv2⟩ := h6 j hj
    refine ⟨v, hv, ?_⟩
    by_cases hI : bi_isI k j = true
    · rw [if_pos hI] at hv2 ⊢; exact hv2
    · rw [if_neg hI] at hv2 ⊢; exact bw_pre hr hv2
theorem bw_k_push {tys tys' : List (ClassId × FieldType)} {rv : List Value} {ws : va_W} {S : Shp} {M M' : Mem} (hk : bw_k tys rv ws S M) (ht : ∀ (k : Nat) (x : ClassId × FieldType), tys[k]? = some x → tys'[k]? = some x) {ad : Nat} {e : va_E} {sh : Nat × Nat × List Nat} (hM : ∀ k, k < S.length → M' k = M k) (hc : bw_c tys' (rv ++ [.ref ad]) sh (M' S.length) e) : bw_k tys' (rv ++ [.ref ad]) (ws ++ [(ad, e)]) (S ++ [sh]) M' := by
  obtain ⟨k1, k2, k3, k4, k5, k6⟩ := hk
  have hpre : rv <+: rv ++ [Value.ref ad] := List.prefix_append _ _
  refine ⟨by simp; exact k1, by simp; omega, fun c v h => ?_, bw_pre hpre k4, fun k a e' h => ?_, fun k a e' sh' h hsh => ?_⟩
  · rw [List.getElem?_append] at h
    split at h
    · exact k3 c v h
    · rw [List.getElem?_singleton] at h
      split at h
      · cases h; exact Or.inr ⟨_, rfl⟩
      · cases h
  · rw [List.getElem?_append] at h
    split at h
    · exact bw_pre hpre (k5 k a e' h)
    · rw [List.getElem?_singleton] at h
      split at h
      · rename_i h1 h2
        cases h
        rw [List.getElem?_append_right (by omega), show k + 5 - rv.length = 0 by omega]
        rfl
      · cases h
  · rw [List.getElem?_append] at h
    split at h
    · rename_i hkw
      rw [List.getElem?_append_left (by omega)] at hsh
      rw [hM _ (by omega)]
      exact bw_c_mono ht hpre (k6 k a e' sh' h hsh)
    · rw [List.getElem?_singleton] at h
      split at h
      · rename_i h1 h2
        cases h
        have hkk : k + 4 = S.length := by omega
        rw [hkk] at hsh ⊢
        rw [List.getElem?_append_right (Nat.le_refl _), Nat.sub_self] at hsh
        cases hsh
        exact hc
      · cases h
theorem bw_ou_push {A : Nat → Prop} {U : State} {H : Heap} {rv : List Value} {S : Shp} {M M' : Mem} (h : bw_ou A U H rv S M) (h4 : 4 ≤ S.length) {v : Value} {sh : Nat × Nat × List Nat} (hM : ∀ k, k < S.length → M' k = M k) : bw_ou A U H (rv ++ [v]) (S ++ [sh]) M' := by
  have hpre : rv <+: rv ++ [v] := List.prefix_append _ _
  obtain ⟨b, N, b1, b2, xs, ys, fv, ⟨a1, a2⟩, ⟨c1, c2⟩, ⟨d1, d2⟩, ⟨e1, e2⟩, f⟩ := bw_ou_M (S' := S ++ [sh]) (M' := M') h (fun k hk => List.getElem?_append_left (by omega)) (fun k hk => hM k (by omega))
  exact ⟨b, N, b1, b2, xs, ys, fv, ⟨bw_pre hpre a1, a2⟩, ⟨bw_pre hpre c1, c2⟩, ⟨bw_pre hpre d1, d2⟩, ⟨bw_pre hpre e1, e2⟩, f⟩
theorem bw_z_app (S : Shp) (x : Nat × Nat × List Nat) : bw_z (S ++ [x]) = bw_z S + x.2.1 := by
  unfold bw_z
  simp
theorem bw_df : ∀ a, a < 10 → ∀ j, j < (bi_cls a).2.2 → defaultValue (bw_ty a j) = (if bi_isI a j = true then .int 0 else .null) := by decide +kernel
theorem bw_25 {m i : Nat} {hh : List Nat} {a b : Nat} {n : Int} {l' : List Nat} {L : Lcl} {st : List AV} {S : Shp} {M : Mem} {res : Res} (hk : bi_ok m i hh (25, a, b, n, l') = true) (hm : (S ++ [(a + 3, b, List.replicate b 0)]).length ≤ res.1.length ∧ bw_z (S ++ [(a + 3, b, List.replicate b 0)]) ≤ bw_z res.1) (K : bw_J m (i + 1) L (.inr (.inr (S.length + 1)) :: st) (S ++ [(a + 3, b, List.replicate b 0)]) (fun q j => if q = S.length then 0 else M q j) res) : bw_J m i L st S M res := by
  intro p l e R s mid args below meth c H locs cells slots Q D tys A rv0 rv ws ls lvs stc b0 z0 hF hW hp hl hLl hL hs hc hz hRc hRz hfr hlo hRO
  obtain ⟨hx, hb, -, -, ho, hts, -, -, -, hA⟩ := id hF
  simp only [bi_ok, Bool.and_eq_true, decide_eq_true_eq] at hk
  obtain ⟨⟨⟨⟨⟨w1, w2⟩, w3⟩, rfl⟩, ha⟩, hd⟩ := hk
  obtain ⟨hd, hn⟩ := bi_dn_ok hd
  have hkk := hW.2.2.2.2.2
  have h4 : 4 ≤ S.length := by have := hkk.2.1; omega
  have hl1 := hkk.1
  rw [List.length_append, bw_z_app] at hm
  simp only [List.length_singleton] at hm
  refine va_new (ci := a) (fs := (List.range (bi_cls a).2.2).map (fun j => if bi_isI a j = true then Value.int 0 else .null)) (C := (bi_cls a).1) (T := (bi_cls a).2.1) (N := (bi_cls a).2.2) hx hb hts (bw_uws a ha) (bw_ty a) (bw_ty_ok a ha) ho (hts _ (bi_w_ok w1)) (hts _ (bi_w_ok w2)) (hts _ (bi_w_ok w3)) hW.1 hW.2.1 hW.2.2.1 hW.2.2.2.1 hA (bw_cl a ha) (fun j hj => ?_) (by omega) (by omega) hd (fun q H1 hP1 hD1 hS1 => ?_)
  · rw [bw_df a ha j hj]
    unfold vp_V
    rw [List.getD_eq_getElem?_getD, List.getElem?_map, List.getElem?_range hj]
    rfl
  rw [← hn]
  have hpre : rv <+: rv ++ [Value.ref q] := List.prefix_append _ _
  refine K p l e R s mid args below meth c H1 locs (cells + 1) (slots + (bi_cls a).2.2) Q D tys A rv0 (rv ++ [.ref q]) _ ls lvs _ b0 z0 hF ⟨hW.1, hP1, hD1, hS1, bw_ou_push hW.2.2.2.2.1 h4 (fun k hk => ?_), bw_k_push hkk (fun _ _ h => h) (fun k hk => ?_) ?_⟩ (hp.trans hpre) hl hLl (bw_l_mono hpre hL) (bw_pR ?_ (bw_s_mono hpre _ _ hs)) (by rw [List.length_append]; simp only [List.length_singleton]; omega) (by rw [bw_z_app]; show slots + (bi_cls a).2.2 + z0 = bw_z S + (bi_cls a).2.2; omega) hRc hRz hfr hlo hRO
  · funext j; exact if_neg (by omega)
  · funext j; exact if_neg (by omega)
  · refine (bw_c_3 _ _ _ _ _ _ _).mpr ⟨_, rfl, by simp, rfl, ha, by simp, fun j hj => ?_⟩
    refine ⟨if bi_isI a j = true then .int 0 else .null, by rw [List.getElem?_map, List.getElem?_range hj]; rfl, ?_⟩
    by_cases hI : bi_isI a j = true
    · rw [if_pos hI, if_pos hI]; exact ⟨0, rfl, by rw [if_pos rfl]; decide⟩
    · rw [if_neg hI, if_neg hI, List.getD_eq_getElem?_getD, List.getElem?_replicate, if_pos hj]
      exact bw_pre hpre hkk.2.2.2.1
  · rw [List.getElem?_append_right (by omega), show S.length + 1 - rv.length = 0 by omega]; rfl
theorem bw_26 {m i : Nat} {hh : List Nat} {a b : Nat} {n : Int} {l' : List Nat} {L : Lcl} {st : List AV} {S : Shp} {M : Mem} {res : Res} {k0 : Int} (hk : bi_ok m i hh (26, a, b, n, l') = true) (h1 : 0 ≤ k0 ∧ k0 ≤ 65536 ∧ a < 3) (hm : (S ++ [(a, k0.toNat, ([] : List Nat))]).length ≤ res.1.length ∧ bw_z (S ++ [(a, k0.toNat, ([] : List Nat))]) ≤ bw_z res.1) (K : bw_J m (i + 1) L (.inr (.inr (S.length + 1)) :: st) (S ++ [(a, k0.toNat, [])]) (fun q j => if q = S.length then 0 else M q j) res) : bw_J m i L (.inl k0 :: st) S M res := by
  intro p l e R s mid args below meth c H locs cells slots Q D tys A rv0 rv ws ls lvs stc b0 z0 hF hW hp hl hLl hL hs hc hz hRc hRz hfr hlo hRO
  obtain ⟨hx, hb, -, -, ho, hts, -, -, hcx, hA⟩ := id hF
  obtain ⟨v1, t, rfl, ⟨x, rfl, rfl⟩, hs1⟩ := bw_cons hs
  have hkk := hW.2.2.2.2.2
  have h4 : 4 ≤ S.length := by have := hkk.2.1; omega
  have hl1 := hkk.1
  rw [List.length_append, bw_z_app] at hm
  simp only [List.length_singleton] at hm
  have hm2 : bw_z S + x.toInt.toNat ≤ bw_z res.1 := hm.2
  have hlt : ¬ x < 0 := fun q => by have := Int32.lt_iff_toInt_lt.mp q; simp at this; omega
  have go : ∀ (q : Nat) (H1 : Heap) (tys' : List (ClassId × FieldType)) (e' : va_E), va_K D vwCl tys' s → va_P D vwCl (ws ++ [(q, e')]) H1 → va_D A (ws ++ [(q, e')]) → va_S A s.heap H1 locs → (∀ (k : Nat) (x : ClassId × FieldType), tys[k]? = some x → tys'[k]? = some x) → bw_c tys' (rv ++ [.ref q]) (a, x.toInt.toNat, []) (fun _ => 0) e' → W p l e R s mid args below meth c H1 locs (cells + 1) (slots + x.toInt.toNat) Q (F0 mid (bi_pc m (i + 1)) ls (.ref q :: t)) := by
    intro q H1 tys' e' hK1 hP1 hD1 hS1 hty hcc
    have hpre : rv <+: rv ++ [Value.ref q] := List.prefix_append _ _
    refine K p l e R s mid args below meth c H1 locs (cells + 1) (slots + x.toInt.toNat) Q D tys' A rv0 (rv ++ [.ref q]) _ ls lvs _ b0 z0 hF ⟨hK1, hP1, hD1, hS1, bw_ou_push hW.2.2.2.2.1 h4 (fun k hk => ?_), bw_k_push hkk hty (fun k hk => ?_) ?_⟩ (hp.trans hpre) hl hLl (bw_l_mono hpre hL) (bw_pR ?_ (bw_s_mono hpre _ _ hs1)) (by rw [List.length_append]; simp only [List.length_singleton]; omega) (by rw [bw_z_app]; show slots + x.toInt.toNat + z0 = bw_z S + x.toInt.toNat; omega) hRc hRz hfr hlo hRO
    · funext j; exact if_neg (by omega)
    · funext j; exact if_neg (by omega)
    · have e0 : (fun j : Nat => if S.length = S.length then (0 : Int) else M S.length j) = fun _ => 0 := by funext j; exact if_pos rfl
      show bw_c tys' (rv ++ [.ref q]) (a, x.toInt.toNat, []) (fun j : Nat => if S.length = S.length then (0 : Int) else M S.length j) e'
      rw [e0]; exact hcc
    · rw [List.getElem?_append_right (by omega), show S.length + 1 - rv.length = 0 by omega]; rfl
  have hext : ∀ (y : ClassId × FieldType) (k : Nat) (z : ClassId × FieldType), tys[k]? = some z → (tys ++ [y])[k]? = some z := fun y k z h => by rw [List.getElem?_append_left (List.getElem?_eq_some_iff.mp h).1]; exact h
  have hlast : ∀ y : ClassId × FieldType, (tys ++ [y])[tys.length]? = some y := fun y => by rw [List.getElem?_append_right (Nat.le_refl _), Nat.sub_self]; rfl
  match a, h1, hk, go with
  | 0, h1, hk, go =>
    simp only [bi_ok, Bool.and_eq_true] at hk
    obtain ⟨hd, hn⟩ := bi_dn_ok hk.2
    rw [hn] at go
    refine va_newa (a0 := (x.toInt.toNat, .inl (fun _ => 0))) (N' := x.toInt.toNat) hx hb (hts _ (bi_w_ok hk.1)) rfl hW.1 hW.2.1 hW.2.2.1 hW.2.2.2.1 hA (fun _ => rfl) hlt nu_cl (by show _ * 4 ≤ _; omega) (by omega) (by omega) hd (fun q cA H1 hK1 hP1 hD1 hS1 => ?_)
    exact go q H1 _ _ hK1 hP1 hD1 hS1 (hext _) ((bw_c_0 _ _ _ [] _ _).mpr ⟨cA, tys.length, _, hlast _, rfl, by omega, fun _ _ => by decide⟩)
  | 1, h1, hk, go =>
    simp only [bi_ok, Bool.and_eq_true] at hk
    obtain ⟨hd, hn⟩ := bi_dn_ok hk.2
    rw [hn] at go
    refine va_newa (a0 := (x.toInt.toNat, .inl (fun _ => 0))) (N' := x.toInt.toNat) hx hb (hts _ (bi_w_ok hk.1)) rfl hW.1 hW.2.1 hW.2.2.1 hW.2.2.2.1 hA (fun _ => rfl) hlt nu_cl (by show _ * 1 ≤ _; omega) (by omega) (by omega) hd (fun q cA H1 hK1 hP1 hD1 hS1 => ?_)
    exact go q H1 _ _ hK1 hP1 hD1 hS1 (hext _) ((bw_c_1 _ _ _ [] _ _).mpr ⟨cA, tys.length, _, hlast _, rfl, by omega, fun _ _ => by decide⟩)
  | 2, h1, hk, go =>
    simp only [bi_ok, Bool.and_eq_true] at hk
    obtain ⟨hd, hn⟩ := bi_dn_ok hk.2
    rw [hn] at go
    refine va_newq (N' := x.toInt.toNat) hx hb ho (hts _ (bi_w_ok hk.1)) hcx.2 hW.1 hW.2.1 hW.2.2.1 hW.2.2.2.1 hA hlt nu_cl (by omega) (by omega) (by omega) hd (fun q cA H1 hK1 hP1 hD1 hS1 => ?_)
    exact go q H1 _ _ hK1 hP1 hD1 hS1 (hext _) ((bw_c_2 _ _ _ [] _ _).mpr ⟨cA, tys.length, _, hlast _, rfl, by omega, fun _ _ => bw_pre (List.prefix_append _ _) hkk.2.2.2.1⟩)
  | a + 3, h1, _, _ => exact absurd h1.2.2 (by omega)
theorem bw_33 {m i : Nat} {hh : List Nat} {a b : Nat} {n : Int} {l' : List Nat} {L : Lcl} {st : List AV} {S : Shp} {M : Mem} {res : Res} {x : Int} (hk : bi_ok m i hh (33, a, b, n, l') = true) (hr : bi_retok a x = true) : bw_J m i L [.inl x] S M (S, M, some (.inl x)) := by
  intro p l e R s mid args below meth c H locs cells slots Q D tys A rv0 rv ws ls lvs stc b0 z0 hF hW hp hl hLl hL hs hc hz hRc hRz hfr hlo hRO
  obtain ⟨v1, t, rfl, ⟨y, rfl, rfl⟩, hs1⟩ := bw_cons hs
  rw [bw_nil hs1]
  simp only [bi_ok, Bool.and_eq_true] at hk
  refine hRO H locs cells slots tys rv ws ls _ _ hW hp hc hz ⟨y, rfl, rfl, bi_d_ok hk.1, ?_⟩
  match a, hr, hk.2 with
  | 0, hr, h2 => exact ⟨_, of_decide_eq_true h2, rfl⟩
  | 1, hr, h2 =>
    refine ⟨_, of_decide_eq_true h2, ?_⟩
    rcases of_decide_eq_true hr with h | h
    · rw [show y = 0 from nu_eq.mpr (by rw [h]; decide)]; decide
    · rw [show y = 1 from nu_eq.mpr (by rw [h]; decide)]; decide
  | 2, hr, h2 =>
    have hr := of_decide_eq_true hr
    refine ⟨_, of_decide_eq_true h2, ?_⟩
    obtain ⟨k, hk1, e1, e2⟩ := nu_nat hr.1
    rw [e1]; exact (pk_charN (by omega)).1
  | a + 3, hr, h2 =>
    have hr := of_decide_eq_true hr
    refine ⟨_, of_decide_eq_true h2, ?_⟩
    have := pk_nb y
    rw [nu_b8 hr.1 hr.2] at this
    exact this
theorem bw_34 {m i : Nat} {hh : List Nat} {a b : Nat} {n : Int} {l' : List Nat} {L : Lcl} {st : List AV} {S : Shp} {M : Mem} {res : Res} (hk : bi_ok m i hh (34, a, b, n, l') = true) : bw_J m i L [] S M (S, M, none) := by
  intro p l e R s mid args below meth c H locs cells slots Q D tys A rv0 rv ws ls lvs stc b0 z0 hF hW hp hl hLl hL hs hc hz hRc hRz hfr hlo hRO
  rw [bw_nil hs]
  simp only [bi_ok, Bool.and_eq_true, decide_eq_true_eq] at hk
  exact hRO H locs cells slots tys rv ws ls _ _ hW hp hc hz ⟨rfl, bi_d_ok hk.1, hk.2⟩
theorem bw_35 {m i : Nat} {hh : List Nat} {a b : Nat} {n : Int} {l' : List Nat} {L : Lcl} {st : List AV} {S : Shp} {M : Mem} {res : Res} {q : Nat} (hk : bi_ok m i hh (35, a, b, n, l') = true) : bw_J m i L [.inr (.inr q)] S M (S, M, some (.inr (.inr q))) := by
  intro p l e R s mid args below meth c H locs cells slots Q D tys A rv0 rv ws ls lvs stc b0 z0 hF hW hp hl hLl hL hs hc hz hRc hRz hfr hlo hRO
  obtain ⟨v1, t, rfl, hv, hs1⟩ := bw_cons hs
  rw [bw_nil hs1]
  simp only [bi_ok, Bool.and_eq_true, decide_eq_true_eq] at hk
  exact hRO H locs cells slots tys rv ws ls _ _ hW hp hc hz ⟨v1, rfl, hv, bi_d_ok hk.1, hk.2⟩
