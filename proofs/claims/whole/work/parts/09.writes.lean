/-! INSTRUCTIONS that write: locals, fields, arrays; new cells; ends -/
theorem bw_l_st1 {tys : List (ClassId × FieldType)} {rv : List Value} {ws : va_W} {S : Shp} {M : Mem} (hk : bw_k tys rv ws S M) {L : Lcl} {lvs : List (Nat × Value)} {a : Nat} {v : AV} {c : Value} (hl : bw_l rv L lvs) (hv : bw_v rv v c) : bw_l rv (bi_st1 L a v) ((a, c) :: lvs.filter (fun q => !(q.1 == a) && !(q.1 + 1 == a && q.2.category == 2))) := by
  intro j w hj
  unfold bi_st1 at hj
  by_cases hja : j = a
  · subst hja
    rw [List.getElem?_set] at hj
    split at hj
    · split at hj
      · cases hj; exact ⟨c, List.mem_cons_self, hv⟩
      · cases hj
    · rename_i h; exact absurd rfl h
  · rw [List.getElem?_set_ne (fun q => hja q.symm)] at hj
    have key : L[j]? = some (some w) ∧ ¬ (j + 1 = a ∧ bw_ct w = 2) := by
      unfold bi_clr at hj
      split at hj
      · exact ⟨hj, by omega⟩
      · rename_i k
        split at hj
        · rename_i hL
          by_cases hjk : j = k
          · subst hjk
            rw [List.getElem?_set] at hj
            split at hj
            · split at hj <;> cases hj
            · rename_i h; exact absurd rfl h
          · rw [List.getElem?_set_ne (fun q => hjk q.symm)] at hj
            exact ⟨hj, by omega⟩
        · rename_i hL
          refine ⟨hj, fun ⟨q1, q2⟩ => ?_⟩
          have hjk : j = k := by omega
          subst hjk
          rw [hj] at hL
          match w, hL, q2 with
          | .inl _, _, q2 => cases q2
          | .inr (.inl _), hL, _ => exact hL rfl
          | .inr (.inr _), _, q2 => cases q2
    obtain ⟨d, hd, hdv⟩ := hl j w key.1
    refine ⟨d, List.mem_cons_of_mem _ (List.mem_filter.mpr ⟨hd, ?_⟩), hdv⟩
    have hcat := bw_cat hk hdv
    have h2 := key.2
    simp only [Bool.and_eq_true, Bool.not_eq_true', beq_eq_false_iff_ne, ne_eq, Bool.and_eq_false_iff]
    refine ⟨hja, ?_⟩
    by_cases h3 : j + 1 = a
    · exact Or.inr (fun q => h2 ⟨h3, by rw [← hcat]; exact q⟩)
    · exact Or.inl h3
theorem bw_l_st2 {tys : List (ClassId × FieldType)} {rv : List Value} {ws : va_W} {S : Shp} {M : Mem} (hk : bw_k tys rv ws S M) {L : Lcl} {lvs : List (Nat × Value)} {a : Nat} {v : AV} {c : Value} (hl : bw_l rv L lvs) (hv : bw_v rv v c) : bw_l rv (bi_st2 L a v) ((a, c) :: lvs.filter (fun q => !(q.1 == a) && (!(q.1 == a + 1) && !(q.1 + 1 == a && q.2.category == 2)))) := by
  intro j w hj
  unfold bi_st2 at hj
  by_cases hj1 : j = a + 1
  · subst hj1
    rw [List.getElem?_set] at hj
    split at hj
    · split at hj <;> cases hj
    · rename_i h; exact absurd rfl h
  · rw [List.getElem?_set_ne (fun q => hj1 q.symm)] at hj
    obtain ⟨d, hd, hdv⟩ := bw_l_st1 hk hl hv j w hj
    refine ⟨d, ?_, hdv⟩
    rcases List.mem_cons.mp hd with hd | hd
    · rw [hd]; exact List.mem_cons_self
    · obtain ⟨h1, h2⟩ := List.mem_filter.mp hd
      refine List.mem_cons_of_mem _ (List.mem_filter.mpr ⟨h1, ?_⟩)
      simp only [Bool.and_eq_true, Bool.not_eq_true', beq_eq_false_iff_ne, ne_eq] at h2 ⊢
      exact ⟨h2.1, hj1, h2.2⟩
theorem bi_st1_len (L : Lcl) (a : Nat) (v : AV) : (bi_st1 L a v).length = L.length := by
  unfold bi_st1 bi_clr
  split
  · simp
  · split <;> simp
theorem bi_st2_len (L : Lcl) (a : Nat) (v : AV) : (bi_st2 L a v).length = L.length := by
  unfold bi_st2 bi_clr
  split
  · simp
  · split <;> simp
theorem bw_2 {m i : Nat} {hh : List Nat} {a b : Nat} {n : Int} {l' : List Nat} {L : Lcl} {st : List AV} {S : Shp} {M : Mem} {res : Res} {v : AV} {L' : Lcl} (hk : bi_ok m i hh (2, a, b, n, l') = true) (hst : bi_store L b a v = some L') (K : bw_J m (i + 1) L' st S M res) : bw_J m i L (v :: st) S M res := by
  intro p l e R s mid args below meth c H locs cells slots Q D tys A rv0 rv ws ls lvs stc b0 z0 hF hW hp hl hLl hL hs hc hz hRc hRz hfr hlo hRO
  obtain ⟨hx, hb, -⟩ := id hF
  obtain ⟨vx, t, rfl, hv, hs1⟩ := bw_cons hs
  have hkk := hW.2.2.2.2.2
  unfold bi_store at hst
  split at hst
  · obtain ⟨hlt, rfl⟩ := bi_ite hst
    obtain ⟨y, rfl, hy⟩ := hv
    simp only [bi_ok, Bool.or_eq_true] at hk
    have go : ∀ (ls' : Array Slot), lv_has ls' (bi_mL m) _ → _ := fun ls' h' => K p l e R s mid args below meth c H locs cells slots Q D tys A rv0 rv ws ls' _ t b0 z0 hF hW hp h' (by rw [bi_st1_len]; exact hLl) (bw_l_st1 hkk (a := a) hL (show bw_v rv (.inl _) (.int y) from ⟨y, rfl, hy⟩)) hs1 hc hz hRc hRz hfr hlo hRO
    rcases hk with hd | hd
    · obtain ⟨hd, hn⟩ := bi_dn_ok hd
      rw [hn] at go
      exact lv_istore hx hb hd hl (by omega) rfl go
    · split at hd
      · obtain ⟨hd, hn⟩ := bi_dn_ok hd
        rw [hn] at go
        exact lv_istore_n (i := a) hx hb hd rfl hl (by omega) rfl go
      · cases hd
  · split at hst
    · cases hst
    · rename_i hc0
      obtain ⟨hlt, rfl⟩ := bi_ite hst
      obtain ⟨ad, rfl⟩ := bw_ref hW hc0 hv
      simp only [bi_ok] at hk
      have go : ∀ (ls' : Array Slot), lv_has ls' (bi_mL m) _ → _ := fun ls' h' => K p l e R s mid args below meth c H locs cells slots Q D tys A rv0 rv ws ls' _ t b0 z0 hF hW hp h' (by rw [bi_st1_len]; exact hLl) (bw_l_st1 hkk (a := a) hL hv) hs1 hc hz hRc hRz hfr hlo hRO
      split at hk
      · obtain ⟨hd, hn⟩ := bi_dn_ok hk
        rw [hn] at go
        exact lv_astore_n (i := a) hx hb hd rfl hl (by omega) rfl go
      · cases hk
  · obtain ⟨hlt, rfl⟩ := bi_ite hst
    obtain ⟨y, rfl, hy⟩ := hv
    simp only [bi_ok, Bool.or_eq_true] at hk
    have go : ∀ (ls' : Array Slot), lv_has ls' (bi_mL m) _ → _ := fun ls' h' => K p l e R s mid args below meth c H locs cells slots Q D tys A rv0 rv ws ls' _ t b0 z0 hF hW hp h' (by rw [bi_st2_len]; exact hLl) (bw_l_st2 hkk (a := a) hL (show bw_v rv (.inr (.inl _)) (.long y) from ⟨y, rfl, hy⟩)) hs1 hc hz hRc hRz hfr hlo hRO
    rcases hk with hd | hd
    · obtain ⟨hd, hn⟩ := bi_dn_ok hd
      rw [hn] at go
      exact lv_lstore hx hb hd hl (by omega) rfl go
    · split at hd
      · obtain ⟨hd, hn⟩ := bi_dn_ok hd
        rw [hn] at go
        exact lv_lstore_n (i := a) hx hb hd rfl hl (by omega) rfl go
      · cases hd
  · cases hst
theorem bw_10 {m i : Nat} {hh : List Nat} {a b : Nat} {n : Int} {l' : List Nat} {L : Lcl} {st : List AV} {S : Shp} {M : Mem} {res : Res} {x : Int} (hk : bi_ok m i hh (10, a, b, n, l') = true) (hx0 : L[a]? = some (some (.inl x))) (hr : inR (x + n)) (K : bw_J m (i + 1) (bi_st1 L a (.inl (x + n))) st S M res) : bw_J m i L st S M res := by
  intro p l e R s mid args below meth c H locs cells slots Q D tys A rv0 rv ws ls lvs stc b0 z0 hF hW hp hl hLl hL hs hc hz hRc hRz hfr hlo hRO
  obtain ⟨hx, hb, -⟩ := id hF
  have hkk := hW.2.2.2.2.2
  obtain ⟨d, hd0, y, rfl, rfl⟩ := hL a _ hx0
  obtain ⟨k, hk0⟩ := List.mem_iff_getElem?.mp hd0
  simp only [bi_ok, Bool.and_eq_true, decide_eq_true_eq] at hk
  obtain ⟨hd, hn⟩ := bi_dn_ok hk.1
  have hlt : a < L.length := (List.getElem?_eq_some_iff.mp hx0).1
  have go : ∀ (ls' : Array Slot), lv_has ls' (bi_mL m) _ → _ := fun ls' h' => K p l e R s mid args below meth c H locs cells slots Q D tys A rv0 rv ws ls' _ stc b0 z0 hF hW hp h' (by rw [bi_st1_len]; exact hLl) (bw_l_st1 hkk (a := a) hL (show bw_v rv (.inl _) (.int (y + Int32.ofInt n)) from ⟨_, rfl, by rw [nu_add (by rw [hk.2]; exact hr), hk.2]⟩)) hs hc hz hRc hRz hfr hlo hRO
  rw [hn] at go
  exact lv_iinc hx hb hd hl hk0 rfl (by omega) rfl go
theorem bw_ou_M {A : Nat → Prop} {U : State} {H : Heap} {rv : List Value} {S S' : Shp} {M M' : Mem} (h : bw_ou A U H rv S M) (hS : ∀ k, k < 4 → S'[k]? = S[k]?) (hM : ∀ k, k < 4 → M' k = M k) : bw_ou A U H rv S' M' := by
  obtain ⟨b, N, b1, b2, xs, ys, fv, ⟨a1, a2, a3, a4, a5⟩, ⟨c1, c2, c3, c4⟩, ⟨d1, d2, d3, d4⟩, ⟨e1, e2, e3⟩, f⟩ := h
  refine ⟨b, N, b1, b2, xs, ys, fv, ⟨a1, ?_, a3, a4, ?_⟩, ⟨c1, ?_, ?_, c4⟩, ⟨d1, ?_, d3, ?_⟩, ⟨e1, ?_, e3⟩, f⟩
  · rw [hS 0 (by decide)]; exact a2
  · intro j hj; rw [hM 0 (by decide)]; exact a5 j hj
  · rw [hS 1 (by decide)]; exact c2
  · rw [hM 1 (by decide)]; exact c3
  · rw [hS 2 (by decide)]; exact d2
  · intro j hj; rw [hM 2 (by decide)]; exact d4 j hj
  · rw [hS 3 (by decide)]; exact e2
theorem bw_k_set {tys : List (ClassId × FieldType)} {rv : List Value} {ws : va_W} {S S' : Shp} {M M' : Mem} (hk : bw_k tys rv ws S M) {q ad : Nat} {e0 e : va_E} {sh : Nat × Nat × List Nat} (h4 : 4 ≤ q) (hws : ws[q - 4]? = some (ad, e0)) (hlen : S'.length = S.length) (hSq : S'[q]? = some sh) (hS : ∀ k, k ≠ q → S'[k]? = S[k]?) (hM : ∀ k, k ≠ q → M' k = M k) (hc : bw_c tys rv sh (M' q) e) : bw_k tys rv (ws.set (q - 4) (ad, e)) S' M' := by
  obtain ⟨k1, k2, k3, k4, k5, k6⟩ := hk
  refine ⟨by rw [hlen]; exact k1, by rw [hlen, List.length_set]; exact k2, k3, k4, fun k a e' h => ?_, fun k a e' sh' h hsh => ?_⟩
  · by_cases hkq : k = q - 4
    · subst hkq
      rw [List.getElem?_set_self (List.getElem?_eq_some_iff.mp hws).1] at h
      cases h
      exact k5 _ _ _ hws
    · rw [List.getElem?_set_ne (fun z => hkq z.symm)] at h
      exact k5 _ _ _ h
  · by_cases hkq : k = q - 4
    · subst hkq
      rw [List.getElem?_set_self (List.getElem?_eq_some_iff.mp hws).1] at h
      cases h
      rw [show q - 4 + 4 = q by omega] at hsh ⊢
      rw [hSq] at hsh
      cases hsh
      exact hc
    · rw [List.getElem?_set_ne (fun z => hkq z.symm)] at h
      rw [hS _ (by omega)] at hsh
      rw [hM _ (by omega)]
      exact k6 _ _ _ _ h hsh
theorem up2_ne (M : Mem) (q b : Nat) (v : Int) : ∀ k, k ≠ q → up2 M q b v k = M k := fun k hk => by
  funext j
  unfold up2
  rw [if_neg (fun h => hk h.1)]
theorem up2_at (M : Mem) (q b : Nat) (v : Int) (j : Nat) : up2 M q b v q j = if j = b then v else M q j := by
  unfold up2
  by_cases h : j = b
  · rw [if_pos ⟨rfl, h⟩, if_pos h]
  · rw [if_neg (fun z => h z.2), if_neg h]
theorem bw_ftI : ∀ a, a < 10 → ∀ b, b < (bi_cls a).2.2 → bi_isI a b = true → parseFieldDescriptor (bi_fn a b).2.2.1 = some .int := by decide +kernel
theorem bw_ftR : ∀ a, a < 10 → ∀ b, b < (bi_cls a).2.2 → bi_isI a b = false → (match parseFieldDescriptor (bi_fn a b).2.2.1 with | some (.object _) => true | some (.array _) => true | _ => false) = true := by decide +kernel
theorem bw_nm : ∀ a, a < 10 → ∀ x, x < (bi_cls a).2.2 → ∀ y, y < (bi_cls a).2.2 → x ≠ y → ((bi_cls a).2.1 x).2.1 ≠ ((bi_cls a).2.1 y).2.1 := by decide +kernel
def bw_ty (a : Nat) : Nat → FieldType := fun k => (parseFieldDescriptor ((bi_cls a).2.1 k).2.2.1).getD .int
theorem bw_ty_ok : ∀ a, a < 10 → ∀ k, k < (bi_cls a).2.2 → parseFieldDescriptor ((bi_cls a).2.1 k).2.2.1 = some (bw_ty a k) := by decide +kernel
theorem bw_16 {m i : Nat} {hh : List Nat} {a b : Nat} {n : Int} {l' : List Nat} {L : Lcl} {st : List AV} {S : Shp} {M : Mem} {res : Res} {q kd n' : Nat} {rs : List Nat} {v : Int} (hk : bi_ok m i hh (16, a, b, n, l') = true) (hS : S[q]? = some (kd, n', rs)) (h1 : kd = a + 3 ∧ b < n' ∧ 4 ≤ q) (K : bw_J m (i + 1) L st S (up2 M q b v) res) : bw_J m i L (.inl v :: .inr (.inr (q + 1)) :: st) S M res := by
  intro p l e R s mid args below meth c H locs cells slots Q D tys A rv0 rv ws ls lvs stc b0 z0 hF hW hp hl hLl hL hs hc hz hRc hRz hfr hlo hRO
  obtain ⟨hx, hb, -, -, ho, hts, -⟩ := id hF
  obtain ⟨vx, t1, rfl, ⟨y, rfl, rfl⟩, hs1⟩ := bw_cons hs
  obtain ⟨vr, t, rfl, hv, hs2⟩ := bw_cons hs1
  obtain ⟨rfl, hbn, h4⟩ := h1
  obtain ⟨ad, e', rfl, hws, hcell⟩ := bw_cell hW.2.2.2.2.2 h4 hS hv
  obtain ⟨fs, rfl, hfl, hN, ha, hrs, hfield⟩ := (bw_c_3 tys rv a n' rs (M q) e').mp hcell
  simp only [bi_ok, Bool.and_eq_true, bi_fw, decide_eq_true_eq, Bool.not_eq_true'] at hk
  obtain ⟨⟨⟨⟨⟨hw, hbN⟩, -⟩, hI⟩, hd⟩, hfin⟩ := hk
  obtain ⟨hd, hn⟩ := bi_dn_ok hd
  refine va_put (D := D) (ci := a) (v := .int y) (ty := .int) (C := (bi_cls a).1) (T := (bi_cls a).2.1) (N := (bi_cls a).2.2) hx hb hts (bw_uws a ha) (bw_ty a) (bw_ty_ok a ha) (bw_nm a ha) ho hW.1 hW.2.1 hW.2.2.1 hW.2.2.2.1 (q - 4) hws (bw_cl a ha) b hbN (hts _ (bi_w_ok hw)) (fun _ h => h) hfin (bw_ftI a ha b hbN hI) rfl rfl (by omega) hd (fun H1 locs1 hP1 hD1 hS1 => ?_)
  rw [← hn]
  refine K p l e R s mid args below meth c H1 locs1 cells slots Q D tys A rv0 rv _ ls lvs t b0 z0 hF ⟨hW.1, hP1, hD1, hS1, bw_ou_M hW.2.2.2.2.1 (fun _ _ => rfl) (fun k hk => up2_ne M q b _ k (by omega)), bw_k_set hW.2.2.2.2.2 h4 hws rfl hS (fun _ _ => rfl) (up2_ne M q b _) ?_⟩ hp hl hLl hL hs2 hc hz hRc hRz hfr hlo hRO
  refine (bw_c_3 tys rv a n' rs _ _).mpr ⟨_, rfl, by rw [List.length_set]; exact hfl, hN, ha, hrs, fun j hj => ?_⟩
  by_cases hjb : j = b
  · subst hjb
    exact ⟨.int y, List.getElem?_set_self (by omega), by rw [if_pos hI]; exact ⟨y, rfl, by rw [up2_at, if_pos rfl]⟩⟩
  · obtain ⟨w, hw1, hw2⟩ := hfield j hj
    refine ⟨w, by rw [List.getElem?_set_ne (fun z => hjb z.symm)]; exact hw1, ?_⟩
    rw [up2_at, if_neg hjb]
    exact hw2
theorem bw_z_set {S : Shp} {q kd kd' n' : Nat} {rs rs' : List Nat} (h : S[q]? = some (kd, n', rs)) : bw_z (S.set q (kd', n', rs')) = bw_z S := by
  induction S generalizing q with
  | nil => simp at h
  | cons x S ih =>
    cases q with
    | zero => simp at h; subst h; rfl
    | succ q =>
      have := ih (q := q) (by simpa using h)
      simp only [bw_z, List.set_cons_succ, List.map_cons, List.sum_cons] at this ⊢
      omega
theorem bw_17 {m i : Nat} {hh : List Nat} {a b : Nat} {n : Int} {l' : List Nat} {L : Lcl} {st : List AV} {S : Shp} {M : Mem} {res : Res} {q kd n' w : Nat} {rs : List Nat} (hk : bi_ok m i hh (17, a, b, n, l') = true) (hS : S[q]? = some (kd, n', rs)) (h1 : kd = a + 3 ∧ b < n' ∧ 4 ≤ q ∧ n' = rs.length) (K : bw_J m (i + 1) L st (S.set q (kd, n', rs.set b w)) M res) : bw_J m i L (.inr (.inr w) :: .inr (.inr (q + 1)) :: st) S M res := by
  intro p l e R s mid args below meth c H locs cells slots Q D tys A rv0 rv ws ls lvs stc b0 z0 hF hW hp hl hLl hL hs hc hz hRc hRz hfr hlo hRO
  obtain ⟨hx, hb, -, -, ho, hts, -, hin, -⟩ := id hF
  obtain ⟨vx, t1, rfl, hvw, hs1⟩ := bw_cons hs
  obtain ⟨vr, t, rfl, hv, hs2⟩ := bw_cons hs1
  obtain ⟨rfl, hbn, h4, hrl⟩ := h1
  obtain ⟨ad, e', rfl, hws, hcell⟩ := bw_cell hW.2.2.2.2.2 h4 hS hv
  obtain ⟨fs, rfl, hfl, hN, ha, hrs, hfield⟩ := (bw_c_3 tys rv a n' rs (M q) e').mp hcell
  simp only [bi_ok, Bool.and_eq_true, bi_fw, decide_eq_true_eq, Bool.not_eq_true'] at hk
  obtain ⟨⟨⟨⟨⟨⟨⟨hw, hbN⟩, -⟩, hI⟩, hd⟩, hfin⟩, hdecl⟩, hini⟩ := hk
  obtain ⟨hd, hn⟩ := bi_dn_ok hd
  have hft := bw_ftR a ha b hbN hI
  have hvn : vx = .null ∨ ∃ a', vx = .ref a' := hW.2.2.2.2.2.2.2.1 _ _ hvw
  obtain ⟨ty, hty, hnar, hfit⟩ : ∃ ty, parseFieldDescriptor (bi_fn a b).2.2.1 = some ty ∧ narrow ty vx = vx ∧ fits ty vx = true := by
    split at hft
    · rename_i o ho'; exact ⟨_, ho', by rcases hvn with rfl | ⟨a', rfl⟩ <;> rfl, by rcases hvn with rfl | ⟨a', rfl⟩ <;> rfl⟩
    · rename_i o ho'; exact ⟨_, ho', by rcases hvn with rfl | ⟨a', rfl⟩ <;> rfl, by rcases hvn with rfl | ⟨a', rfl⟩ <;> rfl⟩
    · cases hft
  refine va_putF (D := D) (ci := a) (v := vx) (ty := ty) (C := (bi_cls a).1) (T := (bi_cls a).2.1) (N := (bi_cls a).2.2) hx hb hts (bw_uws a ha) (bw_ty a) (bw_ty_ok a ha) (bw_nm a ha) ho hW.1 hW.2.1 hW.2.2.1 hW.2.2.2.1 (q - 4) hws (bw_cl a ha) b hbN (hts _ (bi_w_ok hw)) (fun _ h => h) hfin (hin hini) hdecl hty hnar hfit (by omega) hd (fun H1 locs1 hP1 hD1 hS1 => ?_)
  rw [← hn]
  have hql : q < S.length := (List.getElem?_eq_some_iff.mp hS).1
  refine K p l e R s mid args below meth c H1 locs1 cells slots Q D tys A rv0 rv _ ls lvs t b0 z0 hF ⟨hW.1, hP1, hD1, hS1, bw_ou_M hW.2.2.2.2.1 (fun k hk => List.getElem?_set_ne (by omega)) (fun _ _ => rfl), bw_k_set hW.2.2.2.2.2 h4 hws (by rw [List.length_set]) (List.getElem?_set_self hql) (fun k hk => List.getElem?_set_ne (fun z => hk z.symm)) (fun _ _ => rfl) ?_⟩ hp hl hLl hL hs2 (by rw [List.length_set]; exact hc) (by rw [bw_z_set hS]; exact hz) hRc hRz hfr hlo hRO
  refine (bw_c_3 tys rv a n' _ _ _).mpr ⟨_, rfl, by rw [List.length_set]; exact hfl, hN, ha, by rw [List.length_set]; exact hrs, fun j hj => ?_⟩
  by_cases hjb : j = b
  · subst hjb
    refine ⟨vx, List.getElem?_set_self (by omega), ?_⟩
    rw [if_neg (by rw [hI]; decide), List.getD_eq_getElem?_getD, List.getElem?_set_self (by omega)]
    exact hvw
  · obtain ⟨w', hw1, hw2⟩ := hfield j hj
    refine ⟨w', by rw [List.getElem?_set_ne (fun z => hjb z.symm)]; exact hw1, ?_⟩
    rw [List.getD_eq_getElem?_getD, List.getElem?_set_ne (fun z => hjb z.symm), ← List.getD_eq_getElem?_getD]
    exact hw2
