/-! THE CALL, AND THE WHOLE: what the interpreter does, the machine does -/
theorem bw_s_get {rv : List Value} : ∀ (st : List AV) (stc : List Value) (k : Nat) (a : AV), bw_s rv st stc → st[k]? = some a → ∃ v, stc[k]? = some v ∧ bw_v rv a v := by
  intro st
  induction st with
  | nil => intro stc k a h hk; simp at hk
  | cons x st ih =>
    intro stc k a h hk
    obtain ⟨v, t, rfl, h1, h2⟩ := bw_cons h
    cases k with
    | zero => simp at hk; subst hk; exact ⟨v, rfl, h1⟩
    | succ k => simpa using ih t k a h2 (by simpa using hk)
theorem bw_hd {stc : List Value} {b : Nat} (hb : 1 ≤ b) {v : Value} (h : stc[b - 1]? = some v) : (stc.take b).reverse = v :: (stc.take b).reverse.tail := by
  have hlt : b - 1 < stc.length := (List.getElem?_eq_some_iff.mp h).1
  have hne : (stc.take b).reverse ≠ [] := by
    intro q
    have q2 := congrArg List.length q
    rw [List.length_reverse, List.length_take, List.length_nil] at q2
    omega
  have e : (stc.take b).reverse.head? = some v := by
    rw [List.head?_reverse, List.getLast?_eq_getElem?, List.length_take, List.getElem?_take_of_lt (by omega), show min b stc.length - 1 = b - 1 by omega]
    exact h
  cases hl : (stc.take b).reverse with
  | nil => exact absurd hl hne
  | cons x t => rw [hl] at e; cases e; rfl
theorem bw_blind (avals : List Value) (D : va_G) (tys : List (ClassId × FieldType)) (rv : List Value) (ws : va_W) (S : Shp) (M : Mem) (sz : Nat) : FrameBlind (va_Pc avals (fun U => U.heap.size = sz ∧ va_K D vwCl tys U ∧ va_P D vwCl ws U.heap ∧ va_D (fun _ => True) ws ∧ bw_ou (va_A ws sz) U U.heap rv S M ∧ bw_x U)) := by
  intro a U g mk h
  obtain ⟨q0, q1, qK, qP, qD, qO, qX⟩ := h
  exact ⟨q0, q1, va_K.moved (u := U) (U := U.calling g mk a) (Vm.Alike.refl U.vm) qK, qP, qD, bw_ou_go (u := U) (U := U.calling g mk a) (Vm.Alike.refl U.vm) (fun _ z => vk_R.same rfl z) (fun _ _ _ => rfl) (fun _ _ z => z) qO, bw_x_same (s := U) (U := U.calling g mk a) rfl qX⟩
set_option maxHeartbeats 2000000 in
theorem bw_36 {m i : Nat} {hh : List Nat} {a b : Nat} {n : Int} {l' : List Nat} {L : Lcl} {st : List AV} {S : Shp} {M : Mem} {res : Res} {S1 : Shp} {M1 : Mem} {r : Option AV} (hk : bi_ok m i hh (36, a, b, n, l') = true) (hb : b ≤ st.length ∧ bi_cats (st.drop b) ≤ 8 ∧ bi_recv n (l'.headD 0) S st[b - 1]? = true) (hfit : bi_cats (st.take b).reverse ≤ bi_mL a) (hI : bw_I S M (S1, M1, r)) (hcal : bw_J a 0 (bi_entry (bi_mL a) (st.take b).reverse) [] S M (S1, M1, r)) (hI2 : bw_I S1 M1 res) (K : bw_J m (i + 1) L (r.toList ++ st.drop b) S1 M1 res) : bw_J m i L st S M res := by
  intro p l e R s mid args below meth c H locs cells slots Q D tys A rv0 rv ws ls lvs stc b0 z0 hF hW hp hl hLl hL hs hc hz hRc hRz hfr hlo hRO
  obtain ⟨hx, hbb, hml, hret, ho, hts, hlk, hnm, hcx, hA⟩ := id hF
  have hkk := hW.2.2.2.2.2
  have hdrop := bw_s_drop b st stc hs
  have htake := bw_s_rev _ _ (bw_s_take b st stc hs)
  have hlen := bw_s_len st stc hs
  obtain ⟨avals, hav0⟩ : ∃ z, z = (stc.take b).reverse := ⟨_, rfl⟩
  rw [← hav0] at htake
  have hav : avals.length = b := by rw [hav0]; simp; omega
  have hstc : stc = avals.reverse ++ stc.drop b := by rw [hav0, List.reverse_reverse, List.take_append_drop]
  have hcs : ((stc.drop b).map fun v => v.category).sum ≤ 8 := by rw [bw_cats hkk _ _ hdrop]; exact hb.2.1
  have hfree : ∀ q, va_A ws H.size q → A q := fun q h => by
    rcases h with ⟨k, e', h⟩ | h
    · exact hW.2.2.1.2 k _ h
    · exact hA q (Nat.le_trans hW.2.2.2.1.1 h)
  have hnf : ∀ q, q < s.heap.size → va_A ws H.size q → A q := fun q _ h => hfree q h
  have hpre : ∀ U : State, U.heap = H → s.WarmedH U.vm → (va_Pc avals (fun U => U.heap.size = H.size ∧ va_K D vwCl tys U ∧ va_P D vwCl ws U.heap ∧ va_D (fun _ => True) ws ∧ bw_ou (va_A ws H.size) U U.heap rv S M ∧ bw_x U)) avals.toArray U := fun U hU hWU => ⟨rfl, by rw [hU], va_K.moved hWU.alike hW.1, by rw [hU]; exact hW.2.1, hW.2.2.1.weaken (fun _ _ _ _ => trivial), by rw [hU]; exact bw_ou_go hWU.alike (fun _ z => vk_R.warm hWU z) hW.2.2.2.1.2.1 hnf hW.2.2.2.2.1, bw_x_warm hWU hcx⟩
  have hi1 := hI.1
  have hi2 := hI.2.1
  have hj1 := hI2.1
  have hj2 := hI2.2.1
  have hroom : cells + (S1.length - S.length) ≤ R.cells ∧ slots + (bw_z S1 - bw_z S) ≤ R.slots := ⟨by show _ ≤ _; dsimp only at hi1; omega, by show _ ≤ _; dsimp only at hi2; omega⟩
  have h4 : 4 ≤ S.length := by have := hkk.2.1; omega
  have kont : ∀ (pc3 : bi_pc m (i + 1) = bi_pc m i + 3) (av : Array Value), va_Run p l e R s mid args below meth c H locs cells slots (S1.length - S.length) (bw_z S1 - bw_z S) (F0 mid (bi_pc m i) ls stc) (stc.drop b) (bw_Qc D (va_A ws H.size) rv (S1, M1, r) av) (va_A ws H.size) → W p l e R s mid args below meth c H locs cells slots Q (F0 mid (bi_pc m i) ls stc) := by
    intro pc3 av hr
    refine bw_call hr hW.2.2.2.1 (fun q _ h => hfree q h) hfree (fun v tys1 rv1 ws1 t H1 locs1 hvm ho1 hpre1 hK1 hP1 hD1 hk1 hsz hS1 => ?_)
    rw [← pc3]
    refine K p l e R s mid args below meth c H1 locs1 _ _ Q D tys1 A rv0 rv1 ws1 ls lvs _ b0 z0 hF ⟨va_K.moved hvm.symm hK1, hP1, hD1.weaken (fun _ q _ h => hfree _ h), hS1, bw_ou_rv hpre1 (bw_ou_M hW.2.2.2.2.1 (fun k hk => (hI.2.2 h4 k hk).1) (fun k hk => (hI.2.2 h4 k hk).2)), hk1⟩ (hp.trans hpre1) hl hLl (bw_l_mono hpre1 hL) ?_ (by dsimp only at hi1; omega) (by dsimp only at hi2; omega) hRc hRz hfr hlo hRO
    match r, v, ho1 with
    | none, none, _ => exact bw_s_mono hpre1 _ _ hdrop
    | some x, some v, ho1 => exact bw_p ho1 (bw_s_mono hpre1 _ _ hdrop)
  have hG : GoodIn wAll (bw_ws a) → True := fun _ => trivial
  have fix : CallFix p mid c (bi_by m) (bi_mL m) s args wAll (bi_own m) := ⟨hx, hbb, hml, ho, hts⟩
  have hrw : 2 * (F0 mid (bi_pc m i) ls stc).monitorRoom + ((stc.drop b).map fun v => v.category).sum ≤ 8 := by show 2 * 0 + _ ≤ 8; omega
  have rcv : n = 0 ∨ n = 1 ∨ n = 2 := by
    have h3 := hb.2.2
    unfold bi_recv at h3
    split at h3
    · split at h3
      · exact Or.inl (by assumption)
      · have := of_decide_eq_true h3
        rcases this with q | q
        · exact Or.inr (Or.inl q)
        · exact Or.inr (Or.inr q.1)
    · exact Or.inr (Or.inl (of_decide_eq_true h3))
  rcases rcv with rfl | rfl | rfl
  · have hk' : (bi_mok a (hh.getD 2 0) (hh.getD 3 0) && bi_room m a && bi_lk m a (hh.getD 0 0) false && bi_w (hh.getD 1 0) (.selects (bi_y a).cls (bi_y a) (bi_y a)) && bi_w (hh.getD 4 0) (.instanceMethod (bi_y a)) && decide (bi_np a = some (b - 1)) && decide (1 ≤ b) && decide ((l'.headD 0 = 10 ∧ (bi_y a).cls = "java/lang/String") ∨ (l'.headD 0 < 10 ∧ (bi_y a).cls = (bi_cls (l'.headD 0)).1)) && bi_dn m i (.invokevirtual (bi_jn (hh.getD 0 0))) 3) = true := hk
    simp only [Bool.and_eq_true, decide_eq_true_eq, bi_room] at hk'
    obtain ⟨⟨⟨⟨⟨⟨⟨⟨hmok, hrm⟩, hlkk⟩, hsel⟩, hins⟩, hnp⟩, hb1⟩, hcls⟩, hd⟩ := hk'
    have hmok' := hmok
    simp only [bi_mok, Bool.and_eq_true, decide_eq_true_eq] at hmok'
    obtain ⟨⟨⟨⟨⟨w1, w2⟩, hpl⟩, hmh⟩, hvh⟩, hown⟩ := hmok'
    obtain ⟨hd, hn⟩ := bi_dn_ok hd
    simp only [bi_lk, Bool.false_eq_true, if_false] at hlkk
    have hrec : ∃ (ad : Nat) (As : List Value), avals = .ref ad :: As ∧ ∃ cell : Cell, H[ad]? = some cell ∧ cell.vm.isStatics = false ∧ s.vm.findClass (bi_y a).cls = some cell.cls := by
      have h3 := hb.2.2
      unfold bi_recv at h3
      split at h3
      · rename_i q hq
        rw [if_pos rfl] at h3
        split at h3
        · rename_i kd n3 rs3 hSq
          simp only [Bool.and_eq_true, Bool.or_eq_true, decide_eq_true_eq] at h3
          obtain ⟨rfl, h5⟩ := h3
          obtain ⟨v, hv1, hv2⟩ := bw_s_get st stc _ _ hs hq
          have hd1 := bw_hd hb1 hv1
          rw [← hav0] at hd1
          rcases h5 with h5 | ⟨rfl, h6⟩
          · obtain ⟨ad, e', rfl, hws, hcell⟩ := bw_cell hkk h5 hSq hv2
            obtain ⟨fs, rfl, -, -, hc10, -⟩ := (bw_c_3 tys rv _ n3 rs3 (M q) e').mp hcell
            rcases hcls with ⟨h7, -⟩ | ⟨-, h8⟩
            · omega
            · refine ⟨ad, _, hd1, ?_⟩
              rw [h8]
              exact va_recv hW.1 hW.2.1 (bw_cl _ hc10) hws
          · rcases hcls with ⟨-, h8⟩ | ⟨h7, -⟩
            · obtain ⟨b', N, b1, b2, xs, ys, fv, o1, ⟨c1, c2, c3, ⟨cell, g1, g2, g3, g4⟩, -⟩, -⟩ := hW.2.2.2.2.1
              have e1 := Option.some.inj (hv2.symm.trans c1)
              subst e1
              refine ⟨b1, _, hd1, cell, ?_, g2, by rw [h8]; exact g3⟩
              rw [hW.2.2.2.1.2.1 b1 (Array.getElem?_eq_some_iff.mp g1).1 g4]
              exact g1
            · omega
        · cases h3
      · exact absurd (of_decide_eq_true h3) (by decide)
    obtain ⟨ad, As, rfl, hcell⟩ := hrec
    have hmet := bw_met l hmok D tys rv ws S M _ _ _ H.size hcal hI htake hfit hkk
    refine kont hn (Value.ref ad :: As).toArray (va_runV (As := As) fix hmet (cwV (C := (bi_y a).cls) (b - 1) hts (bw_goodIn ?_) rfl rfl rfl ⟨rfl, hmh, hvh, hnp⟩ ⟨Nat.le_trans hrm.1 hfr, Nat.le_trans hrm.2 hlo⟩) ⟨bw_blind _ _ _ _ _ _ _ _, hcell, hpre⟩ rfl (by have := hav; simp at this; omega) hl.1 (by rw [List.reverse_cons, List.append_assoc] at hstc; exact hstc) hrw hd hroom)
    intro w hw
    simp only [wsV, List.mem_append, List.mem_cons, List.not_mem_nil, or_false] at hw
    rcases hw with (rfl | rfl | rfl | rfl) | rfl | hw
    · exact bi_w_ok hlkk
    · exact bi_w_ok hins
    · exact bi_w_ok hsel
    · exact bi_w_ok w2
    · exact bi_w_ok w1
    · exact hw
  · have hk' : (bi_mok a (hh.getD 2 0) (hh.getD 3 0) && bi_room m a && bi_lk m a (hh.getD 0 0) (decide (hh.getD 5 0 = 1)) && bi_w (hh.getD 4 0) (.static (bi_y a)) && decide (bi_np a = some b) && bi_dn m i (.invokestatic (bi_jn (hh.getD 0 0))) 3) = true := hk
    simp only [Bool.and_eq_true, decide_eq_true_eq, bi_room] at hk'
    obtain ⟨⟨⟨⟨⟨hmok, hrm⟩, hlkk⟩, hsta⟩, hnp⟩, hd⟩ := hk'
    have hmok' := hmok
    simp only [bi_mok, Bool.and_eq_true, decide_eq_true_eq] at hmok'
    obtain ⟨⟨⟨⟨⟨w1, w2⟩, hpl⟩, hmh⟩, hvh⟩, hown⟩ := hmok'
    obtain ⟨hd, hn⟩ := bi_dn_ok hd
    have hmet := bw_met l hmok D tys rv ws S M _ _ _ H.size hcal hI htake hfit hkk
    have hgi : GoodIn wAll (bw_ws a) := bw_goodIn (fun w hw => by
      rcases List.mem_cons.mp hw with rfl | hw
      · exact bi_w_ok w1
      · exact hw)
    unfold bi_lk at hlkk
    split at hlkk
    · have hmem := List.mem_of_getElem? (of_decide_eq_true hlkk)
      exact kont hn avals.toArray (va_runSN (As := avals) fix hmet ⟨va_cnB b hts hgi rfl rfl rfl (hcx.1 _ _ _ _ hmem) (hts _ (bi_w_ok w2)) ⟨hmh, hvh, hnp⟩ ⟨Nat.le_trans hrm.1 hfr, Nat.le_trans hrm.2 hlo⟩, hts _ (bi_w_ok hsta), trivial⟩ ⟨bw_blind _ _ _ _ _ _ _ _, hpre⟩ rfl hav hl.1 hstc hrw hd hroom)
    · exact kont hn avals.toArray (va_runS (As := avals) fix hmet ⟨callB_of b hts hgi rfl rfl rfl (hts _ (bi_w_ok w2)) (hts _ (bi_w_ok hlkk)) ⟨hmh, hvh, hnp⟩ ⟨Nat.le_trans hrm.1 hfr, Nat.le_trans hrm.2 hlo⟩, hts _ (bi_w_ok hsta)⟩ ⟨bw_blind _ _ _ _ _ _ _ _, hpre⟩ rfl hav hl.1 hstc hrw hd hroom)
  · have hk' : (bi_mok a (hh.getD 2 0) (hh.getD 3 0) && bi_room m a && bi_lk m a (hh.getD 0 0) (decide (hh.getD 5 0 = 1)) && bi_w (hh.getD 4 0) (.instanceMethod (bi_y a)) && decide ((bi_y a).name = "<init>") && decide (bi_ret a = none) && decide (bi_np a = some (b - 1)) && decide (1 ≤ b) && bi_dn m i (.invokespecial (bi_jn (hh.getD 0 0))) 3) = true := hk
    simp only [Bool.and_eq_true, decide_eq_true_eq, bi_room] at hk'
    obtain ⟨⟨⟨⟨⟨⟨⟨⟨hmok, hrm⟩, hlkk⟩, hins⟩, hini⟩, hrn⟩, hnp⟩, hb1⟩, hd⟩ := hk'
    have hmok' := hmok
    simp only [bi_mok, Bool.and_eq_true, decide_eq_true_eq] at hmok'
    obtain ⟨⟨⟨⟨⟨w1, w2⟩, hpl⟩, hmh⟩, hvh⟩, hown⟩ := hmok'
    obtain ⟨hd, hn⟩ := bi_dn_ok hd
    have hrec : ∃ (ad : Nat) (As : List Value), avals = .ref ad :: As := by
      have h3 := hb.2.2
      unfold bi_recv at h3
      split at h3
      · rename_i q hq
        rw [if_neg (by decide)] at h3
        rcases of_decide_eq_true h3 with h5 | ⟨-, h5⟩
        · exact absurd h5 (by decide)
        · obtain ⟨v, hv1, hv2⟩ := bw_s_get st stc _ _ hs hq
          have hd1 := bw_hd hb1 hv1
          rw [← hav0] at hd1
          obtain ⟨ad, rfl⟩ := bw_ref hW (c := q + 1) (by omega) hv2
          exact ⟨ad, _, hd1⟩
      · exact absurd (of_decide_eq_true h3) (by decide)
    obtain ⟨ad, As, rfl⟩ := hrec
    have hmet := bw_met l hmok D tys rv ws S M _ _ _ H.size hcal hI htake hfit hkk
    have hgi : GoodIn wAll (bw_ws a) := bw_goodIn (fun w hw => by
      rcases List.mem_cons.mp hw with rfl | hw
      · exact bi_w_ok w1
      · exact hw)
    have hwsn : bw_ws a = Cond.code (bi_y a) (bi_by a) (bi_mL a) none :: wAll := by unfold bw_ws; rw [hrn]
    have hlen2 : As.length = b - 1 := by have := hav; simp at this; omega
    have hst2 : stc = As.reverse ++ Value.ref ad :: stc.drop b := by rw [List.reverse_cons, List.append_assoc] at hstc; exact hstc
    unfold bi_lk at hlkk
    split at hlkk
    · have hmem := List.mem_of_getElem? (of_decide_eq_true hlkk)
      exact kont hn (Value.ref ad :: As).toArray (va_runIN (As := As) fix hmet ⟨va_cnB (b - 1) hts hgi hwsn rfl rfl (hcx.1 _ _ _ _ hmem) (hts _ (bi_w_ok w2)) ⟨hmh, hvh, hnp⟩ ⟨Nat.le_trans hrm.1 hfr, Nat.le_trans hrm.2 hlo⟩, hini, hts _ (bi_w_ok hins)⟩ ⟨bw_blind _ _ _ _ _ _ _ _, hpre⟩ rfl hlen2 hl.1 hst2 hrw hd hroom)
    · exact kont hn (Value.ref ad :: As).toArray (va_runI (As := As) fix hmet (cwI (b - 1) hts hgi hwsn rfl rfl (hts _ (bi_w_ok w2)) (hts _ (bi_w_ok hlkk)) (hts _ (bi_w_ok hins)) hini ⟨hmh, hvh, hnp⟩ ⟨Nat.le_trans hrm.1 hfr, Nat.le_trans hrm.2 hlo⟩) ⟨bw_blind _ _ _ _ _ _ _ _, hpre⟩ rfl hlen2 hl.1 hst2 hrw hd hroom)
