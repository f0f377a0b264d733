/-! CALLS -/
def bw_I (S : Shp) (M : Mem) (res : Res) : Prop := S.length ≤ res.1.length ∧ bw_z S ≤ bw_z res.1 ∧ (4 ≤ S.length → ∀ k, k < 4 → res.1[k]? = S[k]? ∧ res.2.1 k = M k)
def bw_o (rv : List Value) : Option AV → Option Value → Prop
  | none, none => True
  | some a, some v => bw_v rv a v
  | _, _ => False
def bw_Qc (D : va_G) (A1 : Nat → Prop) (rv0 : List Value) (res : Res) : Array Value → State → Outcome → State → Prop := fun _ st o t =>
  (∃ (v : Option Value) (tys : List (ClassId × FieldType)) (rv : List Value) (ws : va_W), o = .returned v ∧ bw_o rv res.2.2 v ∧ rv0 <+: rv ∧ va_K D vwCl tys t ∧ va_P D vwCl ws t.heap ∧ va_D A1 ws ∧ bw_k tys rv ws res.1 res.2.1) ∧ va_F A1 st t
abbrev bw_ws (a : Nat) : List Cond := Cond.code (bi_y a) (bi_by a) (bi_mL a) (bi_ret a) :: wAll
theorem bw_good : ∀ w ∈ wAll, (w.onTables && w.keeps) = true ∨ ∃ ty, w = .arrayClass ty := fun w h => good_of_word (List.mem_filter.mp h).2
theorem bw_goodIn {l : List Cond} (h : ∀ w ∈ l, w ∈ wAll) : GoodIn wAll l := fun w hw => ⟨h w hw, bw_good w (h w hw)⟩
theorem bw_pc0 : ∀ m, bi_pc m 0 = 0 := by
  have h : ∀ m, m < bi_pcs.length → bi_pc m 0 = 0 := by decide +kernel
  intro m
  rcases Nat.lt_or_ge m bi_pcs.length with q | q
  · exact h m q
  · unfold bi_pc
    have e : bi_pcs.getD m [] = [] := by rw [List.getD_eq_getElem?_getD, List.getElem?_eq_none q]; rfl
    rw [e]
    rfl
theorem bw_entry_l {tys : List (ClassId × FieldType)} {rv : List Value} {ws : va_W} {S : Shp} {M : Mem} (hk : bw_k tys rv ws S M) : ∀ (as : List AV) (avals : List Value) (pre : Lcl) (tl : Lcl), (∀ v : AV, some v ∉ tl) → bw_s rv as avals → ∀ (i : Nat) (v : AV), pre.length ≤ i → (pre ++ (as.flatMap bi_slots) ++ tl)[i]? = some (some v) → ∃ c, (i, c) ∈ lv_args pre.length avals ∧ bw_v rv v c := by
  intro as
  induction as with
  | nil =>
    intro avals pre tl htl hs i v hi h
    simp only [List.flatMap_nil, List.append_nil] at h
    rw [List.getElem?_append_right hi] at h
    exact absurd (List.mem_of_getElem? h) (htl v)
  | cons x as ih =>
    intro avals pre tl htl hs i v hi h
    obtain ⟨w, t, rfl, hw, hs1⟩ := bw_cons hs
    have hcat := bw_cat hk hw
    by_cases hip : i = pre.length
    · subst hip
      have hx : v = x := by
        rw [List.append_assoc, List.getElem?_append_right (Nat.le_refl _), Nat.sub_self] at h
        match x, h with
        | .inl _, h => simpa [bi_slots] using h.symm
        | .inr (.inl _), h => simpa [bi_slots] using h.symm
        | .inr (.inr _), h => simpa [bi_slots] using h.symm
      subst hx
      exact ⟨w, List.mem_cons_self, hw⟩
    · match x, hw, hcat, h with
      | .inl z, hw, hcat, h =>
        have h2 : (((pre ++ [some (Sum.inl z)]) ++ (as.flatMap bi_slots)) ++ tl)[i]? = some (some v) := by simpa [bi_slots] using h
        obtain ⟨d, hd, hdv⟩ := ih t (pre ++ [some (Sum.inl z)]) tl htl hs1 i v (by simp; omega) h2
        refine ⟨d, ?_, hdv⟩
        rw [lv_args, if_neg (by rw [hcat]; exact fun q => by cases q)]
        refine List.mem_cons_of_mem _ ?_
        simpa using hd
      | .inr (.inl z), hw, hcat, h =>
        have h2 : (((pre ++ [some (Sum.inr (Sum.inl z)), none]) ++ (as.flatMap bi_slots)) ++ tl)[i]? = some (some v) := by simpa [bi_slots] using h
        have hne : i ≠ pre.length + 1 := fun q => by
          subst q
          rw [List.append_assoc, List.getElem?_append_left (by simp), List.getElem?_append_right (by simp)] at h2
          simp at h2
        obtain ⟨d, hd, hdv⟩ := ih t (pre ++ [some (Sum.inr (Sum.inl z)), none]) tl htl hs1 i v (by simp; omega) h2
        refine ⟨d, ?_, hdv⟩
        rw [lv_args, if_pos (by rw [hcat]; rfl)]
        refine List.mem_cons_of_mem _ ?_
        simpa using hd
      | .inr (.inr z), hw, hcat, h =>
        have h2 : (((pre ++ [some (Sum.inr (Sum.inr z))]) ++ (as.flatMap bi_slots)) ++ tl)[i]? = some (some v) := by simpa [bi_slots] using h
        obtain ⟨d, hd, hdv⟩ := ih t (pre ++ [some (Sum.inr (Sum.inr z))]) tl htl hs1 i v (by simp; omega) h2
        refine ⟨d, ?_, hdv⟩
        rw [lv_args, if_neg (by rw [hcat]; exact fun q => by cases q)]
        refine List.mem_cons_of_mem _ ?_
        simpa using hd
theorem bw_sl {tys : List (ClassId × FieldType)} {rv : List Value} {ws : va_W} {S : Shp} {M : Mem} (hk : bw_k tys rv ws S M) : ∀ (as : List AV) (avals : List Value), bw_s rv as avals → (lg_sl avals).length = bi_cats as := by
  intro as
  induction as with
  | nil => intro avals h; rw [bw_nil h]; rfl
  | cons x as ih =>
    intro avals h
    obtain ⟨v, t, rfl, h1, h2⟩ := bw_cons h
    have h3 := ih t h2
    have h4 := bw_cat hk h1
    rw [bw_cats_cons, ← h3, ← h4]
    show (lg_sl (v :: t)).length = _
    unfold lg_sl
    rw [List.flatMap_cons, List.length_append]
    rcases lv_cat v with q | q
    · rw [if_neg (by omega), q]; rfl
    · rw [if_pos q, q]; rfl
theorem bw_fm : ∀ (as : List AV), (as.flatMap bi_slots).length = bi_cats as := by
  intro as
  induction as with
  | nil => rfl
  | cons x as ih =>
    rw [List.flatMap_cons, List.length_append, ih, bw_cats_cons]
    match x with
    | .inl _ => rfl
    | .inr (.inl _) => rfl
    | .inr (.inr _) => rfl
theorem bw_entry_len (nL : Nat) (as : List AV) (h : bi_cats as ≤ nL) : (bi_entry nL as).length = nL := by
  unfold bi_entry
  rw [List.length_append, List.length_replicate, bw_fm]
  omega
theorem bw_entry {tys : List (ClassId × FieldType)} {rv : List Value} {ws : va_W} {S : Shp} {M : Mem} (hk : bw_k tys rv ws S M) (nL : Nat) (as : List AV) (avals : List Value) (hs : bw_s rv as avals) : bw_l rv (bi_entry nL as) (lv_args 0 avals) := by
  intro i v h
  refine bw_entry_l hk as avals [] _ (fun v q => ?_) hs i v (Nat.zero_le _) (by rw [List.nil_append]; exact h)
  exact absurd (List.eq_of_mem_replicate q) (by simp)
theorem bw_ou_rv {A : Nat → Prop} {U : State} {H : Heap} {rv rv' : List Value} {S : Shp} {M : Mem} (hp : rv <+: rv') (h : bw_ou A U H rv S M) : bw_ou A U H rv' S M := by
  obtain ⟨b, N, b1, b2, xs, ys, fv, ⟨a1, a2⟩, ⟨c1, c2⟩, ⟨d1, d2⟩, ⟨e1, e2⟩, f⟩ := h
  exact ⟨b, N, b1, b2, xs, ys, fv, ⟨bw_pre hp a1, a2⟩, ⟨bw_pre hp c1, c2⟩, ⟨bw_pre hp d1, d2⟩, ⟨bw_pre hp e1, e2⟩, f⟩
theorem bw_ou_go {A B : Nat → Prop} {u U : State} {H0 H : Heap} {rv : List Value} {S : Shp} {M : Mem} (hvm : u.vm.Alike U.vm) (hR : ∀ a, vk_R "ByInitials" 77 bw_txt a u → vk_R "ByInitials" 77 bw_txt a U) (hq : ∀ a : Nat, a < H0.size → ¬ A a → H[a]? = H0[a]?) (hAB : ∀ q, q < H0.size → B q → A q) (h : bw_ou A u H0 rv S M) : bw_ou B U H rv S M := by
  obtain ⟨b, N, b1, b2, xs, ys, fv, ⟨a1, a2, a3, a4, a5⟩, ⟨c1, c2, c3, c4, c5, c6⟩, ⟨d1, d2, d3, d4⟩, ⟨e1, e2, e3, e4⟩, f⟩ := h
  have low : ∀ {t : Nat} {x : Cell}, H0[t]? = some x → t < H0.size := fun h => (Array.getElem?_eq_some_iff.mp h).1
  have kT : ∀ {ty : FieldType} {t k : Nat} {f : Nat → Value}, va_T ty t k f A u H0 → va_T ty t k f B U H := fun {ty t k f} h => by
    have h' := (h.moved hvm).kept hq
    obtain ⟨x, hx, -⟩ := h
    obtain ⟨y, g1, g2, g3, g4, g5, g6, g7⟩ := h'
    exact ⟨y, g1, g2, g3, g4, g5, g6, fun z => g7 (hAB _ (low hx) z)⟩
  have kZ : ∀ {C nn d : String} {v : Value}, va_Z C nn d v A u H0 → va_Z C nn d v B U H := fun {C nn d v} h => by
    obtain ⟨cf, kf, fi, f, a, cell, g1, g2, g3, g4, g5, g6, g7, g8⟩ := h.moved hvm
    exact ⟨cf, kf, fi, f, a, cell, g1, g2, g3, g4, by rw [hq a (low g5) g8]; exact g5, g6, g7, fun z => g8 (hAB _ (low g5) z)⟩
  have kO : ∀ {E : String} {t : Nat}, va_O E t A u H0 → va_O E t B U H := fun {E t} h => by
    obtain ⟨cell, g1, g2, g3, g4⟩ := h.moved hvm
    exact ⟨cell, by rw [hq t (low g1) g4]; exact g1, g2, g3, fun z => g4 (hAB _ (low g1) z)⟩
  have kF : ∀ {o nn d : String} {v : Value} {t : Nat}, va_OF o nn d v t A u H0 → va_OF o nn d v t B U H := fun {o nn d v t} h => by
    obtain ⟨cf, k, i, f, cell, g1, g2, g3, g4, g5, g6⟩ := h.moved hvm
    exact ⟨cf, k, i, f, cell, g1, g2, by rw [hq t (low g3) g6]; exact g3, g4, g5, fun z => g6 (hAB _ (low g3) z)⟩
  exact ⟨b, N, b1, b2, xs, ys, fv, ⟨a1, a2, a3, kT a4, a5⟩, ⟨c1, c2, c3, kO c4, kF c5, kF c6⟩, ⟨d1, d2, kT d3, d4⟩, ⟨e1, e2, kZ e3, kZ e4⟩, hR _ f⟩
theorem bw_x_warm {s U : State} (hW : s.WarmedH U.vm) (h : bw_x s) : bw_x U := ⟨fun a i x q hq => va_Nw.warmM hW (h.1 a i x q hq), va_AO.moved hW.alike h.2⟩
theorem bw_x_same {s U : State} (hv : s.vm = U.vm) (h : bw_x s) : bw_x U := ⟨fun a i x q hq => va_Nw.same rfl hv (h.1 a i x q hq), va_AO.moved (by rw [hv]; exact Vm.Alike.refl _) h.2⟩
set_option maxHeartbeats 1000000 in
theorem bw_met (l : Launch) {a n1 n2 : Nat} (hmok : bi_mok a n1 n2 = true) (D : va_G) (tys : List (ClassId × FieldType)) (rv : List Value) (ws : va_W) (S : Shp) (M : Mem) (as : List AV) (avals : List Value) (res : Res) (sz : Nat) (hJ : bw_J a 0 (bi_entry (bi_mL a) as) [] S M res) (hI : bw_I S M res) (hargs : bw_s rv as avals) (hfit : bi_cats as ≤ bi_mL a) (hk : bw_k tys rv ws S M) :
    Met l (bi_y a) (bw_ws a) ({ frames := bi_fr a, cells := res.1.length - S.length, slots := bw_z res.1 - bw_z S, locals := bi_lo a }) (va_Pc avals (fun U => U.heap.size = sz ∧ va_K D vwCl tys U ∧ va_P D vwCl ws U.heap ∧ va_D (fun _ => True) ws ∧ bw_ou (va_A ws sz) U U.heap rv S M ∧ bw_x U)) (bw_Qc D (va_A ws sz) rv res) (res.1.length - S.length) (bw_z res.1 - bw_z S) (va_A ws sz) := by
  simp only [bi_mok, Bool.and_eq_true, decide_eq_true_eq] at hmok
  obtain ⟨⟨⟨⟨⟨w1, w2⟩, hpl⟩, hmh⟩, hvh⟩, hown⟩ := hmok
  refine Met.ofW (cc := bi_by a) (maxL := bi_mL a) (ret := bi_ret a) hpl rfl ?_
  intro p e s m args below meth c s₁ B hml hv
  obtain ⟨rfl, rfl, hK, hP, hD0, hou, hxx⟩ := hv
  have hts := atoms_spec (ws := bw_ws a) B.pre
  have hlocks := B.notSynchronized
  have hF : bw_f a p s m avals.toArray meth c (va_A ws s.heap.size) := ⟨B.exec, B.bytes, hml, B.returns, by rw [hown]; exact findClass_of_methodNamed B.named, fun w hw => hts w (List.mem_cons_of_mem _ hw), hlocks, (fun h => by rw [← h]; exact (name_of_methodNamed B.named B.method).1), hxx, fun q h => Or.inr h⟩
  have hl := lv_entry avals (n := bi_mL a) (by rw [bw_sl hk as avals hargs]; exact hfit)
  rw [lg_entry_eq]
  have hJ' := hJ p l e (headSpec (bw_ws a) ({ frames := bi_fr a, cells := res.1.length - S.length, slots := bw_z res.1 - bw_z S, locals := bi_lo a })).room s m avals.toArray below meth c s.heap [] 0 0 (MQ below (bw_Qc D (va_A ws s.heap.size) rv res) avals.toArray s (res.1.length - S.length) (bw_z res.1 - bw_z S) (va_A ws s.heap.size)) D tys (va_A ws s.heap.size) rv rv ws _ _ [] S.length (bw_z S) hF ⟨hK, hP, hD0.self, va_S.rf, hou, hk⟩ (List.prefix_refl _) hl (bw_entry_len _ _ hfit) (bw_entry hk _ _ _ hargs) trivial (Nat.zero_add _) (Nat.zero_add _) (by show _ ≤ _ + (res.1.length - S.length); have := hI.1; omega) (by show _ ≤ _ + (bw_z res.1 - bw_z S); have := hI.2.1; omega) (Nat.le_refl _) (Nat.le_refl _) ?_
  · rw [bw_pc0] at hJ'
    exact hJ'
  · intro H1 locs1 cells slots tys1 rv1 ws1 ls1 stc pc hW1 hpre hcc hzz hrv
    have ec : cells = res.1.length - S.length := by omega
    have ez : slots = bw_z res.1 - bw_z S := by omega
    subst ec; subst ez
    obtain ⟨h1, h2, h3, h4, h5, h6⟩ := hW1
    have hx := B.exec
    have hb := B.bytes
    have hr := B.returns
    have post : ∀ v : Option Value, bw_o rv1 res.2.2 v → ∀ t : State, t.heap = H1 → s.WarmedH t.vm → bw_Qc D (va_A ws s.heap.size) rv res avals.toArray s (.returned v) t := fun v hv t ht hWt => ⟨⟨v, tys1, rv1, ws1, rfl, hv, hpre, va_K.moved hWt.alike h1, by rw [ht]; exact h2, h3, h6⟩, h4.F ht⟩
    match hres : res.2.2, hrv, post with
    | none, hrv, post =>
      obtain ⟨rfl, hdc, hnone⟩ := hrv
      exact W.vret hx hb (by rw [hr]; exact hnone) (post none trivial) h4.2.2 hdc
    | some (.inl x), hrv, post =>
      obtain ⟨y, rfl, hy, hdc, ty, hty, hnar⟩ := hrv
      exact W.zret hx hb (by rw [hr]; exact hty) hnar (post (some (.int y)) ⟨y, rfl, hy⟩) h4.2.2 hdc
    | some (.inr (.inr q)), hrv, post =>
      obtain ⟨v, rfl, hv, hdc, hty⟩ := hrv
      exact W.aret hx hb (by rw [hr]; exact hty) (Or.inl ⟨_, rfl⟩) (h6.2.2.1 _ _ hv) (post (some v) hv) h4.2.2 hdc
    | some (.inr (.inl x)), hrv, _ => exact hrv.elim
section BWC
variable {p : Program} {l : Launch} {e : Env} {R : Room} {s : State} {m : MethodId} {args : Array Value} {below : List Frame} {meth : Method} {c : Code} {H : Heap} {locs : List Loc} {cells slots : Nat} {Q : State → Prop}
variable {pc : Nat} {ls : Array Slot} {rest st0 : List Value} {a : Array Value} {A0 A1 : Nat → Prop} {H0 : Heap} {mc ms : Nat} {free : Addr → Prop}
theorem bw_call {D : va_G} {rv0 : List Value} {res : Res} (hr : va_Run p l e R s m args below meth c H locs cells slots mc ms (F0 m pc ls st0) rest (bw_Qc D A1 rv0 res a) free) (hS : va_S A0 H0 H locs) (hA : ∀ q, q < H.size → A1 q → A0 q) (hf : ∀ q, free q → A0 q)
    (kk : ∀ (v : Option Value) (tys : List (ClassId × FieldType)) (rv : List Value) (ws : va_W) (t : State) (H1 : Heap) (locs1 : List Loc), s.vm.Alike t.vm → bw_o rv res.2.2 v → rv0 <+: rv → va_K D vwCl tys t → va_P D vwCl ws H1 → va_D A1 ws → bw_k tys rv ws res.1 res.2.1 → H.size ≤ H1.size → va_S A0 H0 H1 locs1 → W p l e R s m args below meth c H1 locs1 (cells + mc) (slots + ms) Q (F0 m (pc + 3) ls (v.toList ++ rest))) : W p l e R s m args below meth c H locs cells slots Q (F0 m pc ls st0) := by
  intro T hT X
  obtain ⟨v, st₀, t, T', L, h0, X', hL, e1, e2, ⟨⟨v', tys, rv, ws, hv, g1, g2, g3, g4, g5, g6⟩, hz, hk⟩, st⟩ := hr T hT X
  cases hv
  rw [h0] at hz hk
  obtain ⟨t2, a1, b1⟩ := kk v tys rv ws t T'.heap (locs ++ L) (by rw [← e2]; exact X'.warmed.alike) g1 g2 g3 (by rw [e1]; exact g4) g5 g6 (by rw [e1]; exact hz)
    ⟨Nat.le_trans hS.1 (by rw [e1]; exact hz), fun q h1 h2 => by rw [e1, hk q (Nat.lt_of_lt_of_le h1 hS.1) (fun z => h2 (hA q (Nat.lt_of_lt_of_le h1 hS.1) z))]; exact hS.2.1 q h1 h2, fun q hq => by
      rcases List.mem_append.mp hq with h | h
      · exact hS.2.2 q h
      · exact hf _ (hL q h)⟩ T' rfl X'
  exact ⟨t2, st t2 a1, b1⟩
end BWC
