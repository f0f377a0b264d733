/-! THE CLAIM OUT OF ONE WALK OF THE LAW'S BODY. Your part is whole_start (and what it stands on); all else here is the same for every law, but numbers. -/
def R_law : String := "ByInitialsLaw"
def lw_P (b : Addr) (xs : List Int32) (args : Array Value) (s : State) : Prop := args = #[.ref b] ∧ s.IntsAt b xs ∧ xs.length ≤ 384 ∧ (Jvm.Cond.and given_1 narrow_1).before args s = true
def lw_Q (_ : Array Value) (s : State) (o : Outcome) (t : State) : Prop := o = .returned (some (.int 1)) ∧ Framed s o t [] 600000 7302250
def lw_Z (below : List Frame) (a : Array Value) (s : State) : State → Prop := fun t => ∃ o, t.status = .running ∧ Ended t below o ∧ lw_Q a s o t
/-- the law's own end, with 1 on the stack, nothing written that was there before, its room as the claim has it -/
theorem lw_ret {p : Program} {l : Launch} {e : Env} {s : State} {m : MethodId} {below : List Frame} {meth : Method} {c : Code} {b : Nat} (hx : p.tables.exec = Jvm.exec) (hb : c.code = code) (hr : meth.sig.returnType = ret) (hlocks : meth.locks = false) {pc : Nat} {H : Heap} {ls : Array Slot} (hdg : decode code pc = .ok (.ireturn, 1)) : W p l e room_1 s m #[Value.ref b] below meth c H [] 600000 7302250 (lw_Z below #[Value.ref b] s) (F0 m pc ls [.int 1]) := by
  intro T hT X
  obtain ⟨fs, hret, hrun, hended, hW, hframe⟩ := X.leave (v := some (.int 1)) (hlocks := hlocks) (fun h => by rw [hr] at h; cases h)
  have hmeth' : T.vm.method? m = some meth := X.method'
  refine ⟨T.setFrames fs, ?_, .returned (some (.int 1)), hrun, hended, rfl, ⟨_, rfl⟩, hW, hframe⟩
  jvm_step X.here [X.here.top, hx, hb, hdg, hmeth', hr, ret, narrow_b1]
  (try refine ⟨rfl, ?_⟩); (try refine ⟨rfl, ?_⟩)
  first | (intro acts; rw [hret _ acts rfl rfl rfl]) | rw [hret _ _ rfl rfl rfl]
  exact Steps.refl _
/-- what holds at the law's entry: the machine, the code, the tables' words (any of lw_tbl by 'hts w (by decide +kernel)'), the script of L ints xs at the cell b, what the Statement gives of the start (any of its parts by flat_of_before) -/
def lw_At (p : Program) (s : State) (m : MethodId) (meth : Method) (c : Code) (b L : Nat) (xs : Nat → Int32) : Prop :=
  p.tables.exec = Jvm.exec ∧ c.code = code ∧ meth.sig.returnType = ret ∧ c.maxLocals = 4 ∧ s.vm.findClass R_law = some m.cls ∧ (∀ w ∈ lw_tbl, w.before #[Value.ref b] s = true) ∧ va_X b L xs s s.heap ∧ b < s.heap.size ∧ meth.locks = false ∧ (Jvm.Cond.and given_1 narrow_1).before #[Value.ref b] s = true
/-! THE START: the law's world before it has made anything -/
def bs_S (N : Nat) : Shp := [(0, N, []), (13, 2, [3, 0]), (1, 41, []), (2, 0, [])]
def bs_txt : List Int := [110, 97, 100, 97, 109, 44, 53, 44, 57, 59, 110, 113, 117, 105, 110, 110, 44, 57, 44, 53, 59, 110, 122, 111, 101, 44, 56, 44, 51, 48, 59, 110, 44, 51, 44, 48, 59, 113, 97, 113, 59]
def bs_M (xs : Nat → Int) : Mem := fun q j => if q = 0 then xs j else if q = 2 then bs_txt.getD j 0 else 0
/-- what is left, of the interpreter alone -/
def bs_pure : Prop := ∀ (N : Nat) (xs : Nat → Int), N ≤ 384 → (∀ j, inR (xs j)) → ∃ (n : Nat) (S' : Shp) (M' : Mem), bi_exec PR n 227 0 (bi_entry 4 [.inr (.inr 1)]) [] (bs_S N) (bs_M xs) = some (S', M', some (.inl 1)) ∧ S'.length ≤ 4 + 600000 ∧ bw_z S' ≤ bw_z (bs_S N) + 7302250
def bs_byt : List (List Int32) := [[110, 97, 100, 97, 109, 44, 53, 44, 57, 59, 110, 113, 117, 105, 110, 110, 44, 57, 44, 53, 59, 110, 122, 111, 101, 44, 56, 44, 51, 48, 59, 110, 44, 51, 44, 48, 59, 113, 97, 113, 59]]
theorem bs_inst : ∀ a, a < 10 → Cond.instantiable (bi_cls a).1 (bi_cls a).2.2 ∈ lw_tbl := by decide +kernel
theorem bs_el : ∀ j, j < 41 → (Cond.eq (.elem (.field (.string "ByInitials" 77) "java/lang/String" "value" "[B") (.int (Int32.ofNat j))) (.int ((bs_byt.getD 0 []).getD j 0))) ∈ flatC (Jvm.Cond.and given_1 narrow_1) := by decide +kernel
theorem bs_bt : ∀ j, j < 41 → ((bs_byt.getD 0 []).getD j 0).toInt = bs_txt.getD j 0 := by decide +kernel
set_option maxHeartbeats 2000000 in
theorem whole_start_open (hpure : bs_pure) (hP : ∀ m, bw_ok m) {p : Program} {e : Env} {s : State} {m : MethodId} {below : List Frame} {meth : Method} {c : Code} (l : Launch) {b L : Nat} {xs : Nat → Int32} (hL : L ≤ 384) (C0 : lw_At p s m meth c b L xs) : W p l e room_1 s m #[Value.ref b] below meth c s.heap [] 0 0 (lw_Z below #[Value.ref b] s) (entryFrame m ([Value.ref b] : List Value).toArray 4) := by
  obtain ⟨hx, hb, hr, hml, hown, hts, hX, hbl, hlocks, hgv⟩ := C0
  obtain ⟨A, hAe⟩ : ∃ A : Nat → Prop, A = fun q => s.heap.size ≤ q := ⟨_, rfl⟩
  have hA : ∀ q : Nat, s.heap.size ≤ q → A q := fun q h => by rw [hAe]; exact h
  have hnA : ∀ a : Nat, a < s.heap.size → ¬ A a := fun a h q => by rw [hAe] at q; exact absurd q (by show ¬ s.heap.size ≤ a; omega)
  have hfl := flat_of_before _ hgv
  have h0 : ∀ a : Nat, ∃ q : ClassId × (Nat → Nat), a < 10 → u_Kn s (bi_cls a).1 (bi_cls a).2.1 (bi_cls a).2.2 q.1 q.2 := fun a => by
    by_cases ha : a < 10
    · obtain ⟨cC, iS, h⟩ := u_known (ws := lw_tbl) hts (fun w hw => (List.mem_filter.mp (bw_uws a ha w hw)).1) (hts _ (bs_inst a ha))
      exact ⟨(cC, iS), fun _ => h⟩
    · exact ⟨(0, fun _ => 0), fun h => absurd h ha⟩
  obtain ⟨f, hf⟩ := Classical.axiomOfChoice h0
  have hK : va_K (fun k => (f k).1, fun k => (f k).2) vwCl [] s := by
    refine ⟨fun k q hq => ?_, fun k q h => by simp at h⟩
    have hk : k < 10 := (List.getElem?_eq_some_iff.mp hq).1
    have e1 := (bw_cl k hk).symm.trans hq
    cases Option.some.inj e1
    exact hf k hk
  obtain ⟨adK, adV, ⟨hS0, -⟩, hev⟩ := vk_Sof (args := #[Value.ref b]) (s := s) (N := 1) (tm := fun _ => Term.string "ByInitials" 77) (len := [41]) (byt := bs_byt) (A := A) (fun i hi => by rw [show i = 0 by omega]; decide) (fun i hi => hfl _ (by decide +kernel)) (fun i hi => hfl _ (by decide +kernel)) (fun i hi => hfl _ (by decide +kernel)) (fun i hi => by rw [show i = 0 by omega]; exact hfl _ (by decide +kernel)) (fun i hi j hj => by
      have hi0 : i = 0 := by omega
      subst hi0
      exact hfl _ (bs_el j hj)) (fun i j hi hj hne => absurd (by omega) hne) hnA
  obtain ⟨s1, s2, s3, s4⟩ := hS0 0 (by decide)
  have hR : vk_R "ByInitials" 77 bw_txt (adK 0) s := vk_R.of (hts _ (by decide +kernel)) (hev 0 (by decide))
  have hZ1 : va_Z "java/lang/String" "COMPACT_STRINGS" "Z" (.int 1) A s s.heap := va_Zof (hts _ (by decide +kernel)) (hts _ (by decide +kernel)) (va_eqi (hfl _ (by decide +kernel))) hnA
  obtain ⟨fv, hfv, hZ2⟩ : ∃ fv : Value, (fv = .null ∨ ∃ a, fv = .ref a) ∧ va_Z "jdk/internal/util/Preconditions" "SIOOBE_FORMATTER" "Ljava/util/function/BiFunction;" fv A s s.heap := by
    rcases va_Zqof (A := A) (args := #[Value.ref b]) (s := s) (C := "jdk/internal/util/Preconditions") (n := "SIOOBE_FORMATTER") (d := "Ljava/util/function/BiFunction;") (hts _ (by decide +kernel)) (hts _ (by decide +kernel)) (hfl _ (by decide +kernel)) hnA with h | ⟨t, h⟩
    · exact ⟨_, Or.inl rfl, h⟩
    · exact ⟨_, Or.inr ⟨t, rfl⟩, h⟩
  have hT : va_T .int b L (fun j => .int (xs j)) A s s.heap := by
    obtain ⟨scr, g1, g2, g3, g4, g5⟩ := hX
    exact ⟨scr, g1, g2, g3, by omega, by rw [g4], g5, hnA b hbl⟩
  obtain ⟨n, S', M', hex, hlen, hz⟩ := hpure L (fun j => (xs j).toInt) hL (fun j => nu_in (xs j))
  obtain ⟨-, hJ⟩ := bw_main hP n 227 0 _ _ _ _ _ hex
  obtain ⟨rv, hrv⟩ : ∃ rv : List Value, rv = [.null, .ref b, .ref (adK 0), .ref (adV 0), fv] := ⟨_, rfl⟩
  have hou : bw_ou A s s.heap rv (bs_S L) (bs_M (fun j => (xs j).toInt)) := by
    subst hrv
    exact ⟨b, L, adK 0, adV 0, xs, fun j => (bs_byt.getD 0 []).getD j 0, fv, ⟨rfl, rfl, by omega, hT, fun j hj => rfl⟩, ⟨rfl, rfl, rfl, s1, s2, s3⟩, ⟨rfl, rfl, s4, fun j hj => bs_bt j hj⟩, ⟨rfl, rfl, hZ2, hZ1⟩, hR⟩
  have hk : bw_k [] rv [] (bs_S L) (bs_M (fun j => (xs j).toInt)) := by
    subst hrv
    refine ⟨rfl, rfl, fun k v h => ?_, rfl, fun k a e h => by simp at h, fun k a e sh h => by simp at h⟩
    match k, h with
    | 0, h => cases h; exact Or.inl rfl
    | 1, h => cases h; exact Or.inr ⟨_, rfl⟩
    | 2, h => cases h; exact Or.inr ⟨_, rfl⟩
    | 3, h => cases h; exact Or.inr ⟨_, rfl⟩
    | 4, h => cases h; exact hfv
    | k + 5, h => simp at h
  have hF : bw_f 227 p s m #[Value.ref b] meth c A := ⟨hx, hb, hml, hr, hown, fun w hw => hts w (List.mem_filter.mp hw).1, hlocks, fun h => absurd h (by decide +kernel), ⟨fun a i x h hm => va_Nw.of rfl (hts _ hm), va_AO.of (hts _ (by decide +kernel))⟩, hA⟩
  have hb1 : bw_s rv [.inr (.inr 1)] [Value.ref b] := by subst hrv; exact ⟨rfl, trivial⟩
  have hl := lv_entry [Value.ref b] (n := 4) (Nat.le_of_ble_eq_true rfl)
  rw [lg_entry_eq]
  have hW := hJ p l e room_1 s m #[Value.ref b] below meth c s.heap [] 0 0 (lw_Z below #[Value.ref b] s) (fun k => (f k).1, fun k => (f k).2) [] A rv rv [] _ _ [] 4 (bw_z (bs_S L)) hF ⟨hK, fun k q h => by simp at h, ⟨fun i j p q h => by simp at h, fun k q h => by simp at h⟩, va_S.rf, hou, hk⟩ (List.prefix_refl _) hl (by decide) (bw_entry hk 4 _ _ hb1) trivial rfl (Nat.zero_add _) hlen hz (by decide +kernel) (by decide +kernel) ?_
  · rw [bw_pc0] at hW
    exact hW
  · intro H1 locs1 cells slots tys1 rv1 ws1 ls1 stc pc hW1 hpre hcc hzz hrv1
    obtain ⟨y, rfl, hy, hdc, -⟩ := hrv1
    have ey : y = 1 := nu_eq.mpr (by rw [hy]; decide)
    subst ey
    refine va_forget (fun q hq => by have := hW1.2.2.2.1.2.2 q hq; rw [hAe] at this; exact this) ?_
    refine W.widen (k := 600000) (n := 7302250) (by dsimp only at hcc hlen; omega) (by dsimp only at hzz hz; omega) ?_
    exact lw_ret hx hb hr hlocks hdc
