/-! the reference's seats: all rows, one behind the other -/
section SeatM
variable {S : Shp} {M : Mem} {Q : Res → Prop}
theorem sq_follows (hM : KM S) {n : Nat} (hT : Tn M 8 0 n) {M1 : Mem} (hl : Mc M M1) {p s x y1 : Nat} (hp : 1 ≤ p) (hx : x < n) (hpx : M1 185 p = (x : Int)) (hde : De n (M1 185) (p + 1) (s ||| 2 ^ x)) (hxs : s.testBit x = false) (hy1 : y1 < n) (hy1s : s.testBit y1 = false) (hxy : x < y1) (h : ∀ (M' : Mem) (y : Nat), Mc M M' → (∀ k, k < p → M' 185 k = M1 185 k) → M' 184 = M1 184 → y < n → x < y → s.testBit y = false → (∀ z, z < n → s.testBit z = false → x < z → y ≤ z) → M' 185 p = (y : Int) → As n (M' 185) (p + 1) (s ||| 2 ^ y) → Q (S, M', some (.inl 1))) : Ca 205 [.inr (.inr 173)] S M1 Q := by
  have hn8 := hT.1.1
  have e0 : M1 174 (0 : Int).toNat = n := by rw [hl 174 (by decide) (by decide)]; exact hT.2.1.2.1
  obtain ⟨hd, hel, hsu⟩ := hde
  obtain ⟨k1, k1a, k1b, k1c⟩ := hsu y1 hy1 (by rw [or_bit, hy1s]; simp; omega)
  have hp1 : (x : Int) < M1 185 (p + 1) := by
    by_cases hk : k1 = p + 1
    · rw [← hk, k1c]; omega
    · have := de_lt' hd (a := p + 1) (b := k1) (Nat.le_refl _) (by omega) k1b
      omega
  obtain ⟨j0, j1, j2, j3, j4⟩ := last_ge (n := n) (r := M1 185) (x := (x : Int)) n (p + 1) (by omega) (by omega) (by omega)
  obtain ⟨y, yn, yr, ys⟩ := hel j0 j1 j2
  have ys2 : s.testBit y = false ∧ x ≠ y := by rw [or_bit] at ys; simpa using ys
  have xy : x < y := by have := ys2.2; omega
  apply r_X9_follows_0 hM
  rw [e0, show ((n : Int) - 2) = ((n - 2 : Nat) : Int) by omega]
  refine ⟨by decide, by unfold inR; omega, ?_⟩
  refine fol_k hM hn8 (p := p) (by omega) (fun k q1 q2 => hd k (by omega) q2) (Or.inr ⟨by omega, by omega⟩) ⟨fun _ => ?_, fun z => by omega⟩ (n - 2 - p) (n - 2) (by omega) (Or.inl (by omega))
  rw [show ((n : Int) - 1) = ((n - 1 : Nat) : Int) by omega]
  refine fol_j hM hn8 ⟨hp, by omega⟩ j2 (by rw [hpx]; exact j3) (fun k q1 q2 => by rw [hpx]; exact j4 k q1 q2) ?_ (n - 1 - j0) (n - 1) (by omega) (by omega)
  refine sq_swapsRow hM (by omega) (by omega) (fun M2 g1 g2 => ⟨_, rfl, ?_⟩)
  have r1p : M2 185 p = (y : Int) := by rw [g2 p, if_neg (by omega), if_pos rfl]; exact yr
  have r1j : M2 185 j0 = (x : Int) := by rw [g2 j0, if_pos rfl]; exact hpx
  have r1o : ∀ k, k ≠ p → k ≠ j0 → M2 185 k = M1 185 k := fun k q1 q2 => by rw [g2 k, if_neg q2, if_neg q1]
  refine rev_loop hM hn8 (r := M2 185) (M0 := M2) (by omega) (fun M3 f1 f2 f3 => ?_) (n - (p + 1)) (p + 1) M2 (by omega) (by omega) (fun _ _ => rfl) (fun _ _ => rfl) (fun k q1 q2 => by rw [if_neg (by omega)])
  have r1d : ∀ a, p + 1 ≤ a → a + 1 < n → M2 185 (a + 1) < M2 185 a := fun a q1 q2 => by
    by_cases c1 : a = j0
    · rw [c1, r1j, r1o (j0 + 1) (by omega) (by omega)]; exact j4 _ (by omega) (by omega)
    · by_cases c2 : a + 1 = j0
      · rw [c2, r1j, r1o a (by omega) c1]
        have := hd a q1 q2
        rw [c2, yr] at this
        omega
      · rw [r1o a (by omega) c1, r1o (a + 1) (by omega) c2]; exact hd a q1 q2
  refine h M3 y (fun q q1 q2 => by rw [f1 q q2, g1 q q2]; exact hl q q1 q2) (fun k hk => by rw [f2 k (by omega), r1o k (by omega) (by omega)]) (by rw [f1 184 (by decide), g1 184 (by decide)]) yn xy ys2.1 (fun z zn zs xz => ?_) (by rw [f2 p (Nat.le_refl p)]; exact r1p) ⟨fun k q1 q2 => ?_, fun k q1 q2 => ?_, fun z zn zs => ?_⟩
  · obtain ⟨k, ka, kb, kc⟩ := hsu z zn (by rw [or_bit, zs]; simp; omega)
    by_cases c : k ≤ j0
    · by_cases c2 : k = j0
      · subst c2; rw [yr] at kc; omega
      · have := de_lt' hd (a := k) (b := j0) ka (by omega) j2
        omega
    · have := j4 k (by omega) kb
      omega
  · rw [f3 k (by omega) (by omega), f3 (k + 1) (by omega) (by omega)]
    have := r1d (n + p - (k + 1)) (by omega) (by omega)
    rw [show n + p - (k + 1) + 1 = n + p - k by omega] at this
    exact this
  · rw [f3 k (by omega) (by omega)]
    by_cases c1 : n + p - k = j0
    · rw [c1, r1j]
      exact ⟨x, hx, rfl, by rw [or_bit, hxs]; simp; omega⟩
    · rw [r1o _ (by omega) c1]
      obtain ⟨z, zn, zr, zs⟩ := hel (n + p - k) (by omega) (by omega)
      refine ⟨z, zn, zr, ?_⟩
      rw [or_bit] at zs ⊢
      have zs2 : s.testBit z = false ∧ x ≠ z := by simpa using zs
      have : y ≠ z := fun q => by
        subst q
        by_cases c2 : n + p - k < j0
        · have := de_lt' hd (a := n + p - k) (b := j0) (by omega) c2 j2
          omega
        · have := de_lt' hd (a := j0) (b := n + p - k) j1 (by omega) (by omega)
          omega
      simp [zs2.1, this]
  · rw [or_bit] at zs
    have zs2 : s.testBit z = false ∧ y ≠ z := by simpa using zs
    by_cases c : z = x
    · subst c
      refine ⟨n + p - j0, by omega, by omega, ?_⟩
      rw [f3 _ (by omega) (by omega), show n + p - (n + p - j0) = j0 by omega]
      exact r1j
    · obtain ⟨k, ka, kb, kc⟩ := hsu z zn (by rw [or_bit, zs2.1]; simp; omega)
      have kj : k ≠ j0 := fun q => by subst q; rw [yr] at kc; omega
      refine ⟨n + p - k, by omega, by omega, ?_⟩
      rw [f3 _ (by omega) (by omega), show n + p - (n + p - k) = k by omega, r1o k (by omega) kj]
      exact kc
theorem sq_follows0 (hM : KM S) {n : Nat} (hT : Tn M 8 0 n) {M1 : Mem} (hl : Mc M M1) {s : Nat} (hde : De n (M1 185) 1 s) (h : Q (S, M1, some (.inl 0))) : Ca 205 [.inr (.inr 173)] S M1 Q := by
  have hn8 := hT.1.1
  have hn1 : 1 ≤ n := hT.2.1.2.2.1
  have e0 : M1 174 (0 : Int).toNat = n := by rw [hl 174 (by decide) (by decide)]; exact hT.2.1.2.1
  apply r_X9_follows_0 hM
  rw [e0]
  refine ⟨by decide, by unfold inR; omega, ?_⟩
  by_cases h1 : n = 1
  · subst h1
    apply r_X9_follows_9 hM
    exact ⟨fun _ => ⟨fun w => by omega, fun _ => h⟩, fun z => by omega⟩
  · rw [show ((n : Int) - 2) = ((n - 2 : Nat) : Int) by omega]
    exact fol_k hM hn8 (p := 0) (by omega) (fun k q1 q2 => hde.1 k (by omega) q2) (Or.inl rfl) ⟨fun z => by omega, fun _ => h⟩ (n - 2) (n - 2) (by omega) (by omega)
/-- the state while rows are gone through -/
def Bst (n : Nat) (M1 : Mem) (st : T3) : Prop := 1 ≤ st.2.1 → ∀ k, k < n → M1 184 k = (st.2.2 k : Int)
def Gst (st : T3) : Prop := (1 ≤ st.2.1 ∧ 0 ≤ st.1 ∧ st.1 < 99) ∨ (st.2.1 = 0 ∧ st.1 = 99)
theorem Gst_cmb {a b : T3} (ha : Gst a) (hb : 1 ≤ b.2.1 ∧ 0 ≤ b.1 ∧ b.1 < 99) : Gst (cmb a b) ∧ (cmb a b).2.1 ≤ a.2.1 + b.2.1 := by
  unfold Gst at ha
  rcases Int.lt_trichotomy b.1 a.1 with h | h | h
  · rw [cmb_lt h]; exact ⟨Or.inl hb, by omega⟩
  · rw [cmb_eq h]; exact ⟨Or.inl ⟨by show 1 ≤ a.2.1 + b.2.1; omega, by show 0 ≤ a.1; omega, by show a.1 < 99; omega⟩, by show a.2.1 + b.2.1 ≤ _; omega⟩
  · rw [cmb_gt h]; exact ⟨ha, by omega⟩
theorem stS_G {st : T3} {g : Nat → T3} {s : Nat} {W : Int} (hst : Gst st) (hW : 0 ≤ W) : ∀ m : Nat, (∀ k, k < m → s.testBit k = false → (1 ≤ (g k).2.1 ∧ 0 ≤ (g k).1 ∧ (g k).1 < 99) ∧ (g k).2.1 ≤ W) → Gst (stS st g s m) ∧ (stS st g s m).2.1 ≤ st.2.1 + m * W := by
  intro m
  induction m with
  | zero => intro _; exact ⟨hst, by rw [stS]; simp⟩
  | succ m ih =>
    intro h
    have ih := ih (fun k hk => h k (by omega))
    have e : ((m + 1 : Nat) : Int) * W = m * W + W := by rw [Int.natCast_add, Int.add_mul]; simp
    rw [stS, e]
    by_cases hb : s.testBit m = true
    · rw [if_pos hb]; exact ⟨ih.1, by omega⟩
    · rw [if_neg hb]
      have a := h m (by omega) (by simpa using hb)
      have b := Gst_cmb ih.1 a.1
      exact ⟨b.1, by omega⟩
theorem se_46 (hM : KM S) {x1 x2 x4 : Int} (h : ∀ M', (∀ q, q ≠ 184 → M' q = M q) → (∀ k, k < 8 → M' 184 k = M 185 k) → Ca 205 [.inr (.inr 173)] S M' (fun r => ∃ (M5 : Mem) (v6 : Int), r = (S, M5, some (.inl v6)) ∧ En 207 32 [some (.inr (.inr 173)), some (.inl x1), some (.inl x2), some (.inl (1 : Int)), some (.inl v6), none, none] [] S M5 Q)) : ∀ (d k : Nat) (M1 : Mem), k + d = 8 → (∀ q, q ≠ 184 → M1 q = M q) → (∀ j, j < k → M1 184 j = M 185 j) → En 207 46 [some (.inr (.inr 173)), some (.inl x1), some (.inl x2), some (.inl (0 : Int)), some (.inl x4), some (.inl x2), some (.inl (k : Int))] [] S M1 Q := by
  intro d
  induction d with
  | zero =>
    intro k M1 hk h1 h2
    apply r_X9_seats_46 hM
    exact ⟨fun _ => ⟨fun z => absurd rfl z, fun _ => ⟨by unfold inR; omega, h M1 h1 (fun j hj => h2 j (by omega))⟩⟩, fun z => by omega⟩
  | succ d ih =>
    intro k M1 hk h1 h2
    apply r_X9_seats_46 hM
    rw [Int.toNat_natCast, show ((k : Int) + 1) = ((k + 1 : Nat) : Int) by omega]
    refine ⟨fun z => by omega, fun _ => ⟨by omega, by omega, by unfold inR; omega, ih (k + 1) _ (by omega) (fun q hq => by rw [up2_row _ _ _ _ hq]; exact h1 q hq) (fun j hj => ?_)⟩⟩
    rw [up2_any, h1 185 (by decide)]
    by_cases hjk : j = k
    · rw [if_pos ⟨rfl, hjk⟩, hjk]
    · rw [if_neg (fun z => hjk z.2)]; exact h2 j (by omega)
theorem se_visit (hM : KM S) {n : Nat} (hT : Tn M 8 0 n) {x1 : Int} {P b : Nat → Nat} {st : T3} {M1 : Mem} (hl : Mc M M1) (h0 : P 0 = 0) (hP : ∀ k, k < n → P k < n ∧ M1 185 k = (P k : Int)) (hb : Bst n M1 st) (hg : Gst st) (hw : st.2.1 + 1 ≤ 16777216) (hk : ∀ M', Mc M M' → M' 185 = M1 185 → Bst n M' (cmb st (pq (be M) P (n - 1) + clo M n (P (n - 1)), 1, full P n b)) → Ca 205 [.inr (.inr 173)] S M' (fun r => ∃ (M5 : Mem) (v6 : Int), r = (S, M5, some (.inl v6)) ∧ En 207 32 [some (.inr (.inr 173)), some (.inl x1), some (.inl (cmb st (pq (be M) P (n - 1) + clo M n (P (n - 1)), 1, full P n b)).1), some (.inl (cmb st (pq (be M) P (n - 1) + clo M n (P (n - 1)), 1, full P n b)).2.1), some (.inl v6), none, none] [] S M5 Q)) : En 207 32 [some (.inr (.inr 173)), some (.inl x1), some (.inl st.1), some (.inl st.2.1), some (.inl (1 : Int)), none, none] [] S M1 Q := by
  have hn8 := hT.1.1
  have pb := pq_in (be := be M) (P := P) (fun i j => bI_in _) (n - 1)
  have cb := (sgood_M M n).2 (P (n - 1))
  unfold Gst at hg
  obtain ⟨v, hv⟩ : ∃ v, v = pq (be M) P (n - 1) + clo M n (P (n - 1)) := ⟨_, rfl⟩
  rw [← hv] at hk
  apply r_X9_seats_32 hM
  refine ⟨fun z => absurd z (by decide), fun _ => sq_foes hM hT hl hP h0 ⟨_, _, rfl, ?_⟩⟩
  rw [← hv]
  refine ⟨fun z => ⟨fun w => ⟨by unfold inR; omega, ?_⟩, fun w => ⟨by unfold inR; omega, ?_⟩⟩, fun z => ?_⟩
  · have e : cmb st (v, 1, full P n b) = st := cmb_gt (by show st.1 < v; omega)
    rw [e] at hk
    rw [Int.add_zero]
    exact hk M1 hl rfl hb
  · have e : cmb st (v, 1, full P n b) = (st.1, st.2.1 + 1, st.2.2) := cmb_eq (by show v = st.1; exact w)
    rw [e] at hk
    exact hk M1 hl rfl (fun _ => hb (by omega))
  · have e : cmb st (v, 1, full P n b) = (v, 1, full P n b) := cmb_lt (by show v < st.1; exact z)
    rw [e] at hk
    refine se_46 (M := M1) hM (fun M2 g1 g2 => hk M2 (fun q q1 q2 => by rw [g1 q q1]; exact hl q q1 q2) (g1 185 (by decide)) (fun _ k hkn => ?_)) 8 0 M1 rfl (fun _ _ => rfl) (fun j hj => by omega)
    show M2 184 k = ((full P n b k : Nat) : Int)
    rw [g2 k (by omega), (hP k hkn).2]
    unfold full
    rw [if_pos hkn]
theorem se_T (hM : KM S) {n : Nat} (hT : Tn M 8 0 n) {x1 : Int} : ∀ (e p s : Nat) (P : Nat → Nat) (st : T3) (M1 : Mem), p + e = n → 1 ≤ p → ce s n = e → P 0 = 0 → (∀ k, k < p → P k < n) → Mc M M1 → (∀ k, k < p → M1 185 k = (P k : Int)) → As n (M1 185) p s → Bst n M1 st → Gst st → st.2.1 + ((8 ^ e : Nat) : Int) ≤ 16777216 → (∀ M', Mc M M' → (∀ k, k < p → M' 185 k = (P k : Int)) → De n (M' 185) p s → Bst n M' (cmb st (lift (pq (be M) P (p - 1)) P p (tr (be M) (clo M n) n e s (P (p - 1))))) → Ca 205 [.inr (.inr 173)] S M' (fun r => ∃ (M5 : Mem) (v6 : Int), r = (S, M5, some (.inl v6)) ∧ En 207 32 [some (.inr (.inr 173)), some (.inl x1), some (.inl (cmb st (lift (pq (be M) P (p - 1)) P p (tr (be M) (clo M n) n e s (P (p - 1))))).1), some (.inl (cmb st (lift (pq (be M) P (p - 1)) P p (tr (be M) (clo M n) n e s (P (p - 1))))).2.1), some (.inl v6), none, none] [] S M5 Q)) → En 207 32 [some (.inr (.inr 173)), some (.inl x1), some (.inl st.1), some (.inl st.2.1), some (.inl (1 : Int)), none, none] [] S M1 Q := by
  have hn8 := hT.1.1
  have hgd := sgood_M M n
  intro e
  induction e with
  | zero =>
    intro p s P st M1 hpe hp hce h0 hP hl hr has hb hg hw hk
    have ep : p = n := by omega
    subst ep
    refine se_visit (b := fun _ => 0) hM hT hl h0 (fun k hkn => ⟨hP k hkn, hr k hkn⟩) hb hg hw (fun M2 l2 e2 b2 => ?_)
    exact hk M2 l2 (fun k hkn => by rw [e2]; exact hr k hkn) ⟨fun k q1 q2 => by omega, by rw [e2]; exact has.2⟩ b2
  | succ e ih =>
    intro p s P st M1 hpe hp hce h0 hP hl hr has hb hg hw hk
    have en : n - (e + 1) = p := by omega
    obtain ⟨l, hl0⟩ : ∃ l, l = P (p - 1) := ⟨_, rfl⟩
    obtain ⟨c, hc0⟩ : ∃ c, c = pq (be M) P (p - 1) := ⟨_, rfl⟩
    have cb := pq_in (be := be M) (P := P) (fun i j => bI_in _) (p - 1)
    obtain ⟨f, hf⟩ : ∃ f : Nat → T3, f = (fun m => (be M l m + (tr (be M) (clo M n) n e (s ||| 2 ^ m) m).1, (tr (be M) (clo M n) n e (s ||| 2 ^ m) m).2.1, rset (tr (be M) (clo M n) n e (s ||| 2 ^ m) m).2.2 p m)) := ⟨_, rfl⟩
    have etr : tr (be M) (clo M n) n (e + 1) s (P (p - 1)) = trS f s n := by rw [tr, hf, en, hl0]
    rw [etr, ← hc0] at hk
    have cek : ∀ m, m < n → s.testBit m = false → ce (s ||| 2 ^ m) n = e := fun m hm hms => by
      have := ce_set hms n
      rw [if_pos hm] at this
      omega
    have fb : ∀ m, m < n → s.testBit m = false → (0 ≤ (f m).1 ∧ (f m).1 < 9) ∧ 1 ≤ (f m).2.1 ∧ (f m).2.1 ≤ ((8 ^ e : Nat) : Int) := fun m hm hms => by
      have a := tr_in hgd hn8 e (s ||| 2 ^ m) m (cek m hm hms) (by omega)
      have b := hgd.1 l m
      rw [hf]
      dsimp only
      omega
    have gb : ∀ m, m < n → s.testBit m = false → (1 ≤ (lift c P p (f m)).2.1 ∧ 0 ≤ (lift c P p (f m)).1 ∧ (lift c P p (f m)).1 < 99) ∧ (lift c P p (f m)).2.1 ≤ ((8 ^ e : Nat) : Int) := fun m hm hms => by
      have a := fb m hm hms
      unfold lift
      dsimp only
      omega
    have w0 : 0 ≤ ((8 ^ e : Nat) : Int) := Int.natCast_nonneg _
    have w8 : ((8 ^ (e + 1) : Nat) : Int) = 8 * ((8 ^ e : Nat) : Int) := by rw [Nat.pow_succ, Int.natCast_mul, Int.mul_comm]; rfl
    rw [w8] at hw
    have sb : ∀ m, m ≤ n → Gst (stS st (fun k => lift c P p (f k)) s m) ∧ (stS st (fun k => lift c P p (f k)) s m).2.1 ≤ st.2.1 + m * ((8 ^ e : Nat) : Int) := fun m hm => stS_G hg w0 m (fun k hkm hks => gb k (by omega) hks)
    have U : ∀ (d m : Nat) (M2 : Mem), n - m ≤ d → m < n → s.testBit m = false → Mc M M2 → (∀ k, k < p → M2 185 k = (P k : Int)) → M2 185 p = (m : Int) → As n (M2 185) (p + 1) (s ||| 2 ^ m) → Bst n M2 (stS st (fun k => lift c P p (f k)) s m) → En 207 32 [some (.inr (.inr 173)), some (.inl x1), some (.inl (stS st (fun k => lift c P p (f k)) s m).1), some (.inl (stS st (fun k => lift c P p (f k)) s m).2.1), some (.inl (1 : Int)), none, none] [] S M2 Q := by
      intro d
      induction d with
      | zero => intro m M2 h1 h2; omega
      | succ d ihd =>
        intro m M2 hd hm hms l2 r2 pm as2 b2
        have sbm := sb m (by omega)
        have mw : (m : Int) * ((8 ^ e : Nat) : Int) ≤ 7 * ((8 ^ e : Nat) : Int) := Int.mul_le_mul_of_nonneg_right (by omega) w0
        have rp : rset P p m p = m := if_pos rfl
        have ro : ∀ k, k ≠ p → rset P p m k = P k := fun k h => if_neg h
        have epq : pq (be M) (rset P p m) (p + 1 - 1) = c + be M l m := by
          rw [show p + 1 - 1 = (p - 1) + 1 by omega, pq, pq_congr (R := P) (p - 1) (fun j hj => ro j (by omega)), ro (p - 1) (by omega), show p - 1 + 1 = p by omega, rp, ← hc0, ← hl0]
        have elift : lift (pq (be M) (rset P p m) (p + 1 - 1)) (rset P p m) (p + 1) (tr (be M) (clo M n) n e (s ||| 2 ^ m) (rset P p m (p + 1 - 1))) = lift c P p (f m) := by
          rw [epq, show p + 1 - 1 = p by omega, rp]
          unfold lift
          rw [full_set, hf, Int.add_assoc]
        have est : cmb (stS st (fun k => lift c P p (f k)) s m) (lift c P p (f m)) = stS st (fun k => lift c P p (f k)) s (m + 1) := by rw [stS, if_neg (by rw [hms]; decide)]
        refine ih (p + 1) (s ||| 2 ^ m) (rset P p m) _ M2 (by omega) (by omega) (cek m hm hms) (by rw [ro 0 (by omega)]; exact h0) (fun k hkp => ?_) l2 (fun k hkp => ?_) as2 b2 sbm.1 (by omega) (fun M3 l3 r3 d3 b3 => ?_)
        · by_cases q : k = p
          · rw [q, rp]; exact hm
          · rw [ro k q]; exact hP k (by omega)
        · by_cases q : k = p
          · rw [q, rp]; exact pm
          · rw [ro k q]; exact r2 k (by omega)
        · rw [elift, est] at b3 ⊢
          have r3p : M3 185 p = (m : Int) := by rw [r3 p (by omega), rp]
          have r3o : ∀ k, k < p → M3 185 k = (P k : Int) := fun k hkp => by rw [r3 k (by omega), ro k (by omega)]
          by_cases hex : ∃ y, y < n ∧ s.testBit y = false ∧ m < y
          · obtain ⟨y1, ya, yb, yc⟩ := hex
            refine sq_follows hM hT l3 hp hm r3p d3 hms ya yb yc (fun M4 y l4 r4 e4 yn xy ys ymin py as4 => ⟨_, _, rfl, ?_⟩)
            have sk : stS st (fun k => lift c P p (f k)) s y = stS st (fun k => lift c P p (f k)) s (m + 1) := stS_skip y (by omega) (fun j j1 j2 => by
              cases hj : s.testBit j
              · have := ymin j (by omega) hj (by omega); omega
              · rfl)
            have := ihd y M4 (by omega) yn ys l4 (fun k hkp => by rw [r4 k hkp]; exact r3o k hkp) py as4 (by rw [sk]; intro q k hkn; rw [e4]; exact b3 q k hkn)
            rw [sk] at this
            exact this
          · have sk : stS st (fun k => lift c P p (f k)) s n = stS st (fun k => lift c P p (f k)) s (m + 1) := stS_skip n (by omega) (fun j j1 j2 => by
              cases hj : s.testBit j
              · exact absurd ⟨j, j2, hj, by omega⟩ hex
              · rfl)
            have fin : stS st (fun k => lift c P p (f k)) s n = cmb st (lift c P p (trS f s n)) := by
              rcases stS_lift (st := st) (f := f) (c := c) (P := P) (p := p) (s := s) n (fun k hkn hks => (fb k hkn hks).1.2) with ⟨q, _⟩ | ⟨_, q⟩
              · rw [q m hm] at hms; cases hms
              · exact q
            rw [← sk, fin] at b3 ⊢
            refine hk M3 l3 r3o ⟨fun k q1 q2 => ?_, fun k q1 q2 => ?_, fun y yn ys => ?_⟩ b3
            · by_cases q : k = p
              · subst q
                obtain ⟨y, yn, yr, ys⟩ := d3.2.1 (k + 1) (Nat.le_refl _) q2
                rw [or_bit] at ys
                have ys2 : s.testBit y = false ∧ m ≠ y := by simpa using ys
                rw [yr, r3p]
                by_cases w : m < y
                · exact absurd ⟨y, yn, ys2.1, w⟩ hex
                · have := ys2.2; omega
              · exact d3.1 k (by omega) q2
            · by_cases q : k = p
              · subst q; exact ⟨m, hm, r3p, hms⟩
              · obtain ⟨y, yn, yr, ys⟩ := d3.2.1 k (by omega) q2
                rw [or_bit] at ys
                have ys2 : s.testBit y = false ∧ m ≠ y := by simpa using ys
                exact ⟨y, yn, yr, ys2.1⟩
            · by_cases q : y = m
              · subst q; exact ⟨p, Nat.le_refl p, by omega, r3p⟩
              · obtain ⟨k, ka, kb, kc⟩ := d3.2.2 y yn (by rw [or_bit, ys]; simp; omega)
                exact ⟨k, by omega, kb, kc⟩
    obtain ⟨m0, m0n, m0r, m0s⟩ := has.2.1 p (Nat.le_refl p) (by omega)
    have mmin : ∀ j, j < m0 → s.testBit j = true := fun j hj => by
      cases hjs : s.testBit j
      · obtain ⟨k, ka, kb, kc⟩ := has.2.2 j (by omega) hjs
        by_cases q : k = p
        · subst q; omega
        · have := as_lt' has.1 (a := p) (b := k) (Nat.le_refl p) (by omega) kb
          omega
      · rfl
    have sk : stS st (fun k => lift c P p (f k)) s m0 = st := stS_skip (a := 0) m0 (by omega) (fun j _ hj => mmin j hj)
    have := U n m0 M1 (by omega) m0n m0s hl hr m0r ⟨fun k q1 q2 => has.1 k (by omega) q2, fun k q1 q2 => ?_, fun y yn ys => ?_⟩ (by rw [sk]; exact hb)
    · rw [sk] at this; exact this
    · obtain ⟨y, yn, yr, ys⟩ := has.2.1 k (by omega) q2
      refine ⟨y, yn, yr, ?_⟩
      rw [or_bit, ys]
      have := as_lt' has.1 (a := p) (b := k) (Nat.le_refl p) (by omega) q2
      simp
      omega
    · rw [or_bit] at ys
      have ys2 : s.testBit y = false ∧ m0 ≠ y := by simpa using ys
      obtain ⟨k, ka, kb, kc⟩ := has.2.2 y yn ys2.1
      refine ⟨k, ?_, kb, kc⟩
      by_cases q : k = p
      · subst q
        have := ys2.2
        omega
      · omega
end SeatM
