/-! words and numbers, on both sides at once -/
section WORDS
def Ok2 {A B : Type} (e : Option A) (f : Option B) (P : A → B → Prop) : Prop := ∃ u v, e = some u ∧ f = some v ∧ P u v
theorem Ok2_s {A B : Type} {u : A} {v : B} {P : A → B → Prop} (h : P u v) : Ok2 (some u) (some v) P := ⟨u, v, rfl, rfl, h⟩
theorem Ok2_e {A B : Type} {e : Option A} {f : Option B} {u : A} {v : B} {P : A → B → Prop} (h1 : e = some u) (h2 : f = some v) (h : P u v) : Ok2 e f P := ⟨u, v, h1, h2, h⟩
theorem Ok2_mono {A B : Type} {e : Option A} {f : Option B} {P Q : A → B → Prop} (h : Ok2 e f P) (k : ∀ u v, P u v → Q u v) : Ok2 e f Q := by
  obtain ⟨u, v, a, b, c⟩ := h
  exact ⟨u, v, a, b, k u v c⟩
theorem Ok2_bind {A B C D : Type} {e : Option A} {f : Option B} {P : A → B → Prop} {k : A → Option C} {l : B → Option D} {Q : C → D → Prop} (h : Ok2 e f P) (n : ∀ u v, P u v → Ok2 (k u) (l v) Q) : Ok2 (e.bind k) (f.bind l) Q := by
  obtain ⟨u, v, rfl, rfl, c⟩ := h
  exact n u v c
theorem Ok2_of {A B : Type} {e : Option A} {f : Option B} {P : A → Prop} {R : B → Prop} {Q : A → B → Prop} (h : Ok e P) (k : Ok f R) (n : ∀ u v, P u → R v → Q u v) : Ok2 e f Q := by
  obtain ⟨u, rfl, a⟩ := h
  obtain ⟨v, rfl, b⟩ := k
  exact ⟨u, v, rfl, rfl, n u v a b⟩
/-- nothing but the reader's own is changed -/
def NF (x x' : Mem) : Prop := (∀ j, j < 3 ∨ 8 < j → x'.1 2 j = x.1 2 j) ∧ Fp 2 3 x x'
def AF (y y' : Mem) : Prop := (∀ j, j < 8 ∨ 13 < j → y'.1 298 j = y.1 298 j) ∧ y'.2 298 = y.2 298 ∧ Fp 298 299 y y'
theorem NF.refl {x : Mem} : NF x x := ⟨fun _ _ => rfl, Fp.refl⟩
theorem AF.refl {y : Mem} : AF y y := ⟨fun _ _ => rfl, rfl, Fp.refl⟩
theorem NF.trans {x x' x'' : Mem} (h : NF x x') (k : NF x' x'') : NF x x'' := ⟨fun j hj => (k.1 j hj).trans (h.1 j hj), h.2.trans k.2⟩
theorem AF.trans {y y' y'' : Mem} (h : AF y y') (k : AF y' y'') : AF y y'' := ⟨fun j hj => (k.1 j hj).trans (h.1 j hj), k.2.1.trans h.2.1, h.2.2.trans k.2.2⟩
theorem NX.f {x x' : Mem} (h : NX x x') : NF x x' := ⟨fun j hj => h.1 j (by omega), h.2⟩
theorem AX.f {y y' : Mem} (h : AX y y') : AF y y' := ⟨fun j hj => h.1 j (by omega), h.2⟩
section WD
variable {L lb : Nat} {T : Nat → Int32} {x y x' y' : Mem} {a b w : Nat}
theorem CK.nf (K : CK L T x) (h : NF x x') : CK L T x' := ⟨by rw [h.1 1 (by omega), K.1], fun i hi => by rw [(h.2 3 (by omega)).1, K.2 i hi]⟩
theorem MK.af (K : MK L T y) (h : AF y y') : MK L T y' := ⟨by rw [h.1 7 (by omega), K.1], fun i hi => by rw [(h.2.2 302 (by omega)).1, K.2 i hi]⟩
/-- no fault so far: both are at the same token -/
def GS (L : Nat) (T : Nat → Int32) (lb : Nat) (x y : Mem) : Prop := x.1 2 3 = 0 ∧ y.1 298 12 = 0 ∧ x.1 2 4 = -1 ∧ y.1 298 13 = -1 ∧ ∃ a, (a ≤ L ∧ lb ≤ a) ∧ x.1 2 5 = nI (tkE L T a) ∧ y.1 298 8 = nI (tkE L T a) ∧ x.1 2 6 = nI a ∧ y.1 298 9 = nI a ∧ x.1 2 7 = nI (tkT L T a) ∧ y.1 298 10 = nI (tkT L T a) ∧ (tkT L T a = 2 → x.1 2 8 = nI (nmN L T 1000000 a (tkE L T a - a)) ∧ y.1 298 11 = nI (nmN L T 99999 a (tkE L T a - a)))
/-- the same fault on both -/
def BS (x y : Mem) : Prop := x.1 2 3 ≠ 0 ∧ y.1 298 12 = x.1 2 3 ∧ y.1 298 13 = x.1 2 4
def RX (L : Nat) (T : Nat → Int32) (lb : Nat) (x y : Mem) : Prop := CK L T x ∧ MK L T y ∧ (GS L T lb x y ∨ BS x y)
theorem tk4 (L : Nat) (T : Nat → Int32) (a : Nat) : tkT L T a ≤ 4 := by
  unfold tkT kdB
  split
  · omega
  · split
    · omega
    · split
      · omega
      · split <;> omega
theorem BS.nz (h : BS x y) : ¬ rI y 298 12 = 0 := fun z => h.1 (h.2.1.symm.trans z)
/-- a fault on both -/
theorem fail2 (K : CK L T x) (M : MK L T y) (G : GS L T lb x y) (k : Int32) (hk : k ≠ 0) : Ok2 (Re_fail 2 k x) (Mo_errs 298 k y) (fun x' y' => CK L T x' ∧ MK L T y' ∧ BS x' y' ∧ NF x x' ∧ AF y y') := by
  obtain ⟨g1, g2, -, -, a, -, -, -, g6, g9, -⟩ := G
  have n1 : NF x (wI x 2 3 k) := ⟨fun j hj => by rw [wI_at, if_neg (by omega)], Fp.wI (by omega) (by omega) _ _⟩
  have n2 : NF x (wI (wI x 2 3 k) 2 4 (rI (wI x 2 3 k) 2 6)) := n1.trans ⟨fun j hj => by rw [wI_at, if_neg (by omega)], Fp.wI (by omega) (by omega) _ _⟩
  have m1 : AF y (wI y 298 12 k) := ⟨fun j hj => by rw [wI_at, if_neg (by omega)], rfl, Fp.wI (by omega) (by omega) _ _⟩
  have m2 : AF y (wI (wI y 298 12 k) 298 13 (rI (wI y 298 12 k) 298 9)) := m1.trans ⟨fun j hj => by rw [wI_at, if_neg (by omega)], rfl, Fp.wI (by omega) (by omega) _ _⟩
  refine Ok2_e (u := wI (wI x 2 3 k) 2 4 (rI (wI x 2 3 k) 2 6)) (v := wI (wI y 298 12 k) 298 13 (rI (wI y 298 12 k) 298 9)) ?_ ?_ ⟨K.nf n2, M.af m2, ⟨?_, ?_, ?_⟩, n2, m2⟩
  · unfold Re_fail
    rw [if_pos (show rI x 2 3 = 0 from g1)]
    rfl
  · unfold Mo_errs Mo_good
    rw [if_pos (show rI y 298 12 = 0 from g2), bind_s, if_neg (by decide)]
    rfl
  · rw [wI_at, if_neg (by decide), wI_self]
    exact hk
  · rw [wI_at, if_neg (by decide), wI_self, wI_at, if_neg (by decide), wI_self]
  · rw [wI_self, wI_self]
    show (wI y 298 12 k).1 298 9 = (wI x 2 3 k).1 2 6
    rw [wI_at, if_neg (by decide), wI_at, if_neg (by decide), g9, g6]
theorem Mo_good_g (G : GS L T lb x y) : Mo_good 298 y = some 1 := if_pos G.2.1
theorem Mo_good_b (B : BS x y) : Mo_good 298 y = some 0 := if_neg B.nz
theorem fail_b (B : BS x y) (k : Int32) : Re_fail 2 k x = some x ∧ Mo_errs 298 k y = some y := by
  constructor
  · exact if_neg B.1
  · unfold Mo_errs
    rw [Mo_good_b B, bind_s, if_pos rfl]
/-- the next token on both -/
theorem next2 (hT : TB L T) (K : CK L T x) (M : MK L T y) (G : GS L T lb x y) : Ok2 (Re_next 2 x) (Mo_advance 298 y) (fun x' y' => CK L T x' ∧ MK L T y' ∧ GS L T lb x' y' ∧ NX x x' ∧ AX y y') := by
  obtain ⟨g1, g2, g3, g4, a, ⟨ha, hlb⟩, g5, g8, g6, g9, g7, g10, gn⟩ := G
  have e := tkE_le (T := T) ha
  have ab := tkA_le (T := T) e.2
  refine Ok2_of (Re_next_e hT K g5 e.2) (Mo_advance_e hT M g8 e.2) (fun x' y' ⟨p1, p2, p3, p4, p5⟩ ⟨q1, q2, q3, q4, q5⟩ => ⟨K.nx p5, M.ax q5, ⟨?_, ?_, ?_, ?_, _, ⟨ab.2, by omega⟩, p1, q1, p2, q2, p3, q3, fun z => ⟨p4 z, q4 z⟩⟩, p5, q5⟩)
  · rw [p5.1 3 (by omega), g1]
  · rw [q5.1 12 (by omega), g2]
  · rw [p5.1 4 (by omega), g3]
  · rw [q5.1 13 (by omega), g4]
theorem next3 (hT : TB L T) (K : CK L T x) (M : MK L T y) (G : GS L T lb x y) (h7 : x.1 2 7 ≠ 0) : Ok2 (Re_next 2 x) (Mo_advance 298 y) (fun x' y' => CK L T x' ∧ MK L T y' ∧ GS L T (lb + 1) x' y' ∧ NX x x' ∧ AX y y') := by
  obtain ⟨g1, g2, g3, g4, a, ⟨ha, hlb⟩, g5, g8, g6, g9, g7, g10, gn⟩ := G
  have e := tkE_le (T := T) ha
  have ab := tkA_le (T := T) e.2
  have t0 : tkT L T a ≠ 0 := fun z => h7 (by rw [g7, z]; rfl)
  have e1 : a + 1 ≤ tkE L T a := by
    unfold tkE
    rw [if_neg t0]
    split
    · have : 0 < tkR L T a := by
        unfold tkR
        rw [show L - a = L - a - 1 + 1 by have := lt_in t0; omega]
        unfold cnN
        rw [if_pos rfl]
        omega
      omega
    · omega
  refine Ok2_of (Re_next_e hT K g5 e.2) (Mo_advance_e hT M g8 e.2) (fun x' y' ⟨p1, p2, p3, p4, p5⟩ ⟨q1, q2, q3, q4, q5⟩ => ⟨K.nx p5, M.ax q5, ⟨?_, ?_, ?_, ?_, _, ⟨ab.2, by omega⟩, p1, q1, p2, q2, p3, q3, fun z => ⟨p4 z, q4 z⟩⟩, p5, q5⟩)
  · rw [p5.1 3 (by omega), g1]
  · rw [q5.1 12 (by omega), g2]
  · rw [p5.1 4 (by omega), g3]
  · rw [q5.1 13 (by omega), g4]
/-! words -/
theorem words : ∀ j, j < 32 → 1 ≤ sLen (1000 + j) ∧ sLen (1000 + j) ≤ 8 ∧ ∀ i, i < sLen (1000 + j) → ∃ c, c < 128 ∧ sCh (1000 + j) i = nI c := by
  have h : ∀ j, j < 32 → 1 ≤ sLen (1000 + j) ∧ sLen (1000 + j) ≤ 8 ∧ ∀ i, i < sLen (1000 + j) → ix (sCh (1000 + j) i) < 128 ∧ sCh (1000 + j) i = nI (ix (sCh (1000 + j) i)) := by decide +kernel
  exact fun j hj => ⟨(h j hj).1, (h j hj).2.1, fun i hi => ⟨_, ((h j hj).2.2 i hi).1, ((h j hj).2.2 i hi).2⟩⟩
theorem raw_t : ∀ k, k < 128 → (nI k - 128) &&& 255 = nI (k + 128) := by decide +kernel
theorem raw_u : ∀ k, k < 128 → nI k &&& 255 = nI k := by decide +kernel
theorem raw {v : Int32} (h1 : -128 ≤ v.toInt) (h2 : v.toInt ≤ 127) {c : Nat} (hc : c < 128) : v = nI c ↔ v &&& 255 = nI c := by
  by_cases h : 0 ≤ v.toInt
  · have e : v = nI v.toInt.toNat := Int32.toInt_inj.mp (by rw [nI_toInt (by omega)]; omega)
    rw [e, raw_u _ (by omega)]
  · have e : v = nI (v.toInt + 128).toNat - 128 := Int32.toInt_inj.mp (by
      rw [show (128 : Int32) = nI 128 from rfl, pk_sub_toInt (by omega) (by decide)]
      omega)
    have ev := raw_t (v.toInt + 128).toNat (by omega)
    rw [← e] at ev
    rw [ev]
    constructor
    · intro z
      rw [z, nI_toInt (by omega)] at h
      omega
    · intro z
      have := (nI_eq (by omega) (by omega)).mp z
      omega
theorem not_all {n : Nat} {P : Nat → Prop} (h : ¬ ∀ i, i < n → P i) : ∃ i, i < n ∧ ¬ P i :=
  Classical.byContradiction (fun q => h (fun i hi => Classical.byContradiction (fun z => q ⟨i, hi, z⟩)))
def wdP (L : Nat) (T : Nat → Int32) (a w : Nat) : Prop := tkT L T a = 1 ∧ tkE L T a - a = sLen w ∧ ∀ i, i < sLen w → bt L T (a + i) = sCh w i
noncomputable def wdB (L : Nat) (T : Nat → Int32) (a w : Nat) : Int32 := @ite _ (wdP L T a w) (Classical.propDecidable _) 1 0
theorem wdB_t (h : wdP L T a w) : wdB L T a w = 1 := by
  unfold wdB
  exact @if_pos _ (Classical.propDecidable _) h _ _ _
theorem wdB_f (h : ¬ wdP L T a w) : wdB L T a w = 0 := by
  unfold wdB
  exact @if_neg _ (Classical.propDecidable _) h _ _ _
theorem wdB_z : isZ (wdB L T a w) := by
  by_cases h : wdP L T a w
  · rw [wdB_t h]; decide
  · rw [wdB_f h]; decide
theorem ltn (L : Nat) (T : Nat → Int32) {a : Nat} (ha : a ≤ L) : tkE L T a - a < 2147483648 ∨ ¬ L ≤ 1600 := by
  have := tkE_le (T := T) ha
  omega
theorem Re_is_e (hT : TB L T) (K : CK L T x) {j : Nat} (hj : j < 32) (ha : a ≤ L) (h5 : x.1 2 5 = nI (tkE L T a)) (h6 : x.1 2 6 = nI a) (h7 : x.1 2 7 = nI (tkT L T a)) : Re_is 2 (1000 + j) x = some (wdB L T a (1000 + j)) := by
  obtain ⟨w1, w2, w3⟩ := words j hj
  have hL := hT.1
  have e := tkE_le (T := T) ha
  have t4 := tk4 L T a
  unfold Re_is
  rw [show rI x 2 7 = nI (tkT L T a) from h7, show rI x 2 5 = nI (tkE L T a) from h5, show rI x 2 6 = nI a from h6, pk_sub e.1]
  by_cases t1 : tkT L T a = 1
  · rw [if_pos (by rw [t1]; rfl)]
    unfold S_length
    rw [bind_s]
    by_cases t2 : tkE L T a - a = sLen (1000 + j)
    · rw [if_pos (congrArg nI t2)]
      have step : ∀ i, i < sLen (1000 + j) → Re_is_l28 2 (1000 + j) (nI i) x = if bt L T (a + i) = sCh (1000 + j) i then some (.inl (nI (i + 1))) else some (.inr 0) := by
        intro i hi
        unfold Re_is_l28 S_length S_charAt
        rw [bind_s, if_neg (nI_ge hi (by omega)), show rI x 2 6 = nI a from h6, nI_add, Re_byteAt_e hT K (by omega), bind_s, gd_in hi (by omega), bind_s, ix_nI (by omega), nI_1, up_some]
      by_cases t3 : ∀ i, i < sLen (1000 + j) → bt L T (a + i) = sCh (1000 + j) i
      · rw [wdB_t ⟨t1, t2, t3⟩]
        refine loop_cnt (sLen (1000 + j)) (fun i => nI i) rfl (fun i hi => ?_) ?_
        · rw [step i hi, if_pos (t3 i hi)]
        · show Re_is_l28 2 (1000 + j) (nI (sLen (1000 + j))) x = _
          unfold Re_is_l28 S_length
          rw [bind_s, if_pos (nI_le (Nat.le_refl _) (by omega)), up_some]
      · rw [wdB_f (fun z => t3 z.2.2)]
        obtain ⟨i, hi, hq⟩ := not_all t3
        obtain ⟨i0, ⟨c1, c2⟩, c3⟩ := pk_least (fun i => i < sLen (1000 + j) ∧ ¬ bt L T (a + i) = sCh (1000 + j) i) ⟨i, hi, hq⟩
        refine loop_cnt i0 (fun i => nI i) rfl (fun i hi => ?_) ?_
        · rw [step i (by omega), if_pos (Classical.byContradiction (fun z => c3 i hi ⟨by omega, z⟩))]
        · rw [step i0 c1, if_neg c2]
    · rw [if_neg (fun z => t2 ((nI_eq (by omega) (by omega)).mp z)), wdB_f (fun z => t2 z.2.1)]
  · rw [if_neg (show ¬ nI (tkT L T a) = (1 : Int32) from fun z => t1 ((nI_eq (b := 1) (by omega) (by decide)).mp z)), wdB_f (fun z => t1 z.1)]
theorem Mo_is_e (hT : TB L T) (M : MK L T y) {j : Nat} (hj : j < 32) (ha : a ≤ L) (h12 : y.1 298 12 = 0) (h8 : y.1 298 8 = nI (tkE L T a)) (h9 : y.1 298 9 = nI a) (h10 : y.1 298 10 = nI (tkT L T a)) : Mo_is 298 (1000 + j) y = some (wdB L T a (1000 + j)) := by
  obtain ⟨w1, w2, w3⟩ := words j hj
  have hL := hT.1
  have e := tkE_le (T := T) ha
  have t4 := tk4 L T a
  have z0 : Mo_is_b35 298 (1000 + j) y = some 0 := by
    unfold Mo_is_b35 Mo_is_b36
    refine loop_out ?_
    show Mo_is_l39 298 (1000 + j) 0 0 y = _
    unfold Mo_is_l39 S_length
    rw [bind_s, if_pos (show (0 : Int32) = 0 from rfl), gd_t (by decide), up_some, ite_self]
  unfold Mo_is Mo_good
  rw [if_pos (show rI y 298 12 = 0 from h12), bind_s, if_neg (by decide), z0, show rI y 298 10 = nI (tkT L T a) from h10, show rI y 298 8 = nI (tkE L T a) from h8, show rI y 298 9 = nI a from h9, pk_sub e.1]
  by_cases t1 : tkT L T a = 1
  · rw [if_pos (by rw [t1]; rfl)]
    unfold S_length
    rw [bind_s]
    by_cases t2 : tkE L T a - a = sLen (1000 + j)
    · rw [if_pos (congrArg nI t2)]
      have step : ∀ i, i < sLen (1000 + j) → Mo_is_l39 298 (1000 + j) 1 (nI i) y = some (.inl (if bt L T (a + i) = sCh (1000 + j) i then 1 else 0, nI (i + 1))) := by
        intro i hi
        obtain ⟨c, hc, ec⟩ := w3 i hi
        have rr := hT.2 (a + i) (by omega)
        have eq : (T (a + i) = sCh (1000 + j) i) ↔ bt L T (a + i) = sCh (1000 + j) i := by
          rw [bt_i (by omega), ec]
          exact raw rr.1 rr.2 hc
        unfold Mo_is_l39 S_length S_charAt Mo_is_b75
        rw [bind_s, if_neg (nI_ge hi (by omega)), if_neg (by decide), show rI y 298 9 = nI a from h9, nI_add, gd_in (by omega) (by decide), gd_in hi (by omega), bind_s, ix_nI (by omega), ix_nI (by omega), nI_1, show rI y (298 + 4) (a + i) = T (a + i) from M.2 _ (by omega)]
        by_cases q : bt L T (a + i) = sCh (1000 + j) i
        · rw [if_pos (eq.mpr q), if_pos q]
        · rw [if_neg (fun z => q (eq.mp z)), if_neg q]
      unfold Mo_is_b36
      by_cases t3 : ∀ i, i < sLen (1000 + j) → bt L T (a + i) = sCh (1000 + j) i
      · rw [wdB_t ⟨t1, t2, t3⟩]
        refine loop_cnt (sLen (1000 + j)) (fun i => ((1 : Int32), nI i)) rfl (fun i hi => ?_) ?_
        · show Mo_is_l39 298 (1000 + j) 1 (nI i) y = _
          rw [step i hi, if_pos (t3 i hi)]
        · show Mo_is_l39 298 (1000 + j) 1 (nI (sLen (1000 + j))) y = _
          unfold Mo_is_l39 S_length
          rw [bind_s, if_pos (nI_le (Nat.le_refl _) (by omega)), gd_t (by decide), up_some]
      · rw [wdB_f (fun z => t3 z.2.2)]
        obtain ⟨i, hi, hq⟩ := not_all t3
        obtain ⟨i0, ⟨c1, c2⟩, c3⟩ := pk_least (fun i => i < sLen (1000 + j) ∧ ¬ bt L T (a + i) = sCh (1000 + j) i) ⟨i, hi, hq⟩
        refine loop_cnt (i0 + 1) (fun i => ((if i = i0 + 1 then 0 else 1 : Int32), nI i)) (by rw [if_neg (by omega)]; rfl) (fun i hi => ?_) ?_
        · show Mo_is_l39 298 (1000 + j) (if i = i0 + 1 then 0 else 1) (nI i) y = _
          rw [if_neg (by omega), step i (by omega)]
          by_cases z : i = i0
          · rw [if_neg (by rw [z]; exact c2), if_pos (by omega)]
          · rw [if_pos (Classical.byContradiction (fun q => c3 i (by omega) ⟨by omega, q⟩)), if_neg (by omega)]
        · show Mo_is_l39 298 (1000 + j) (if i0 + 1 = i0 + 1 then 0 else 1) (nI (i0 + 1)) y = _
          unfold Mo_is_l39 S_length
          rw [if_pos rfl, bind_s, if_pos (show (0 : Int32) = 0 from rfl), gd_t (by decide), up_some, ite_self]
    · rw [if_neg (fun z => t2 ((nI_eq (by omega) (by omega)).mp z)), wdB_f (fun z => t2 z.2.1)]
  · rw [if_neg (show ¬ nI (tkT L T a) = (1 : Int32) from fun z => t1 ((nI_eq (b := 1) (by omega) (by decide)).mp z)), wdB_f (fun z => t1 z.1)]
theorem Mo_is_b (B : BS x y) (w : Nat) : Mo_is 298 w y = some 0 := by
  unfold Mo_is
  rw [Mo_good_b B, bind_s, if_pos rfl]
  unfold Mo_is_b35 Mo_is_b36
  refine loop_out ?_
  show Mo_is_l39 298 w 0 0 y = _
  unfold Mo_is_l39 S_length
  rw [bind_s, if_pos (show (0 : Int32) = 0 from rfl), gd_t (by decide), up_some, ite_self]
/-- a word that is there, or not, on both -/
theorem is2 (hT : TB L T) (K : CK L T x) (M : MK L T y) (G : GS L T lb x y) {j : Nat} (hj : j < 32) : ∃ r : Int32, isZ r ∧ Re_is 2 (1000 + j) x = some r ∧ Mo_is 298 (1000 + j) y = some r := by
  obtain ⟨g1, g2, g3, g4, a, ⟨ha, hlb⟩, g5, g8, g6, g9, g7, g10, gn⟩ := G
  exact ⟨_, wdB_z, Re_is_e hT K hj ha g5 g6 g7, Mo_is_e hT M hj ha g2 g8 g9 g10⟩
def R2 (L : Nat) (T : Nat → Int32) (lb : Nat) (x y x' y' : Mem) (P : Prop) : Prop := CK L T x' ∧ MK L T y' ∧ NF x x' ∧ AF y y' ∧ (BS x y → BS x' y') ∧ ((GS L T lb x' y' ∧ P) ∨ BS x' y')
theorem takes2 (hT : TB L T) (K : CK L T x) (M : MK L T y) (G : GS L T lb x y) {j : Nat} (hj : j < 32) : ∃ r : Int32, isZ r ∧ Re_is 2 (1000 + j) x = some r ∧ (r ≠ 0 → Ok2 (Re_next 2 x) (Mo_takes 298 (1000 + j) y) (fun x' q => q.1 = r ∧ CK L T x' ∧ MK L T q.2 ∧ GS L T lb x' q.2 ∧ NX x x' ∧ AX y q.2)) ∧ (r = 0 → Mo_takes 298 (1000 + j) y = some (0, y)) := by
  obtain ⟨r, hz, e1, e2⟩ := is2 hT K M G hj
  refine ⟨r, hz, e1, fun h => ?_, fun h => ?_⟩
  · obtain ⟨x', y', f1, f2, p⟩ := next2 hT K M G
    refine Ok2_e (u := x') (v := (r, y')) f1 ?_ ⟨rfl, p⟩
    unfold Mo_takes
    rw [e2, bind_s, if_neg h, f2, bind_s, gd_t hz]
  · unfold Mo_takes
    rw [e2, bind_s, if_pos h, gd_t hz, h]
theorem take2 (hT : TB L T) (R : RX L T lb x y) {j : Nat} (hj : j < 32) : Ok2 (Re_take 2 (1000 + j) x) (Mo_needs 298 (1000 + j) y) (fun x' y' => R2 L T lb x y x' y' True) := by
  obtain ⟨K, M, G | B⟩ := R
  · obtain ⟨r, hz, e1, p, q⟩ := takes2 hT K M G hj
    unfold Re_take Mo_needs
    rw [if_pos (show rI x 2 3 = 0 from G.1), e1, bind_s]
    by_cases h : r = 0
    · rw [if_pos h, q h, bind_s, if_pos rfl]
      obtain ⟨x', y', f1, f2, k1, k2, k3, k4, k5⟩ := fail2 K M G 1 (by decide)
      rw [f1, bind_s, f2, bind_s]
      exact Ok2_s ⟨k1, k2, k4, k5, fun B => absurd G.1 B.1, Or.inr k3⟩
    · obtain ⟨x', v, f1, f2, k0, k1, k2, k3, k4, k5⟩ := p h
      rw [if_neg h, f1, bind_s, f2, bind_s, if_neg (by rw [k0]; exact h)]
      exact Ok2_s ⟨k1, k2, k4.f, k5.f, fun B => absurd G.1 B.1, Or.inl ⟨k3, trivial⟩⟩
  · unfold Re_take Mo_needs Mo_takes
    rw [if_neg (show ¬ rI x 2 3 = 0 from B.1), Mo_is_b B, bind_s, if_pos rfl, gd_t (by decide), bind_s, if_pos rfl, (fail_b B 1).2, bind_s]
    exact Ok2_s ⟨K, M, NF.refl, AF.refl, fun _ => B, Or.inr B⟩
/-- a number on both -/
def R3 (L : Nat) (T : Nat → Int32) (lb : Nat) (lo hi : Nat) (x y : Mem) (u v : Int32 × Mem) : Prop := CK L T u.2 ∧ MK L T v.2 ∧ NF x u.2 ∧ AF y v.2 ∧ (BS x y → BS u.2 v.2) ∧ ((GS L T lb u.2 v.2 ∧ ∃ n, lo ≤ n ∧ n ≤ hi ∧ u.1 = nI n ∧ v.1 = nI n) ∨ BS u.2 v.2)
theorem num2 (hT : TB L T) (R : RX L T lb x y) {lo hi : Nat} (h1 : lo ≤ 9999) (h2 : hi ≤ 9999) : Ok2 (Re_takeNumber 2 (nI lo) (nI hi) x) (Mo_number 298 (nI lo) (nI hi) y) (R3 L T lb lo hi x y) := by
  obtain ⟨K, M, G | B⟩ := R
  · obtain ⟨g1, g2, g3, g4, a, ⟨ha, hlb⟩, g5, g8, g6, g9, g7, g10, gn⟩ := id G
    have t4 := tk4 L T a
    unfold Re_takeNumber Re_takeNumber_b40 Mo_number Mo_number_b20
    rw [if_pos (show rI x 2 3 = 0 from g1), Mo_good_g G, bind_s, if_neg (show ¬ (1 : Int32) = 0 by decide), bind_s, if_neg (show ¬ (1 : Int32) = 0 by decide), show rI x 2 7 = nI (tkT L T a) from g7, show rI y 298 10 = nI (tkT L T a) from g10]
    by_cases t2 : tkT L T a = 2
    · obtain ⟨gn1, gn2⟩ := gn t2
      have nl := nm_le L T 1000000 a (tkE L T a - a)
      have nt := nm_two L T a (tkE L T a - a)
      have e2 : nI (tkT L T a) = (2 : Int32) := by rw [t2]; rfl
      rw [if_pos e2, if_pos e2, show rI x 2 8 = _ from gn1, show rI y 298 11 = _ from gn2, Mo_in_g y _ (nI lo) (nI hi) rfl rfl, bind_s, ite_b2]
      by_cases q1 : nmN L T 1000000 a (tkE L T a - a) < lo
      · rw [if_pos (nI_lt q1 (by omega)), if_neg (fun z => by have := (nI_leI (by omega) (by omega)).mp z.1; omega)]
        obtain ⟨x', y', f1, f2, k1, k2, k3, k4, k5⟩ := fail2 K M G 2 (by decide)
        rw [f1, bind_s, f2, bind_s]
        unfold Mo_number_b47
        rw [Mo_good_b k3, bind_s, if_pos rfl]
        exact Ok2_s ⟨k1, k2, k4, k5, fun B => absurd G.1 B.1, Or.inr k3⟩
      · rw [if_neg (nI_nlt (by omega) (by omega))]
        by_cases q2 : nmN L T 1000000 a (tkE L T a - a) ≤ hi
        · rw [if_pos (nI_le q2 (by omega)), if_pos ⟨nI_le (by omega) (by omega), nI_le (by omega) (by omega)⟩]
          obtain ⟨x', y', f1, f2, k1, k2, k3, k4, k5⟩ := next2 hT K M G
          unfold Mo_number_b47
          rw [f1, bind_s, Mo_good_g G, bind_s, if_neg (by decide), f2, bind_s, show rI y 298 11 = _ from gn2]
          refine Ok2_s ⟨k1, k2, k4.f, k5.f, fun B => absurd G.1 B.1, Or.inl ⟨k3, _, by omega, q2, rfl, ?_⟩⟩
          exact congrArg nI (by omega)
        · rw [if_neg (nI_ge (by omega) (by omega)), if_neg (fun z => by have := (nI_leI (by omega) (by omega)).mp z.2; omega)]
          obtain ⟨x', y', f1, f2, k1, k2, k3, k4, k5⟩ := fail2 K M G 2 (by decide)
          rw [f1, bind_s, f2, bind_s]
          unfold Mo_number_b47
          rw [Mo_good_b k3, bind_s, if_pos rfl]
          exact Ok2_s ⟨k1, k2, k4, k5, fun B => absurd G.1 B.1, Or.inr k3⟩
    · have ne : ¬ nI (tkT L T a) = (2 : Int32) := fun z => t2 ((nI_eq (b := 2) (by omega) (by decide)).mp z)
      rw [if_neg ne, if_neg ne]
      obtain ⟨x', y', f1, f2, k1, k2, k3, k4, k5⟩ := fail2 K M G 1 (by decide)
      rw [f1, bind_s, f2, bind_s, Mo_good_b k3, bind_s, if_pos rfl]
      unfold Mo_number_b47
      rw [Mo_good_b k3, bind_s, if_pos rfl]
      exact Ok2_s ⟨k1, k2, k4, k5, fun B => absurd G.1 B.1, Or.inr k3⟩
  · unfold Re_takeNumber Mo_number Mo_number_b20 Mo_number_b47
    rw [if_neg (show ¬ rI x 2 3 = 0 from B.1), Mo_good_b B, bind_s, if_pos rfl, bind_s, if_pos rfl, bind_s, if_pos rfl]
    exact Ok2_s ⟨K, M, NF.refl, AF.refl, fun _ => B, Or.inr B⟩
theorem named2 (hT : TB L T) (R : RX L T lb x y) {j : Nat} (hj : j < 32) {lo hi : Nat} (h1 : lo ≤ 9999) (h2 : hi ≤ 9999) : Ok2 (Re_named 2 (1000 + j) (nI lo) (nI hi) x) (Mo_told 298 (1000 + j) (nI lo) (nI hi) y) (R3 L T lb lo hi x y) := by
  unfold Re_named Mo_told
  refine Ok2_bind (take2 hT R hj) (fun x' y' ⟨K, M, n, a, hb, h⟩ => ?_)
  refine Ok2_bind (num2 hT ⟨K, M, h.imp (fun z => z.1) id⟩ h1 h2) (fun u v ⟨K2, M2, n2, a2, hb2, h3⟩ => Ok2_s ⟨K2, M2, n.trans n2, a.trans a2, fun B => hb2 (hb B), h3⟩)
end WD
end WORDS
