/-! the bits of a place; pieces -/
section PC
variable {W : Wd}
def byB (W : Wd) (x y : Int32) (k : Nat) : Bool := decide (nI (wcr W k 1) ≤ if wcr W k 0 = 1 then y else x)
def byN (W : Wd) (x y : Int32) : Nat := bsN (byB W x y) (W 5)
def alN (W : Wd) : Nat := bsN (fun k => decide (wcr W k 0 = 1)) (W 5)
theorem by_lt (I : Inv W) (x y : Int32) : byN W x y < 128 := by
  have d := I.d
  have := bs_lt (byB W x y) (W 5)
  have := p2le (k := W 5) (n := 7) (by omega)
  unfold byN
  omega
theorem al_lt (I : Inv W) : alN W < 128 := by
  have d := I.d
  have := bs_lt (fun k => decide (wcr W k 0 = 1)) (W 5)
  have := p2le (k := W 5) (n := 7) (by omega)
  unfold alN
  omega
theorem byB_n (I : Inv W) {k x y : Nat} (hk : k < W 5) (hx : x < 2147483648) (hy : y < 2147483648) : byB W (nI x) (nI y) k = decide (wcr W k 1 ≤ sdN W k x y) := by
  obtain ⟨c0, c1, c2, c3, -⟩ := I.C hk
  have d := I.d
  unfold byB sdN
  by_cases h : wcr W k 0 = 0
  · rw [if_neg (by omega), if_pos h]
    simp only [nI_leI (show wcr W k 1 < 2147483648 by omega) hx]
  · rw [if_pos (by omega), if_neg h]
    simp only [nI_leI (show wcr W k 1 < 2147483648 by omega) hy]
section BY
variable {m : Mem} {c : Nat}
theorem Fl_beyond_e (R : CR m c W) (I : Inv W) (x y : Int32) : Fl_beyond (c + 1) x y m = some (nI (byN W x y)) := by
  have d := I.d
  unfold Fl_beyond
  refine loop_cnt (W 5) (fun i => (nI (bsN (byB W x y) i), nI i)) rfl (fun k hk => ?_) ?_
  · obtain ⟨c0, c1, c2, c3, -⟩ := I.C hk
    have key : ∀ z : Int32, z = (if wcr W k 0 = 1 then y else x) → Fl_beyond_b36 (c + 1) x y (nI (bsN (byB W x y) k)) (nI k) z m = some (.inl (nI (bsN (byB W x y) (k + 1)), nI (k + 1))) := by
      intro z hz
      unfold Fl_beyond_b36 Fl_beyond_b60
      rw [tC1 R I hk, bind_s]
      by_cases q : z < nI (wcr W k 1)
      · have : byB W x y k = false := by
          unfold byB
          rw [← hz]
          simpa using Int32.not_le.mpr q
        rw [if_pos q, bsN_s, this, if_neg (by decide), Nat.or_zero, nI_1]
      · have : byB W x y k = true := by
          unfold byB
          rw [← hz]
          simpa using Int32.not_lt.mp q
        rw [if_neg q, bsN_s, this, if_pos rfl, shl1 (by omega), nI_or, nI_1]
    show Fl_beyond_l5 (c + 1) x y (nI (bsN (byB W x y) k)) (nI k) m = _
    unfold Fl_beyond_l5
    rw [cnC R, if_neg (nI_ge hk (by omega)), tC0 R I hk, bind_s]
    by_cases h : wcr W k 0 = 1
    · rw [h, if_pos (by decide), key y (by rw [if_pos h])]
    · rw [show wcr W k 0 = 0 by omega, if_neg (by decide), key x (by rw [if_neg h])]
  · show Fl_beyond_l5 (c + 1) x y (nI (bsN (byB W x y) (W 5))) (nI (W 5)) m = _
    unfold Fl_beyond_l5
    rw [cnC R, if_pos (nI_le (Nat.le_refl _) (by omega)), up_some]
    rfl
theorem Fl_alongs_e (R : CR m c W) (I : Inv W) : Fl_alongs (c + 1) m = some (nI (alN W)) := by
  have d := I.d
  unfold Fl_alongs
  refine loop_cnt (W 5) (fun i => (nI (bsN (fun k => decide (wcr W k 0 = 1)) i), nI i)) rfl (fun k hk => ?_) ?_
  · obtain ⟨c0, c1, c2, c3, -⟩ := I.C hk
    show Fl_alongs_l4 (c + 1) (nI (bsN (fun k => decide (wcr W k 0 = 1)) k)) (nI k) m = _
    unfold Fl_alongs_l4
    rw [cnC R, if_neg (nI_ge hk (by omega)), tC0 R I hk, bind_s, bsN_s]
    by_cases h : wcr W k 0 = 1
    · rw [if_pos (by simpa using h), h, show (nI 1 : Int32) <<< (nI k &&& 31) = nI (2 ^ k) from shl1 (by omega), nI_or, nI_1]
    · rw [if_neg (by simpa using h), show wcr W k 0 = 0 by omega, pk_shlN (n := 0) (nI k &&& 31) k (s_l k (by omega)) (by rw [Nat.zero_mul]; decide), Nat.zero_mul, nI_or, nI_1]
  · show Fl_alongs_l4 (c + 1) (nI (bsN (fun k => decide (wcr W k 0 = 1)) (W 5))) (nI (W 5)) m = _
    unfold Fl_alongs_l4
    rw [cnC R, if_pos (nI_le (Nat.le_refl _) (by omega)), up_some]
    rfl
theorem Fl_tells_e (R : CR m c W) (I : Inv W) {k : Nat} (hk : k ≤ 3) : Fl_tells (c + 1) (nI k) m = some (b2 (toldN W k)) := by
  have d := I.d
  unfold Fl_tells
  have step : ∀ i, i < W 6 → Fl_tells_l2 (c + 1) (nI k) (nI i) m = if wso W i 0 = k then some (.inr 1) else some (.inl (nI (i + 1))) := by
    intro i hi
    obtain ⟨s0, -⟩ := I.S hi
    unfold Fl_tells_l2
    rw [cnT R, if_neg (nI_ge hi (by omega)), tT0 R I hi, bind_s]
    by_cases e : wso W i 0 = k
    · rw [if_pos (congrArg nI e), if_pos e, up_some]
    · rw [if_neg (fun q => e ((nI_eq (by omega) (by omega)).mp q)), if_neg e, nI_1]
  have key := loop_find (b := fun s : Int32 => Fl_tells_l2 (c + 1) (nI k) s m) (W 6) (fun i => nI i) (fun i => wso W i 0 = k) (1 : Int32) (0 : Int32) rfl (fun i hi hp => ?_) (fun i hi hp => ?_) ?_
  · by_cases h : toldN W k
    · rw [show loop _ (0 : Int32) = _ from key.1 (toldN_iff.mp h), b2_t h]
    · rw [show loop _ (0 : Int32) = _ from key.2 (fun q => h (toldN_iff.mpr q)), b2_f h]
  · show Fl_tells_l2 (c + 1) (nI k) (nI i) m = _
    rw [step i hi, if_pos hp]
  · show Fl_tells_l2 (c + 1) (nI k) (nI i) m = _
    rw [step i hi, if_neg hp]
  · show Fl_tells_l2 (c + 1) (nI k) (nI (W 6)) m = _
    unfold Fl_tells_l2
    rw [cnT R, if_pos (nI_le (Nat.le_refl _) (by omega)), up_some]
theorem Ca_givenBy_e (R : CR m c W) (I : Inv W) {h k : Nat} (hh : h < 8) (hk : k ≤ 3) : Ca_givenBy c (nI h) (nI k) m = some (nI (givesN W h k)) := by
  have d := I.d
  unfold Ca_givenBy
  refine loop_sum (W 6) (fun s => if wso W s 0 = k then whe W h (3 + s) * wso W s 1 else 0) (fun a => nI a) (fun s a hs ha => ?_) (fun a ha => ?_)
  · obtain ⟨s0, -⟩ := I.S hs
    unfold Ca_givenBy_l5 Ca_givenBy_b61
    rw [cnS R, if_neg (nI_ge hs (by omega)), tS0 R I hs, bind_s]
    by_cases e : wso W s 0 = k
    · rw [if_pos (congrArg nI e), Ca_unitsIn_e R hh (by omega), bind_s, tS1 R I hs, bind_s, if_pos e, pk_mul, nI_add, nI_1]
    · rw [if_neg (fun q => e ((nI_eq (by omega) (by omega)).mp q)), if_neg e, nI_1]
      rfl
  · unfold Ca_givenBy_l5
    rw [cnS R, if_pos (nI_le (Nat.le_refl _) (by omega)), up_some]
end BY
/-- bits of a set alone -/
theorem one_iff {s a b : Nat} (hs : s < 2147483648) (ha : a < 2147483648) (hb : b < 2147483648) : ((nI a ^^^ nI b) &&& nI s) = 0 ↔ ∀ k, s.testBit k = true → a.testBit k = b.testBit k := by
  rw [nI_xor, nI_and, show (0 : Int32) = nI 0 from rfl, nI_eq ?_ (by decide)]
  · constructor
    · intro h k hk
      have := congrArg (fun z => z.testBit k) h
      simp only [Nat.testBit_and, Nat.testBit_xor, hk, Nat.zero_testBit, Bool.and_true] at this
      revert this
      cases a.testBit k <;> cases b.testBit k <;> simp
    · intro h
      apply Nat.eq_of_testBit_eq
      intro k
      simp only [Nat.testBit_and, Nat.testBit_xor, Nat.zero_testBit]
      cases q : s.testBit k
      · simp
      · rw [h k q]; simp
  · exact Nat.lt_of_le_of_lt Nat.and_le_right hs
/-- how many cracks of a set, of a way, lie at or ahead of z -/
def kN (W : Wd) (set al z : Nat) : Nat := sN (fun k => if set.testBit k = true ∧ wcr W k 0 = al ∧ wcr W k 1 ≤ z then 1 else 0) (W 5)
theorem kN_le (W : Wd) (set al z : Nat) : kN W set al z ≤ W 5 := by
  have := sN_le (f := fun k => if set.testBit k = true ∧ wcr W k 0 = al ∧ wcr W k 1 ≤ z then 1 else 0) (c := 1) (n := W 5) (fun k _ => by split <;> omega)
  unfold kN
  omega
theorem sN_add (f g : Nat → Nat) : ∀ n, sN (fun i => f i + g i) n = sN f n + sN g n
  | 0 => rfl
  | n + 1 => by rw [sN_s, sN_s, sN_s, sN_add f g n]; omega
theorem sN_mul (c : Nat) (f : Nat → Nat) : ∀ n, sN (fun i => c * f i) n = c * sN f n
  | 0 => rfl
  | n + 1 => by rw [sN_s, sN_s, sN_mul c f n, Nat.mul_add]
theorem sN_mono {f g : Nat → Nat} : ∀ {n : Nat}, (∀ i, i < n → f i ≤ g i) → sN f n ≤ sN g n
  | 0, _ => Nat.le_refl _
  | n + 1, h => by
    have a := sN_mono (f := f) (g := g) (n := n) (fun i hi => h i (by omega))
    have b := h n (by omega)
    rw [sN_s, sN_s]; omega
theorem sN_eqs {f g : Nat → Nat} : ∀ {n : Nat}, (∀ i, i < n → f i ≤ g i) → sN f n = sN g n → ∀ i, i < n → f i = g i
  | 0, _, _, i, hi => by omega
  | n + 1, h, e, i, hi => by
    have a := sN_mono (f := f) (g := g) (n := n) (fun i hi => h i (by omega))
    have b := h n (by omega)
    rw [sN_s, sN_s] at e
    rcases Nat.lt_or_ge i n with q | q
    · exact sN_eqs (fun i hi => h i (by omega)) (by omega) i q
    · rw [show i = n by omega]; omega
theorem piece_k (I : Inv W) (set x y : Nat) : pieceN W set x y = kN W set 0 x + 8 * kN W set 1 y := by
  unfold pieceN kN
  rw [← sN_mul, ← sN_add]
  refine sN_cong (fun k hk => ?_)
  obtain ⟨c0, -⟩ := I.C hk
  unfold sdN
  rcases (show wcr W k 0 = 0 ∨ wcr W k 0 = 1 by omega) with h | h
  · simp only [h, if_true, true_and]
    split <;> simp
  · simp only [h, if_true, true_and, show ((1 : Nat) = 0) = False by simp, if_false]
    split <;> simp_all
theorem kN_iff (W : Wd) (set al z z' : Nat) : kN W set al z = kN W set al z' ↔ ∀ k, k < W 5 → set.testBit k = true → wcr W k 0 = al → (wcr W k 1 ≤ z ↔ wcr W k 1 ≤ z') := by
  have key : ∀ z z', z ≤ z' → kN W set al z = kN W set al z' → ∀ k, k < W 5 → set.testBit k = true → wcr W k 0 = al → (wcr W k 1 ≤ z ↔ wcr W k 1 ≤ z') := by
    intro z z' hz e k hk h1 h2
    have := sN_eqs (f := fun k => if set.testBit k = true ∧ wcr W k 0 = al ∧ wcr W k 1 ≤ z then 1 else 0) (g := fun k => if set.testBit k = true ∧ wcr W k 0 = al ∧ wcr W k 1 ≤ z' then 1 else 0) (n := W 5) (fun k _ => by
      by_cases q : set.testBit k = true ∧ wcr W k 0 = al ∧ wcr W k 1 ≤ z
      · rw [if_pos q, if_pos ⟨q.1, q.2.1, Nat.le_trans q.2.2 hz⟩]; omega
      · rw [if_neg q]; omega) e k hk
    simp only [h1, h2, true_and] at this
    constructor
    · intro q; omega
    · intro q
      apply Classical.byContradiction
      intro w
      rw [if_neg w, if_pos q] at this
      omega
  constructor
  · intro e
    rcases Nat.le_total z z' with q | q
    · exact key z z' q e
    · exact fun k a b c => (key z' z q e.symm k a b c).symm
  · intro h
    unfold kN
    refine sN_cong (fun k hk => ?_)
    by_cases q : set.testBit k = true ∧ wcr W k 0 = al
    · have := h k hk q.1 q.2
      simp only [q.1, q.2, true_and, this]
    · rw [if_neg (fun z => q ⟨z.1, z.2.1⟩), if_neg (fun z => q ⟨z.1, z.2.1⟩)]
/-- two places on one piece -/
theorem piece_iff (I : Inv W) (set x y x' y' : Nat) : pieceN W set x y = pieceN W set x' y' ↔ ∀ k, k < W 5 → set.testBit k = true → (wcr W k 1 ≤ sdN W k x y ↔ wcr W k 1 ≤ sdN W k x' y') := by
  have d := I.d
  have a1 := kN_le W set 0 x
  have a2 := kN_le W set 0 x'
  rw [piece_k I, piece_k I]
  constructor
  · intro e k hk h1
    have e0 : kN W set 0 x = kN W set 0 x' := by omega
    have e1 : kN W set 1 y = kN W set 1 y' := by omega
    obtain ⟨c0, -⟩ := I.C hk
    unfold sdN
    rcases (show wcr W k 0 = 0 ∨ wcr W k 0 = 1 by omega) with h | h
    · rw [if_pos h, if_pos h]
      exact (kN_iff W set 0 x x').mp e0 k hk h1 h
    · rw [if_neg (by omega), if_neg (by omega)]
      exact (kN_iff W set 1 y y').mp e1 k hk h1 h
  · intro h
    rw [(kN_iff W set 0 x x').mpr (fun k hk h1 h2 => by have := h k hk h1; unfold sdN at this; rwa [if_pos h2, if_pos h2] at this),
      (kN_iff W set 1 y y').mpr (fun k hk h1 h2 => by have := h k hk h1; unfold sdN at this; rwa [if_neg (by omega), if_neg (by omega)] at this)]
theorem set_lt (I : Inv W) {set : Nat} (h : set < 2 ^ W 5) : set < 128 := by
  have := p2le (k := W 5) (n := 7) I.d.2.2.2.2.1
  omega
theorem bit_W {set k : Nat} (h : set < 2 ^ W 5) (hk : set.testBit k = true) : k < W 5 := by
  apply Classical.byContradiction
  intro q
  rw [Nat.testBit_lt_two_pow (Nat.lt_of_lt_of_le h (p2le (by omega)))] at hk
  cases hk
/-- as the class asks it -/
theorem one_piece (I : Inv W) {set x y x' y' : Nat} (hs : set < 2 ^ W 5) (hx : x < 2147483648) (hy : y < 2147483648) (hx' : x' < 2147483648) (hy' : y' < 2147483648) : ((nI (byN W (nI x) (nI y)) ^^^ nI (byN W (nI x') (nI y'))) &&& nI set) = 0 ↔ pieceN W set x y = pieceN W set x' y' := by
  have h1 := set_lt I hs
  have h2 := by_lt I (nI x) (nI y)
  have h3 := by_lt I (nI x') (nI y')
  rw [one_iff (by omega) (by omega) (by omega), piece_iff I]
  constructor
  · intro h k hk q
    have := h k q
    unfold byN at this
    rw [bs_bit, bs_bit, byB_n I hk hx hy, byB_n I hk hx' hy'] at this
    simpa [hk] using this
  · intro h k q
    have hk := bit_W hs q
    have := h k hk q
    unfold byN
    rw [bs_bit, bs_bit, byB_n I hk hx hy, byB_n I hk hx' hy']
    simp only [hk, decide_true, Bool.true_and]
    simpa using this
theorem Ic_isOnePiece_e (m : Mem) (a b s : Int32) : Ic_isOnePiece s a b m = some (b2 (((a ^^^ b) &&& s) = 0)) := by
  unfold Ic_isOnePiece
  by_cases h : ((a ^^^ b) &&& s) = 0
  · rw [if_pos h, b2_t h]
  · rw [if_neg h, b2_f h]
end PC
