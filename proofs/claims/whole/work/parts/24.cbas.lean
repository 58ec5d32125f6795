/-! the class's camp at c stands for the world W -/
def fmap (j : Nat) : Nat := [1, 2, 3, 4, 0, 8, 9, 10, 11, 12, 13, 14, 15, 16, 17].getD j 0
def hxI (W : Wd) (h : Nat) : Int32 := if whe W h 0 = 1 then nI (whe W h 1) else -1
def CR (m : Mem) (c : Nat) (W : Wd) : Prop :=
  kd c = 1 ∧ (∀ j, j < 15 → m.1 (c + 1) j = nI (W (fmap j))) ∧ m.1 (c + 2) 1 = nI (W 5) ∧ m.1 (c + 11) 1 = nI (W 6) ∧ m.1 (c + 19) 1 = nI (W 7) ∧
  (∀ i j, i < W 5 → j < 7 → m.1 (c + 4 + i) j = nI (wcr W i j)) ∧ (∀ i j, i < W 6 → j < 4 → m.1 (c + 13 + i) j = nI (wso W i j)) ∧ (∀ i j, i < W 7 → j < 3 → m.1 (c + 21 + i) j = nI (wot W i j)) ∧
  (∀ h, h < 8 → m.1 (c + 25) h = hxI W h ∧ m.1 (c + 26) h = nI (whe W h 2)) ∧ (∀ h s, h < 8 → s < 6 → m.1 (c + 28 + h) s = nI (whe W h (3 + s))) ∧
  (∀ g, g < 4 → m.1 (c + 36) g = nI (wgr W g 0) ∧ m.1 (c + 37) g = nI (wgr W g 1) ∧ m.1 (c + 38) g = nI (wgr W g 2)) ∧ m.1 c 7 = nI (W 18) ∧ m.1 c 9 = nI (W 19) ∧ ∀ i, i < 7 → m.1 (c + 39) i = nI (wcr W i 7)
section CB
variable {m : Mem} {c : Nat} {W : Wd}
theorem CR.kd (R : CR m c W) : kd c = 1 := R.1
theorem CR.fl (R : CR m c W) {j : Nat} (h : j < 15) : m.1 (c + 1) j = nI (W (fmap j)) := R.2.1 j h
theorem CR.nC (R : CR m c W) : m.1 (c + 2) 1 = nI (W 5) := R.2.2.1
theorem CR.nS (R : CR m c W) : m.1 (c + 11) 1 = nI (W 6) := R.2.2.2.1
theorem CR.nO (R : CR m c W) : m.1 (c + 19) 1 = nI (W 7) := R.2.2.2.2.1
theorem CR.cr (R : CR m c W) {i j : Nat} (hi : i < W 5) (hj : j < 7) : m.1 (c + 4 + i) j = nI (wcr W i j) := R.2.2.2.2.2.1 i j hi hj
theorem CR.so (R : CR m c W) {i j : Nat} (hi : i < W 6) (hj : j < 4) : m.1 (c + 13 + i) j = nI (wso W i j) := R.2.2.2.2.2.2.1 i j hi hj
theorem CR.ot (R : CR m c W) {i j : Nat} (hi : i < W 7) (hj : j < 3) : m.1 (c + 21 + i) j = nI (wot W i j) := R.2.2.2.2.2.2.2.1 i j hi hj
theorem CR.hx (R : CR m c W) {h : Nat} (hh : h < 8) : m.1 (c + 25) h = hxI W h := (R.2.2.2.2.2.2.2.2.1 h hh).1
theorem CR.hy (R : CR m c W) {h : Nat} (hh : h < 8) : m.1 (c + 26) h = nI (whe W h 2) := (R.2.2.2.2.2.2.2.2.1 h hh).2
theorem CR.un (R : CR m c W) {h s : Nat} (hh : h < 8) (hs : s < 6) : m.1 (c + 28 + h) s = nI (whe W h (3 + s)) := R.2.2.2.2.2.2.2.2.2.1 h s hh hs
theorem CR.g0 (R : CR m c W) {g : Nat} (h : g < 4) : m.1 (c + 36) g = nI (wgr W g 0) := (R.2.2.2.2.2.2.2.2.2.2.1 g h).1
theorem CR.g1 (R : CR m c W) {g : Nat} (h : g < 4) : m.1 (c + 37) g = nI (wgr W g 1) := (R.2.2.2.2.2.2.2.2.2.2.1 g h).2.1
theorem CR.g2 (R : CR m c W) {g : Nat} (h : g < 4) : m.1 (c + 38) g = nI (wgr W g 2) := (R.2.2.2.2.2.2.2.2.2.2.1 g h).2.2
theorem CR.op (R : CR m c W) : m.1 c 7 = nI (W 18) := R.2.2.2.2.2.2.2.2.2.2.2.1
theorem CR.wa (R : CR m c W) : m.1 c 9 = nI (W 19) := R.2.2.2.2.2.2.2.2.2.2.2.2.1
theorem CR.se (R : CR m c W) {i : Nat} (h : i < 7) : m.1 (c + 39) i = nI (wcr W i 7) := R.2.2.2.2.2.2.2.2.2.2.2.2.2 i h
/-- the lengths of a camp's tables -/
theorem camp_al (h : kd c = 1) : al (c + 3) = 7 ∧ al (c + 4) = 7 ∧ al (c + 12) = 6 ∧ al (c + 13) = 4 ∧ al (c + 20) = 4 ∧ al (c + 21) = 3 := by
  have := kall (fun c => al (c + 3) == 7 && al (c + 4) == 7 && al (c + 12) == 6 && al (c + 13) == 4 && al (c + 20) == 4 && al (c + 21) == 3) (by decide +kernel) (by decide) h
  simpa [and_assoc] using this
theorem Ta_at_e (m : Mem) {t n k i j : Nat} (hn : al (t + 1) = n) (hk : al (t + 2) = k) (n1 : n < 100) (k1 : k < 100) (hi : i < n) (hj : j < k) : Ta_at t (nI i) (nI j) m = some (m.1 (t + 2 + i) j) := by
  unfold Ta_at
  rw [hn, hk, show Int32.ofNat n = nI n from rfl, show Int32.ofNat k = nI k from rfl, if_neg (nI_pos (by omega)), if_neg (nI_ge hi (by omega)), if_neg (nI_pos (by omega)), gd_in hi (by omega), if_pos (nI_lt hj (by omega)), gd_in hi (by omega), gd_in hj (by omega), ix_nI (by omega), ix_nI (by omega), show t + 1 + (1 + i) = t + 2 + i by omega]
theorem tC (R : CR m c W) (I : Inv W) {i j : Nat} (hi : i < W 5) (hj : j < 7) : Ta_at (c + 1 + 1) (nI i) (nI j) m = some (nI (wcr W i j)) := by
  obtain ⟨a1, a2, -⟩ := camp_al R.kd
  have d := I.d
  rw [Ta_at_e m (t := c + 1 + 1) a1 a2 (by decide) (by decide) (by omega) hj, show c + 1 + 1 + 2 + i = c + 4 + i by omega, R.cr hi hj]
theorem tS (R : CR m c W) (I : Inv W) {i j : Nat} (hi : i < W 6) (hj : j < 4) : Ta_at (c + 11) (nI i) (nI j) m = some (nI (wso W i j)) := by
  obtain ⟨-, -, a1, a2, -⟩ := camp_al R.kd
  have d := I.d
  rw [Ta_at_e m (t := c + 11) a1 a2 (by decide) (by decide) (by omega) hj, show c + 11 + 2 + i = c + 13 + i by omega, R.so hi hj]
theorem tO (R : CR m c W) (I : Inv W) {i j : Nat} (hi : i < W 7) (hj : j < 3) : Ta_at (c + 19) (nI i) (nI j) m = some (nI (wot W i j)) := by
  obtain ⟨-, -, -, -, a1, a2⟩ := camp_al R.kd
  have d := I.d
  rw [Ta_at_e m (t := c + 19) a1 a2 (by decide) (by decide) (by omega) hj, show c + 19 + 2 + i = c + 21 + i by omega, R.ot hi hj]
theorem tC0 (R : CR m c W) (I : Inv W) {i : Nat} (hi : i < W 5) : Ta_at (c + 1 + 1) (nI i) 0 m = some (nI (wcr W i 0)) := tC R I hi (by decide)
theorem tC1 (R : CR m c W) (I : Inv W) {i : Nat} (hi : i < W 5) : Ta_at (c + 1 + 1) (nI i) 1 m = some (nI (wcr W i 1)) := tC R I hi (by decide)
theorem tC2 (R : CR m c W) (I : Inv W) {i : Nat} (hi : i < W 5) : Ta_at (c + 1 + 1) (nI i) 2 m = some (nI (wcr W i 2)) := tC R I hi (by decide)
theorem tC3 (R : CR m c W) (I : Inv W) {i : Nat} (hi : i < W 5) : Ta_at (c + 1 + 1) (nI i) 3 m = some (nI (wcr W i 3)) := tC R I hi (by decide)
theorem tC4 (R : CR m c W) (I : Inv W) {i : Nat} (hi : i < W 5) : Ta_at (c + 1 + 1) (nI i) 4 m = some (nI (wcr W i 4)) := tC R I hi (by decide)
theorem tC5 (R : CR m c W) (I : Inv W) {i : Nat} (hi : i < W 5) : Ta_at (c + 1 + 1) (nI i) 5 m = some (nI (wcr W i 5)) := tC R I hi (by decide)
theorem tC6 (R : CR m c W) (I : Inv W) {i : Nat} (hi : i < W 5) : Ta_at (c + 1 + 1) (nI i) 6 m = some (nI (wcr W i 6)) := tC R I hi (by decide)
theorem tS0 (R : CR m c W) (I : Inv W) {i : Nat} (hi : i < W 6) : Ta_at (c + 11) (nI i) 0 m = some (nI (wso W i 0)) := tS R I hi (by decide)
theorem tT0 (R : CR m c W) (I : Inv W) {i : Nat} (hi : i < W 6) : Ta_at (c + 1 + 10) (nI i) 0 m = some (nI (wso W i 0)) := tS R I hi (by decide)
theorem tS1 (R : CR m c W) (I : Inv W) {i : Nat} (hi : i < W 6) : Ta_at (c + 11) (nI i) 1 m = some (nI (wso W i 1)) := tS R I hi (by decide)
theorem tT1 (R : CR m c W) (I : Inv W) {i : Nat} (hi : i < W 6) : Ta_at (c + 1 + 10) (nI i) 1 m = some (nI (wso W i 1)) := tS R I hi (by decide)
theorem tS2 (R : CR m c W) (I : Inv W) {i : Nat} (hi : i < W 6) : Ta_at (c + 11) (nI i) 2 m = some (nI (wso W i 2)) := tS R I hi (by decide)
theorem tT2 (R : CR m c W) (I : Inv W) {i : Nat} (hi : i < W 6) : Ta_at (c + 1 + 10) (nI i) 2 m = some (nI (wso W i 2)) := tS R I hi (by decide)
theorem tS3 (R : CR m c W) (I : Inv W) {i : Nat} (hi : i < W 6) : Ta_at (c + 11) (nI i) 3 m = some (nI (wso W i 3)) := tS R I hi (by decide)
theorem tT3 (R : CR m c W) (I : Inv W) {i : Nat} (hi : i < W 6) : Ta_at (c + 1 + 10) (nI i) 3 m = some (nI (wso W i 3)) := tS R I hi (by decide)
theorem tO0 (R : CR m c W) (I : Inv W) {i : Nat} (hi : i < W 7) : Ta_at (c + 1 + 18) (nI i) 0 m = some (nI (wot W i 0)) := tO R I hi (by decide)
theorem tO1 (R : CR m c W) (I : Inv W) {i : Nat} (hi : i < W 7) : Ta_at (c + 1 + 18) (nI i) 1 m = some (nI (wot W i 1)) := tO R I hi (by decide)
theorem tO2 (R : CR m c W) (I : Inv W) {i : Nat} (hi : i < W 7) : Ta_at (c + 1 + 18) (nI i) 2 m = some (nI (wot W i 2)) := tO R I hi (by decide)
theorem cf0 (R : CR m c W) : rI m (c + 1) 0 = nI (W 1) := R.fl (j := 0) (by decide)
theorem cf1 (R : CR m c W) : rI m (c + 1) 1 = nI (W 2) := R.fl (j := 1) (by decide)
theorem cf2 (R : CR m c W) : rI m (c + 1) 2 = nI (W 3) := R.fl (j := 2) (by decide)
theorem cf3 (R : CR m c W) : rI m (c + 1) 3 = nI (W 4) := R.fl (j := 3) (by decide)
theorem cf4 (R : CR m c W) : rI m (c + 1) 4 = nI (W 0) := R.fl (j := 4) (by decide)
theorem cf5 (R : CR m c W) : rI m (c + 1) 5 = nI (W 8) := R.fl (j := 5) (by decide)
theorem cf6 (R : CR m c W) : rI m (c + 1) 6 = nI (W 9) := R.fl (j := 6) (by decide)
theorem cf7 (R : CR m c W) : rI m (c + 1) 7 = nI (W 10) := R.fl (j := 7) (by decide)
theorem cf8 (R : CR m c W) : rI m (c + 1) 8 = nI (W 11) := R.fl (j := 8) (by decide)
theorem cf9 (R : CR m c W) : rI m (c + 1) 9 = nI (W 12) := R.fl (j := 9) (by decide)
theorem cf10 (R : CR m c W) : rI m (c + 1) 10 = nI (W 13) := R.fl (j := 10) (by decide)
theorem cf11 (R : CR m c W) : rI m (c + 1) 11 = nI (W 14) := R.fl (j := 11) (by decide)
theorem cf12 (R : CR m c W) : rI m (c + 1) 12 = nI (W 15) := R.fl (j := 12) (by decide)
theorem cf13 (R : CR m c W) : rI m (c + 1) 13 = nI (W 16) := R.fl (j := 13) (by decide)
theorem cf14 (R : CR m c W) : rI m (c + 1) 14 = nI (W 17) := R.fl (j := 14) (by decide)
theorem cnC (R : CR m c W) : rI m (c + 1 + 1) 1 = nI (W 5) := R.nC
theorem cnS (R : CR m c W) : rI m (c + 11) 1 = nI (W 6) := R.nS
theorem cnT (R : CR m c W) : rI m (c + 1 + 10) 1 = nI (W 6) := R.nS
theorem cnO (R : CR m c W) : rI m (c + 1 + 18) 1 = nI (W 7) := R.nO
/-- two ways of asking a range -/
theorem ite_rng {X : Type} {n : Nat} (hn : n < 2147483648) (x : Int32) (a b : X) : (if x < 0 then a else if nI n ≤ x then a else b) = if inb x n then b else a := by
  rcases rng x hn with ⟨p, q⟩ | ⟨p, q, r⟩ | ⟨j, hj, rfl⟩
  · rw [if_pos p, if_neg q]
  · rw [if_neg p, if_pos q, if_neg r]
  · rw [if_neg (nI_pos (by omega)), if_neg (nI_ge hj hn), if_pos (in_nI hj hn)]
theorem PL_isHeap_e (m : Mem) (x : Int32) : PL_isHeap x m = some (b2 (inb x 8)) := by
  unfold PL_isHeap
  rw [show (if x < 0 then some (0 : Int32) else if 8 ≤ x then some 0 else some 1) = if inb x 8 then some 1 else some 0 from ite_rng (n := 8) (by decide) x (some 0) (some 1)]
  by_cases h : inb x 8
  · rw [if_pos h, b2_t h]
  · rw [if_neg h, b2_f h]
theorem PL_isGroup_e (m : Mem) (x : Int32) : PL_isGroup x m = some (b2 (inb x 4)) := by
  unfold PL_isGroup
  rw [show (if x < 0 then some (0 : Int32) else if 4 ≤ x then some 0 else some 1) = if inb x 4 then some 1 else some 0 from ite_rng (n := 4) (by decide) x (some 0) (some 1)]
  by_cases h : inb x 4
  · rw [if_pos h, b2_t h]
  · rw [if_neg h, b2_f h]
theorem Fl_isThere_e (R : CR m c W) (I : Inv W) : Fl_isThere (c + 1) m = some (b2 (0 < W 1)) := by
  have d := I.d
  unfold Fl_isThere
  rw [cf0 R]
  by_cases h : 0 < W 1
  · rw [if_neg (nI_nle h (by omega)), b2_t h]
  · rw [if_pos (show nI (W 1) ≤ 0 from nI_le (b := 0) (by omega) (by decide)), b2_f h]
theorem Fl_hasCell_e (R : CR m c W) (I : Inv W) (x y : Int32) : Fl_hasCell (c + 1) x y m = some (b2 (inb x (W 1) ∧ inb y (W 2))) := by
  have d := I.d
  unfold Fl_hasCell
  rw [cf0 R, cf1 R, ite_rng (n := W 1) (by omega) x (some 0)]
  by_cases hx : inb x (W 1)
  · rw [if_pos hx, ite_rng (n := W 2) (by omega) y (some 0)]
    by_cases hy : inb y (W 2)
    · rw [if_pos hy, b2_t ⟨hx, hy⟩]
    · rw [if_neg hy, b2_f (fun q => hy q.2)]
  · rw [if_neg hx, b2_f (fun q => hx q.1)]
theorem Fl_hasSet_e (R : CR m c W) (I : Inv W) (x : Int32) : Fl_hasSet (c + 1) x m = some (b2 (0 < W 1 ∧ inb x (2 ^ W 5))) := by
  have d := I.d
  have := p2le d.2.2.2.2.1
  unfold Fl_hasSet
  rw [Fl_isThere_e R I, bind_s, ite_b2, cnC R, shl1 (by omega), ite_rng (n := 2 ^ W 5) (by omega) x (some 0)]
  by_cases h : 0 < W 1
  · rw [if_pos h]
    by_cases hx : inb x (2 ^ W 5)
    · rw [if_pos hx, b2_t ⟨h, hx⟩]
    · rw [if_neg hx, b2_f (fun q => hx q.2)]
  · rw [if_neg h, b2_f (fun q => h q.1)]
theorem Ta_has_e (m : Mem) {t n : Nat} (h : m.1 t 1 = nI n) (hn : n < 2147483648) (x : Int32) : Ta_has t x m = some (b2 (inb x n)) := by
  unfold Ta_has
  rw [show rI m t 1 = nI n from h, ite_rng hn x (some 0)]
  by_cases hx : inb x n
  · rw [if_pos hx, b2_t hx]
  · rw [if_neg hx, b2_f hx]
theorem hx_m1 (I : Inv W) {h : Nat} (hh : h < 8) : (hxI W h = -1) ↔ ¬ whe W h 0 = 1 := by
  unfold hxI
  have := I.xy hh
  by_cases q : whe W h 0 = 1
  · rw [if_pos q]
    constructor
    · intro z
      have : (nI (whe W h 1)).toInt = (-1 : Int32).toInt := by rw [z]
      rw [nI_toInt (by omega)] at this
      simp at this
    · intro z; exact absurd q z
  · rw [if_neg q]
    exact ⟨fun _ => q, fun _ => rfl⟩
theorem Ca_hasHeap_e (R : CR m c W) (I : Inv W) {h : Nat} (hh : h < 8) : Ca_hasHeap c (nI h) m = some (b2 (whe W h 0 = 1)) := by
  unfold Ca_hasHeap
  rw [if_neg (nI_pos (by omega)), if_neg (show ¬ (8 : Int32) ≤ nI h from nI_ge (b := 8) hh (by decide)), gd_in hh (by decide), ix_nI (by omega), show rI m (c + 25) h = hxI W h from R.hx hh]
  by_cases q : whe W h 0 = 1
  · rw [if_neg (fun z => (hx_m1 I hh).mp z q), b2_t q]
  · rw [if_pos ((hx_m1 I hh).mpr q), b2_f q]
theorem Ca_unitsIn_e (R : CR m c W) {h s : Nat} (hh : h < 8) (hs : s < 6) : Ca_unitsIn c (nI h) (nI s) m = some (nI (whe W h (3 + s))) := by
  unfold Ca_unitsIn
  rw [if_neg (nI_pos (by omega)), if_neg (show ¬ (8 : Int32) ≤ nI h from nI_ge (b := 8) hh (by decide)), if_neg (nI_pos (by omega)), if_pos (show nI s < 6 from nI_lt (b := 6) hs (by decide)), gd_in hh (by decide), gd_in hs (by decide), ix_nI (by omega), ix_nI (by omega), show c + 27 + (1 + h) = c + 28 + h by omega, show rI m (c + 28 + h) s = nI (whe W h (3 + s)) from R.un hh hs]
theorem Ca_tonsOf_e (R : CR m c W) (I : Inv W) {h : Nat} (hh : h < 8) : Ca_tonsOf c (nI h) m = some (nI (tonsN W h)) := by
  have d := I.d
  unfold Ca_tonsOf
  refine loop_sum (W 6) (fun s => whe W h (3 + s) * wso W s 2) (fun a => nI a) (fun s a hs ha => ?_) (fun a ha => ?_)
  · unfold Ca_tonsOf_l4
    rw [cnS R, if_neg (nI_ge hs (by omega)), Ca_unitsIn_e R hh (by omega), bind_s, tS2 R I hs, bind_s, pk_mul, nI_add, nI_1]
  · unfold Ca_tonsOf_l4
    rw [cnS R, if_pos (nI_le (Nat.le_refl _) (by omega)), up_some]
def cbN (W : Wd) (k x y : Nat) : Nat := if sdN W k x y < wcr W k 1 then wcr W k 1 - 1 - sdN W k x y else sdN W k x y - wcr W k 1
theorem cb_0 (I : Inv W) {k x y : Nat} (hk : k < W 5) : cbN W k x y = 0 ↔ (sdN W k x y = wcr W k 1 ∨ sdN W k x y + 1 = wcr W k 1) := by
  obtain ⟨-, c1, -⟩ := I.C hk
  unfold cbN
  split <;> omega
theorem Fl_cellsBetween_e (R : CR m c W) (I : Inv W) {k x y : Nat} (hk : k < W 5) (hx : x < 2147483648) (hy : y < 2147483648) : Fl_cellsBetween (c + 1) (nI k) (nI x) (nI y) m = some (nI (cbN W k x y)) := by
  obtain ⟨c0, c1, c2, c3, -⟩ := I.C hk
  have d := I.d
  have key : ∀ z : Nat, z < 2147483648 → Fl_cellsBetween_b29 (c + 1) (nI (wcr W k 1)) (nI z) m = some (nI (if z < wcr W k 1 then wcr W k 1 - 1 - z else z - wcr W k 1)) := by
    intro z hz
    unfold Fl_cellsBetween_b29
    by_cases h : z < wcr W k 1
    · rw [if_pos (nI_lt h (by omega)), if_pos h, nI_p1 c1, pk_sub (by omega)]
    · rw [if_neg (nI_nlt (by omega) hz), if_neg h, pk_sub (by omega)]
  unfold Fl_cellsBetween cbN sdN
  rw [tC1 R I hk, bind_s, tC0 R I hk, bind_s]
  by_cases h0 : wcr W k 0 = 0
  · rw [h0, if_neg (by decide), key x hx, if_pos rfl]
  · rw [show wcr W k 0 = 1 by omega, if_pos (by decide), key y hy]
    rfl
theorem Ca_tonsNear_e (R : CR m c W) (I : Inv W) {k : Nat} (hk : k < W 5) : Ca_tonsNear c (nI k) m = some (nI (nearN W k)) := by
  have d := I.d
  unfold Ca_tonsNear
  refine loop_sum 8 (fun h => if nearP W k h then tonsN W h else 0) (fun a => nI a) (fun h a hh ha => ?_) (fun a ha => ?_)
  · have xy := I.xy hh
    unfold Ca_tonsNear_l4 Ca_tonsNear_b49
    rw [if_neg (show ¬ (8 : Int32) ≤ nI h from nI_ge (b := 8) hh (by decide)), Ca_hasHeap_e R I hh, bind_s, ite_b2]
    by_cases h1 : whe W h 0 = 1
    · rw [if_pos h1, gd_in hh (by decide), gd_in hh (by decide), ix_nI (by omega), show rI m (c + 25) h = nI (whe W h 1) by rw [show rI m (c + 25) h = hxI W h from R.hx hh]; exact if_pos h1, show rI m (c + 26) h = nI (whe W h 2) from R.hy hh, Fl_cellsBetween_e R I hk (by omega) (by omega), bind_s]
      by_cases e : cbN W k (whe W h 1) (whe W h 2) = 0
      · rw [e, if_pos (by decide), Ca_tonsOf_e R I hh, bind_s, if_pos ⟨h1, (cb_0 I hk).mp e⟩, nI_add, nI_1]
      · have : cbN W k (whe W h 1) (whe W h 2) < 2147483648 := by
          obtain ⟨c0, c1, c2, c3, -⟩ := I.C hk
          unfold cbN sdN
          split <;> split <;> omega
        rw [if_neg (nI_ne0 (by omega) this), if_neg (fun q => e ((cb_0 I hk).mpr q.2)), nI_1]
        rfl
    · rw [if_neg h1, if_neg (fun q => h1 q.1), nI_1]
      rfl
  · unfold Ca_tonsNear_l4
    rw [if_pos (show (8 : Int32) ≤ nI 8 from by decide), up_some]
theorem Fl_oddsUnder_e (R : CR m c W) (I : Inv W) {k t : Nat} (hk : k < W 5) (ht : t ≤ 95040) : Fl_oddsUnder (c + 1) (nI k) (nI t) m = some (nI (oddsByN W k t)) := by
  have d := I.d
  obtain ⟨c0, c1, c2, c3, c4, c5, c6, c7, c8, -⟩ := I.C hk
  obtain ⟨-, b8, b9, -⟩ := I.2.1
  have e1 : wcr W k 5 * t ≤ 99 * 95040 := Nat.mul_le_mul c7 ht
  have e2 : W 8 * wcr W k 3 ≤ 9 * 99 := Nat.mul_le_mul b8 c5
  have e3 : W 9 * wcr W k 4 ≤ 9 * 99 := Nat.mul_le_mul b9 c6
  have e4 := Nat.div_le_self (wcr W k 5 * t) 100
  have e5 : (nI (wcr W k 5 * t) : Int32) / 100 = nI (wcr W k 5 * t / 100) := pk_div (d := 100) (by omega) (by decide) (by decide)
  unfold Fl_oddsUnder Fl_oddsUnder_b73
  rw [tC2 R I hk, bind_s, tC3 R I hk, bind_s, tC4 R I hk, bind_s, tC5 R I hk, bind_s, tC6 R I hk, bind_s, cf5 R, cf6 R]
  simp only [pk_mul, nI_add, e5]
  by_cases h : wcr W k 6 = 1
  · rw [h, if_pos (by decide), show (2 : Int32) = nI 2 from rfl, pk_mul, show (10000 : Int32) = nI 10000 from rfl, jmin_nI (by omega) (by decide)]
    unfold oddsByN rawN
    rw [if_pos h, Nat.min_comm, Nat.mul_comm 2]
  · rw [show wcr W k 6 = 0 by omega, if_neg (by decide), show (10000 : Int32) = nI 10000 from rfl, jmin_nI (by omega) (by decide)]
    unfold oddsByN rawN
    rw [if_neg h, Nat.min_comm]
theorem Ca_oddsOf_e (R : CR m c W) (I : Inv W) {k : Nat} (hk : k < W 5) : Ca_oddsOf c (nI k) m = some (nI (oddsN W k)) := by
  unfold Ca_oddsOf
  rw [Ca_tonsNear_e R I hk, bind_s, Fl_oddsUnder_e R I hk (near_le I k), bind_s]
  rfl
end CB
