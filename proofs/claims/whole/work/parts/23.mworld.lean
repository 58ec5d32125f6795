/-! the reference's questions of the world -/
theorem jmin_nI {a b : Nat} (ha : a < 2147483648) (hb : b < 2147483648) : jmin (nI a) (nI b) = nI (min a b) := by
  unfold jmin
  by_cases h : b < a
  · rw [if_pos (nI_lt h ha), Nat.min_eq_right (by omega)]
  · rw [if_neg (nI_nlt (by omega) hb), Nat.min_eq_left (by omega)]
theorem jmax_nI {a b : Nat} (ha : a < 2147483648) (hb : b < 2147483648) : jmax (nI a) (nI b) = nI (max a b) := by
  unfold jmax
  by_cases h : a < b
  · rw [if_pos (nI_lt h hb), Nat.max_eq_right (by omega)]
  · rw [if_neg (nI_nlt (by omega) ha), Nat.max_eq_left (by omega)]
theorem jmax0 {a b : Nat} (ha : a < 1073741824) (hb : b < 1073741824) : jmax 0 (nI a - nI b) = nI (a - b) := by
  unfold jmax
  by_cases h : b < a
  · rw [pk_sub (by omega), if_pos (show (0 : Int32) < nI (a - b) from nI_lt (a := 0) (by omega) (by omega))]
  · rcases Nat.lt_or_ge a b with q | q
    · rw [if_neg (fun z => ?_), show a - b = 0 by omega]
      · rfl
      · have := pk_sneg (show b < 2 ^ 30 by omega) q
        exact Int32.lt_irrefl (Int32.lt_trans this z)
    · rw [pk_sub q, show a - b = 0 by omega, if_neg (by decide)]
      rfl
theorem nI_p1 {a : Nat} (h : 1 ≤ a) : nI a - 1 = nI (a - 1) := pk_sub (b := 1) h
theorem Inv.xy {W : Wd} (I : Inv W) {h : Nat} (hh : h < 8) : whe W h 1 ≤ 11 ∧ whe W h 2 ≤ 11 := by
  have iH := I.H hh
  have d := I.d
  rcases Nat.lt_or_ge (whe W h 0) 1 with q | q
  · have := iH.2.2.1 (by omega); omega
  · have := iH.2.1 (by have := iH.1; omega); omega
section MWo
variable {m : Mem} {W : Wd}
theorem Mo_tonsOf_n (hW : MW m W) (I : Inv W) {h : Nat} (hh : h < 8) : Mo_tonsOf 298 (nI h) m = some (nI (tonsN W h)) := by
  have d := I.d
  unfold Mo_tonsOf
  refine loop_sum (W 6) (fun s => whe W h (3 + s) * wso W s 2) (fun a => nI a) (fun s a hs ha => ?_) (fun a ha => ?_)
  · unfold Mo_tonsOf_l4
    rw [gd_t (by decide), qW6 hW, if_neg (nI_ge hs (by omega)), qU hW hh (by omega), bind_s, qS2 hW (by omega), bind_s, pk_mul, nI_add, nI_1]
  · unfold Mo_tonsOf_l4
    rw [gd_t (by decide), qW6 hW, if_pos (nI_le (Nat.le_refl _) (by omega)), up_some]
theorem nI00 : (nI 0 = 0) = True := by simp [nI_0]
theorem nI10 : (nI 1 = 0) = False := by simp; decide
theorem nz {a : Nat} (h : 0 < a) (ha : a < 2147483648) : (nI a = 0) = False := by simp; exact nI_ne0 h ha
theorem Mo_nearOf_e (hW : MW m W) (I : Inv W) {c : Nat} (hc : c < W 5) : Mo_nearOf 298 (nI c) m = some (nI (nearN W c)) := by
  have d := I.d
  obtain ⟨c0, c1, c2, c3, -⟩ := I.C hc
  unfold Mo_nearOf
  refine loop_sum 8 (fun h => if nearP W c h then tonsN W h else 0) (fun a => nI a) (fun h a hh ha => ?_) (fun a ha => ?_)
  · have iH := I.H hh
    have xy := I.xy hh
    unfold Mo_nearOf_l4
    rw [if_neg (show ¬ (8 : Int32) ≤ nI h from nI_ge (b := 8) hh (by decide)), qC0 hW (by omega), bind_s]
    have fin : ∀ x : Nat, x ≤ 11 → (if x = wcr W c 1 then some (Sum.inl (nI (a + tonsN W h), nI (h + 1))) else if x = wcr W c 1 - 1 then some (Sum.inl (nI (a + tonsN W h), nI (h + 1))) else (some (Sum.inl (nI a, nI (h + 1))) : Option ((Int32 × Int32) ⊕ Int32))) = some (Sum.inl (nI (a + if x = wcr W c 1 ∨ x + 1 = wcr W c 1 then tonsN W h else 0), nI (h + 1))) := by
      intro x hx
      by_cases e1 : x = wcr W c 1
      · rw [if_pos e1, if_pos (Or.inl e1)]
      · by_cases e2 : x + 1 = wcr W c 1
        · rw [if_neg e1, if_pos (by omega), if_pos (Or.inr e2)]
        · rw [if_neg e1, if_neg (by omega), if_neg (by omega)]; rfl
    by_cases h1 : whe W h 0 = 1
    · by_cases h0 : wcr W c 0 = 0
      · simp (discharger := omega) only [Mo_nearOf_b26, Mo_nearOf_b63, Mo_nearOf_b71, qC1 hW, qH1 hW, qT hW hh iH.1, Mo_tonsOf_n hW I hh, bind_s, ite_b2, h0, h1, nI_eq, nI_p1, nI_add, nI_1, nI00, if_true, nearP, hsd, sdN, true_and]
        exact fin _ xy.1
      · simp (discharger := omega) only [Mo_nearOf_b26, Mo_nearOf_b63, Mo_nearOf_b71, qC1 hW, qH2 hW, qT hW hh iH.1, Mo_tonsOf_n hW I hh, bind_s, ite_b2, h0, h1, nI_eq, nI_p1, nI_add, nI_1, nz, if_true, if_false, nearP, hsd, sdN, true_and]
        exact fin _ xy.2
    · by_cases h0 : wcr W c 0 = 0
      · simp (discharger := omega) only [Mo_nearOf_b26, Mo_nearOf_b63, Mo_nearOf_b71, qC1 hW, qH1 hW, qT hW hh iH.1, bind_s, ite_b2, h0, h1, nI_1, nI00, if_true, if_false, nearP, false_and, Nat.add_zero]
      · simp (discharger := omega) only [Mo_nearOf_b26, Mo_nearOf_b63, Mo_nearOf_b71, qC1 hW, qH2 hW, qT hW hh iH.1, bind_s, ite_b2, h0, h1, nI_1, nz, if_true, if_false, nearP, false_and, Nat.add_zero]
  · unfold Mo_nearOf_l4
    rw [if_pos (show (8 : Int32) ≤ nI 8 from by decide), up_some]
theorem Mo_oddsBy_e (hW : MW m W) (I : Inv W) {c t : Nat} (hc : c < W 5) (ht : t ≤ 95040) : Mo_oddsBy 298 (nI c) (nI t) m = some (nI (oddsByN W c t)) := by
  have d := I.d
  obtain ⟨c0, c1, c2, c3, c4, c5, c6, c7, c8, -⟩ := I.C hc
  obtain ⟨-, b8, b9, -⟩ := I.2.1
  have e1 : wcr W c 5 * t ≤ 99 * 95040 := Nat.mul_le_mul c7 ht
  have e2 : W 8 * wcr W c 3 ≤ 9 * 99 := Nat.mul_le_mul b8 c5
  have e3 : W 9 * wcr W c 4 ≤ 9 * 99 := Nat.mul_le_mul b9 c6
  have e4 := Nat.div_le_self (wcr W c 5 * t) 100
  have e5 : (nI (wcr W c 5 * t) : Int32) / 100 = nI (wcr W c 5 * t / 100) := pk_div (d := 100) (by omega) (by decide) (by decide)
  unfold Mo_oddsBy Mo_oddsBy_b70
  simp (discharger := omega) only [qC2 hW, qC3 hW, qC4 hW, qC5 hW, qC6 hW, bind_s]
  rw [gd_t (by decide), gd_t (by decide), qW8 hW, qW9 hW]
  simp only [pk_mul, nI_add, e5]
  by_cases h : wcr W c 6 = 1
  · rw [h, if_pos (by decide), show (2 : Int32) = nI 2 from rfl, pk_mul, show (10000 : Int32) = nI 10000 from rfl, jmin_nI (by decide) (by omega)]
    unfold oddsByN rawN
    rw [if_pos h]
  · rw [show wcr W c 6 = 0 by omega, if_neg (by decide), show (10000 : Int32) = nI 10000 from rfl, jmin_nI (by decide) (by omega)]
    unfold oddsByN rawN
    rw [if_neg h]
theorem Mo_oddsOf_e (hW : MW m W) (I : Inv W) {c : Nat} (hc : c < W 5) : Mo_oddsOf 298 (nI c) m = some (nI (oddsN W c)) := by
  unfold Mo_oddsOf
  rw [Mo_nearOf_e hW I hc, bind_s, Mo_oddsBy_e hW I hc (near_le I c), bind_s]
  rfl
theorem Mo_pieceOf_e (hW : MW m W) (I : Inv W) {set x y : Nat} (hs : set < 2147483648) (hx : x < 2147483648) (hy : y < 2147483648) : Mo_pieceOf 298 (nI set) (nI x) (nI y) m = some (nI (pieceN W set x y)) := by
  have d := I.d
  unfold Mo_pieceOf
  refine loop_sum (W 5) (fun c => if set.testBit c = true ∧ wcr W c 1 ≤ sdN W c x y then (if wcr W c 0 = 0 then 1 else 8) else 0) (fun a => nI a) (fun c a hc ha => ?_) (fun a ha => ?_)
  · obtain ⟨c0, c1, c2, c3, -⟩ := I.C hc
    unfold Mo_pieceOf_l6
    rw [gd_t (by decide), qW5 hW, if_neg (nI_ge hc (by omega)), Mo_holds_e m hs (by omega), bind_s, ite_b2]
    by_cases hb : set.testBit c = true
    · rw [if_pos hb, qC0 hW (by omega), bind_s]
      by_cases h0 : wcr W c 0 = 0
      · rw [h0, if_pos (by decide)]
        simp (discharger := omega) only [Mo_pieceOf_b44, Mo_pieceOf_b65, Mo_pieceOf_b83, Mo_pieceOf_b86, qC1 hW, bind_s, sdN, h0, hb, if_true, true_and, nI_ltI, show ((1 : Int32) = 0) = False by decide, if_false]
        by_cases e : x < wcr W c 1
        · rw [if_pos e, if_neg (by omega), Nat.add_zero, nI_1, show nI a + 0 = nI a from nI_add a 0]
        · rw [if_neg e, if_pos (by omega), nI_1, nI_1]
      · rw [if_neg (nI_ne0 (by omega) (by omega))]
        simp (discharger := omega) only [Mo_pieceOf_b44, Mo_pieceOf_b65, Mo_pieceOf_b83, Mo_pieceOf_b86, qC1 hW, bind_s, sdN, h0, hb, if_true, true_and, nI_ltI, if_false]
        by_cases e : y < wcr W c 1
        · rw [if_pos e, if_neg (by omega), Nat.add_zero, nI_1, show nI a + 0 = nI a from nI_add a 0]
        · rw [if_neg e, if_pos (by omega), nI_1, show nI a + 8 = nI (a + 8) from nI_add a 8]
    · rw [if_neg hb, if_neg (fun q => hb q.1), Mo_pieceOf_b86, Nat.add_zero, nI_1]
  · unfold Mo_pieceOf_l6
    rw [gd_t (by decide), qW5 hW, if_pos (nI_le (Nat.le_refl _) (by omega)), up_some]
theorem Mo_isTold_e (hW : MW m W) (I : Inv W) {k : Nat} (hk : k ≤ 3) : Mo_isTold 298 (nI k) m = some (b2 (toldN W k)) := by
  have d := I.d
  unfold Mo_isTold
  have key := loop_find (b := fun s : Int32 => Mo_isTold_l2 298 (nI k) s m) (W 6) (fun i => nI i) (fun s => wso W s 0 = k) (1 : Int32) (0 : Int32) rfl (fun s hs hp => ?_) (fun s hs hp => ?_) ?_
  · by_cases h : toldN W k
    · rw [show loop _ (0 : Int32) = _ from key.1 (toldN_iff.mp h), b2_t h]
    · rw [show loop _ (0 : Int32) = _ from key.2 (fun q => h (toldN_iff.mpr q)), b2_f h]
  · unfold Mo_isTold_l2
    rw [gd_t (by decide), qW6 hW, if_neg (nI_ge hs (by omega)), qS0 hW (by omega), bind_s, hp, if_pos rfl, up_some]
  · have := (I.S hs).1
    unfold Mo_isTold_l2
    rw [gd_t (by decide), qW6 hW, if_neg (nI_ge hs (by omega)), qS0 hW (by omega), bind_s, if_neg (fun q => hp ((nI_eq (by omega) (by omega)).mp q)), nI_1]
  · unfold Mo_isTold_l2
    rw [gd_t (by decide), qW6 hW, if_pos (nI_le (Nat.le_refl _) (by omega)), up_some]
theorem Mo_peopleOn_e (hW : MW m W) (I : Inv W) {set p : Nat} (hs : set < 2147483648) (hp : p ≤ 56) : Mo_peopleOn 298 (nI set) (nI p) m = some (nI (peopleOnN W set p)) := by
  have d := I.d
  unfold Mo_peopleOn
  refine loop_sum 4 (fun g => if gpN W set g = p then wgr W g 2 else 0) (fun a => nI a) (fun g a hg ha => ?_) (fun a ha => ?_)
  · obtain ⟨-, g0, g1, g2⟩ := I.G hg
    have hle : gpN W set g ≤ 56 := piece_le I set (wgr W g 0) (wgr W g 1)
    unfold Mo_peopleOn_l5
    rw [if_neg (show ¬ (4 : Int32) ≤ nI g from nI_ge (b := 4) hg (by decide)), qG0 hW hg, bind_s, qG1 hW hg, bind_s, Mo_pieceOf_e hW I hs (by omega) (by omega), bind_s]
    by_cases e : gpN W set g = p
    · rw [if_pos (congrArg nI e), qG2 hW hg, bind_s, if_pos e]
      unfold Mo_peopleOn_b46
      rw [nI_add, nI_1]
    · rw [if_neg (fun q => e ((nI_eq (by omega) (by omega)).mp q)), if_neg e]
      unfold Mo_peopleOn_b46
      rw [show nI a + 0 = nI a from nI_add a 0, nI_1]
      rfl
  · unfold Mo_peopleOn_l5
    rw [if_pos (show (4 : Int32) ≤ nI 4 from by decide), up_some]
theorem Mo_needOf_e (m : Mem) (p d k : Nat) (hk : k ≤ 3) : Mo_needOf (nI p) (nI d) (nI k) m = some (nI (needN d p k)) := by
  unfold Mo_needOf needN
  by_cases h : k = 0
  · rw [h, if_pos (by decide), if_pos rfl, pk_mul]
  · rw [if_neg (nI_ne0 (by omega) (by omega)), if_neg h]
theorem Mo_givesIn_e (hW : MW m W) (I : Inv W) {h k : Nat} (hh : h < 8) (hk : k ≤ 3) : Mo_givesIn 298 (nI h) (nI k) m = some (nI (givesN W h k)) := by
  have d := I.d
  unfold Mo_givesIn
  refine loop_sum (W 6) (fun s => if wso W s 0 = k then whe W h (3 + s) * wso W s 1 else 0) (fun a => nI a) (fun s a hs ha => ?_) (fun a ha => ?_)
  · obtain ⟨s0, s1, -⟩ := I.S hs
    unfold Mo_givesIn_l5 Mo_givesIn_b50
    rw [gd_t (by decide), qW6 hW, if_neg (nI_ge hs (by omega)), qS0 hW (by omega), bind_s]
    by_cases e : wso W s 0 = k
    · rw [if_pos (congrArg nI e), qU hW hh (by omega), bind_s, qS1 hW (by omega), bind_s, if_pos e, pk_mul, nI_add, nI_1]
    · rw [if_neg (fun q => e ((nI_eq (by omega) (by omega)).mp q)), if_neg e, show nI a + 0 = nI a from nI_add a 0, nI_1]
      rfl
  · unfold Mo_givesIn_l5
    rw [gd_t (by decide), qW6 hW, if_pos (nI_le (Nat.le_refl _) (by omega)), up_some]
theorem Mo_givenOn_e (hW : MW m W) (I : Inv W) {set p k : Nat} (hs : set < 2147483648) (hp : p ≤ 56) (hk : k ≤ 3) : Mo_givenOn 298 (nI set) (nI p) (nI k) m = some (nI (givenN W set p k)) := by
  have d := I.d
  unfold Mo_givenOn
  refine loop_sum 8 (fun h => if whe W h 0 = 1 ∧ hpN W set h = p then givesN W h k else 0) (fun a => nI a) (fun h a hh ha => ?_) (fun a ha => ?_)
  · have iH := I.H hh
    have xy := I.xy hh
    have hle : hpN W set h ≤ 56 := piece_le I set (whe W h 1) (whe W h 2)
    unfold Mo_givenOn_l6 Mo_givenOn_b57 Mo_givenOn_b58
    rw [if_neg (show ¬ (8 : Int32) ≤ nI h from nI_ge (b := 8) hh (by decide)), qT hW hh iH.1, bind_s, ite_b2]
    by_cases h1 : whe W h 0 = 1
    · rw [if_pos h1, qH1 hW hh, bind_s, qH2 hW hh, bind_s, Mo_pieceOf_e hW I hs (by omega) (by omega), bind_s]
      by_cases e : hpN W set h = p
      · rw [if_pos (congrArg nI e), Mo_givesIn_e hW I hh hk, bind_s, if_pos ⟨h1, e⟩, nI_add, nI_1]
      · rw [if_neg (fun q => e ((nI_eq (by omega) (by omega)).mp q)), if_neg (fun q => e q.2), show nI a + 0 = nI a from nI_add a 0, nI_1]
        rfl
    · rw [if_neg h1, if_neg (fun q => h1 q.1), show nI a + 0 = nI a from nI_add a 0, nI_1]
      rfl
  · unfold Mo_givenOn_l6
    rw [if_pos (show (8 : Int32) ≤ nI 8 from by decide), up_some]
theorem Mo_lacksAt_e (hW : MW m W) (I : Inv W) {set g k : Nat} (hs : set < 2147483648) (hg : g < 4) (hk : k ≤ 3) : Mo_lacksAt 298 (nI set) (nI g) (nI k) m = some (nI (lackAtN W set g k)) := by
  have d := I.d
  obtain ⟨-, g0, g1, g2⟩ := I.G hg
  have hle : gpN W set g ≤ 56 := piece_le I set (wgr W g 0) (wgr W g 1)
  have hpl := people_le I set (gpN W set g)
  have hnl := need_le I set (gpN W set g) k
  have hgl := given_le I set (gpN W set g) k
  unfold Mo_lacksAt
  rw [qG0 hW hg, bind_s, qG1 hW hg, bind_s, Mo_pieceOf_e hW I hs (by omega) (by omega), bind_s]
  have step : ∀ i, i < g → Mo_lacksAt_l22 298 (nI set) (nI g) (nI k) (nI (gpN W set g)) (nI i) m = if gpN W set i = gpN W set g ∧ 0 < wgr W i 2 then some (.inr 0) else some (.inl (nI (i + 1))) := by
    intro i hi
    obtain ⟨-, i0, i1, i2⟩ := I.G (g := i) (by omega)
    have hle2 : gpN W set i ≤ 56 := piece_le I set (wgr W i 0) (wgr W i 1)
    unfold Mo_lacksAt_l22 Mo_lacksAt_b64
    rw [if_neg (nI_ge hi (by omega)), qG0 hW (by omega), bind_s, qG1 hW (by omega), bind_s, Mo_pieceOf_e hW I hs (by omega) (by omega), bind_s]
    by_cases e : gpN W set i = gpN W set g
    · rw [if_pos (congrArg nI e), qG2 hW (by omega), bind_s]
      by_cases e2 : 0 < wgr W i 2
      · rw [if_neg (nI_nle e2 (by omega)), if_pos ⟨e, e2⟩, up_some]
      · rw [if_pos (show nI (wgr W i 2) ≤ 0 from nI_le (b := 0) (by omega) (by decide)), if_neg (fun q => e2 q.2), nI_1]
    · rw [if_neg (fun q => e ((nI_eq (by omega) (by omega)).mp q)), if_neg (fun q => e q.1), nI_1]
  have key := loop_find (b := fun s : Int32 => Mo_lacksAt_l22 298 (nI set) (nI g) (nI k) (nI (gpN W set g)) s m) g (fun i => nI i) (fun i => gpN W set i = gpN W set g ∧ 0 < wgr W i 2) (0 : Int32) (nI (if peopleOnN W set (gpN W set g) = 0 then 0 else lackP W set g k)) rfl (fun i hi hp => ?_) (fun i hi hp => ?_) ?_
  · unfold lackAtN
    by_cases h : 0 < fstN W set g
    · rw [show loop _ (0 : Int32) = _ from key.1 (fstN_iff.mp h), if_pos h]; rfl
    · rw [show loop _ (0 : Int32) = _ from key.2 (fun q => h (fstN_iff.mpr q)), if_neg h]
  · show Mo_lacksAt_l22 298 (nI set) (nI g) (nI k) (nI (gpN W set g)) (nI i) m = _
    rw [step i hi, if_pos hp]
  · show Mo_lacksAt_l22 298 (nI set) (nI g) (nI k) (nI (gpN W set g)) (nI i) m = _
    rw [step i hi, if_neg hp]
  · show Mo_lacksAt_l22 298 (nI set) (nI g) (nI k) (nI (gpN W set g)) (nI g) m = _
    unfold Mo_lacksAt_l22
    rw [if_pos (nI_le (Nat.le_refl _) (by omega)), Mo_peopleOn_e hW I hs hle, bind_s]
    by_cases e : peopleOnN W set (gpN W set g) = 0
    · rw [e, if_pos (by decide), if_pos rfl]; rfl
    · rw [if_neg (nI_ne0 (by omega) (by omega)), if_neg e, gd_t (by decide), qW4 hW, Mo_needOf_e m _ _ _ hk, bind_s, Mo_givenOn_e hW I hs hle hk, bind_s, jmax0 (by omega) (by omega), up_some]
      rfl
theorem lackP_le (I : Inv W) (set g k : Nat) : lackP W set g k ≤ 6720 := by
  have := need_le I set (gpN W set g) k
  unfold lackP
  omega
theorem lackAt_le (I : Inv W) (set g k : Nat) : lackAtN W set g k ≤ 6720 := by
  have := lackP_le I set g k
  unfold lackAtN
  split
  · omega
  · split <;> omega
theorem Mo_lacksOf_e (hW : MW m W) (I : Inv W) {set k : Nat} (hs : set < 2147483648) (hk : k ≤ 3) : Mo_lacksOf 298 (nI set) (nI k) m = some (nI (lacksN W set k)) := by
  have d := I.d
  unfold Mo_lacksOf lacksN
  by_cases ht : toldN W k
  · rw [if_pos ht]
    refine loop_sum 4 (fun g => if 0 < wgr W g 2 then lackAtN W set g k else 0) (fun a => nI a) (fun g a hg ha => ?_) (fun a ha => ?_)
    · obtain ⟨-, g0, g1, g2⟩ := I.G hg
      unfold Mo_lacksOf_l5 Mo_lacksOf_b42
      rw [if_neg (show ¬ (4 : Int32) ≤ nI g from nI_ge (b := 4) hg (by decide)), Mo_isTold_e hW I hk, bind_s, ite_b2, if_pos ht, qG2 hW hg, bind_s]
      by_cases e : 0 < wgr W g 2
      · rw [if_neg (nI_nle e (by omega)), Mo_lacksAt_e hW I hs hg hk, bind_s, if_pos e, nI_add, nI_1]
      · rw [if_pos (show nI (wgr W g 2) ≤ 0 from nI_le (b := 0) (by omega) (by decide)), if_neg e, show nI a + 0 = nI a from nI_add a 0, nI_1]
        rfl
    · unfold Mo_lacksOf_l5
      rw [if_pos (show (4 : Int32) ≤ nI 4 from by decide), up_some]
  · rw [if_neg ht]
    refine loop_out ?_
    show Mo_lacksOf_l5 298 (nI set) (nI k) 0 0 m = _
    unfold Mo_lacksOf_l5
    rw [if_neg (by decide), Mo_isTold_e hW I hk, bind_s, ite_b2, if_neg ht, up_some]
    rfl
theorem lacks_le (I : Inv W) (set k : Nat) : lacksN W set k ≤ 26880 := by
  unfold lacksN
  split
  · have := sN_le (f := fun g => if 0 < wgr W g 2 then lackAtN W set g k else 0) (c := 6720) (n := 4) (fun g _ => by
      have := lackAt_le I set g k
      show (if 0 < wgr W g 2 then lackAtN W set g k else 0) ≤ _
      split <;> omega)
    omega
  · omega
theorem Mo_isEnough_e (hW : MW m W) (I : Inv W) {set : Nat} (hs : set < 2147483648) : Mo_isEnough 298 (nI set) m = some (b2 (enoughN W set)) := by
  unfold Mo_isEnough
  have step : ∀ i, i < 4 → Mo_isEnough_l2 298 (nI set) (nI i) m = if 0 < lacksN W set i then some (.inr 0) else some (.inl (nI (i + 1))) := by
    intro i hi
    have := lacks_le I set i
    unfold Mo_isEnough_l2
    rw [if_neg (show ¬ (4 : Int32) ≤ nI i from nI_ge (b := 4) hi (by decide)), Mo_lacksOf_e hW I hs (by omega), bind_s]
    by_cases e : 0 < lacksN W set i
    · rw [if_neg (nI_nle e (by omega)), if_pos e, up_some]
    · rw [if_pos (show nI (lacksN W set i) ≤ 0 from nI_le (b := 0) (by omega) (by decide)), if_neg e, nI_1]
  have key := loop_find (b := fun s : Int32 => Mo_isEnough_l2 298 (nI set) s m) 4 (fun i => nI i) (fun i => 0 < lacksN W set i) (0 : Int32) (1 : Int32) rfl (fun i hi hp => ?_) (fun i hi hp => ?_) ?_
  · by_cases h : enoughN W set
    · have h2 := sN_z.mp h
      rw [show loop _ (0 : Int32) = _ from key.2 (fun ⟨i, hi, q⟩ => by have := h2 i hi; omega), b2_t h]
    · rw [show loop _ (0 : Int32) = _ from key.1 (Classical.byContradiction fun q => h (sN_z.mpr fun i hi => Classical.byContradiction fun z => q ⟨i, hi, by omega⟩)), b2_f h]
  · show Mo_isEnough_l2 298 (nI set) (nI i) m = _
    rw [step i hi, if_pos hp]
  · show Mo_isEnough_l2 298 (nI set) (nI i) m = _
    rw [step i hi, if_neg hp]
  · show Mo_isEnough_l2 298 (nI set) (nI 4) m = _
    unfold Mo_isEnough_l2
    rw [if_pos (show (4 : Int32) ≤ nI 4 from by decide), up_some]
theorem Mo_inHeaps_e (hW : MW m W) {s : Nat} (hs : s < 6) : Mo_inHeaps 298 (nI s) m = some (nI (sN (fun h => whe W h (3 + s)) 8)) := by
  unfold Mo_inHeaps
  refine loop_sum 8 (fun h => whe W h (3 + s)) (fun a => nI a) (fun h a hh ha => ?_) (fun a ha => ?_)
  · unfold Mo_inHeaps_l4
    rw [if_neg (show ¬ (8 : Int32) ≤ nI h from nI_ge (b := 8) hh (by decide)), qU hW hh hs, bind_s, nI_add, nI_1]
  · unfold Mo_inHeaps_l4
    rw [if_pos (show (8 : Int32) ≤ nI 8 from by decide), up_some]
theorem Mo_sleepers_e (hW : MW m W) : Mo_sleepers 298 m = some (nI (sN (fun g => wgr W g 2) 4)) := by
  unfold Mo_sleepers
  refine loop_sum 4 (fun g => wgr W g 2) (fun a => nI a) (fun g a hg ha => ?_) (fun a ha => ?_)
  · unfold Mo_sleepers_l4
    rw [if_neg (show ¬ (4 : Int32) ≤ nI g from nI_ge (b := 4) hg (by decide)), qG2 hW hg, bind_s, nI_add, nI_1]
  · unfold Mo_sleepers_l4
    rw [if_pos (show (4 : Int32) ≤ nI 4 from by decide), up_some]
end MWo
