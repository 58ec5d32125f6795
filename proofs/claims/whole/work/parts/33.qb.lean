/-! calls that only ask: lies, thin, apart, watch, watches, fault, struck, count -/
/-- the first for which it holds -/
def fsN {R : Type} (P : Nat → Prop) [DecidablePred P] (rA : Nat → R) (rB : R) : Nat → Nat → R
  | 0, _ => rB
  | k + 1, i => if P i then rA i else fsN P rA rB k (i + 1)
theorem loop_first {S R : Type} {b : S → Option (S ⊕ R)} (n : Nat) (st : Nat → S) (P : Nat → Prop) [DecidablePred P] (rA : Nat → R) (rB : R) {s0 : S} (h0 : st 0 = s0) (hp : ∀ i, i < n → P i → b (st i) = some (.inr (rA i))) (hn : ∀ i, i < n → ¬ P i → b (st i) = some (.inl (st (i + 1)))) (hx : b (st n) = some (.inr rB)) : loop b s0 = some (fsN P rA rB n 0) := by
  subst h0
  have key : ∀ k i, i + k = n → loop b (st i) = some (fsN P rA rB k i) := by
    intro k
    induction k with
    | zero =>
      intro i hi
      rw [show i = n by omega]
      exact loop_out hx
    | succ k ih =>
      intro i hi
      unfold fsN
      by_cases hP : P i
      · rw [if_pos hP]
        exact loop_out (hp i (by omega) hP)
      · rw [if_neg hP, loop_in (hn i (by omega) hP)]
        exact ih (i + 1) (by omega)
  exact key n 0 (by omega)
section QB
variable {m : Mem} {W : Wd}
def vThin (W : Wd) (x y : Int32) : Int32 := if inb x (W 5) then if inb y 10001 then fsN (fun i => oddsByN W (ix x) (nearN W (ix x) - i) ≤ ix y) (fun i => nI i) (-1) (nearN W (ix x) + 1) 0 else -2 else -2
theorem PL_thin_e (R : CR m 28 W) (I : Inv W) (x y : Int32) : PL_thin 1 x y m = some (vThin W x y) := by
  have d := I.d
  unfold PL_thin vThin
  rw [show Ta_has (1 + 29) x m = _ from Ta_has_e m R.nC (by omega) x, bind_s, ite_b2]
  by_cases h : inb x (W 5)
  · obtain ⟨k, hk, rfl⟩ := in_of h (by omega)
    have nl := near_le I k
    rw [if_pos h, if_pos h, show (10000 : Int32) = nI 10000 from rfl, ite_rle (by decide)]
    by_cases h2 : inb y 10001
    · obtain ⟨j, hj, rfl⟩ := in_of h2 (by decide)
      rw [if_pos h2, if_pos h2, show Ca_tonsNear (1 + 27) (nI k) m = _ from Ca_tonsNear_e R I hk, bind_s, ix_nI (by omega), ix_nI (by omega)]
      refine loop_first (nearN W k + 1) (fun i => nI i) _ _ _ rfl (fun i hi hp => ?_) (fun i hi hp => ?_) ?_
      · have := odds_le W k (nearN W k - i)
        show PL_thin_l43 1 (nI k) (nI j) (nI (nearN W k)) (nI i) m = _
        unfold PL_thin_l43
        rw [if_neg (nI_nlt (by omega) (by omega)), pk_sub (by omega), show Fl_oddsUnder (1 + 28) (nI k) (nI (nearN W k - i)) m = _ from Fl_oddsUnder_e R I hk (by omega), bind_s, if_neg (nI_nlt hp (by omega)), up_some]
      · have := odds_le W k (nearN W k - i)
        show PL_thin_l43 1 (nI k) (nI j) (nI (nearN W k)) (nI i) m = _
        unfold PL_thin_l43
        rw [if_neg (nI_nlt (by omega) (by omega)), pk_sub (by omega), show Fl_oddsUnder (1 + 28) (nI k) (nI (nearN W k - i)) m = _ from Fl_oddsUnder_e R I hk (by omega), bind_s, if_pos (nI_lt (by omega) (by omega)), nI_1]
      · show PL_thin_l43 1 (nI k) (nI j) (nI (nearN W k)) (nI (nearN W k + 1)) m = _
        unfold PL_thin_l43
        rw [if_pos (nI_lt (by omega) (by omega)), up_some]
    · rw [if_neg h2, if_neg h2]
  · rw [if_neg h, if_neg h]
theorem Mo_thin_e (hW : MW m W) (I : Inv W) (x y : Int32) : Mo_thin 298 x y m = some (vThin W x y) := by
  have d := I.d
  unfold Mo_thin vThin
  rw [Mo_isCrack_e hW (by omega) x, bind_s, ite_b2]
  by_cases h : inb x (W 5)
  · obtain ⟨k, hk, rfl⟩ := in_of h (by omega)
    have nl := near_le I k
    rw [if_pos h, if_pos h, in0 m y (n := 10001) (by decide) (by decide), bind_s, ite_b2]
    by_cases h2 : inb y 10001
    · obtain ⟨j, hj, rfl⟩ := in_of h2 (by decide)
      rw [if_pos h2, if_pos h2, Mo_nearOf_e hW I hk, bind_s, ix_nI (by omega), ix_nI (by omega)]
      refine loop_first (nearN W k + 1) (fun i => nI i) _ _ _ rfl (fun i hi hp => ?_) (fun i hi hp => ?_) ?_
      · have := odds_le W k (nearN W k - i)
        show Mo_thin_l32 298 (nI k) (nI j) (nI (nearN W k)) (nI i) m = _
        unfold Mo_thin_l32
        rw [if_neg (nI_nlt (by omega) (by omega)), pk_sub (by omega), Mo_oddsBy_e hW I hk (by omega), bind_s, if_neg (nI_nlt hp (by omega)), up_some]
      · have := odds_le W k (nearN W k - i)
        show Mo_thin_l32 298 (nI k) (nI j) (nI (nearN W k)) (nI i) m = _
        unfold Mo_thin_l32
        rw [if_neg (nI_nlt (by omega) (by omega)), pk_sub (by omega), Mo_oddsBy_e hW I hk (by omega), bind_s, if_pos (nI_lt (by omega) (by omega)), nI_1]
      · show Mo_thin_l32 298 (nI k) (nI j) (nI (nearN W k)) (nI (nearN W k + 1)) m = _
        unfold Mo_thin_l32
        rw [if_pos (nI_lt (by omega) (by omega)), up_some]
    · rw [if_neg h2, if_neg h2]
  · rw [if_neg h, if_neg h]
theorem st_thin (x y : Int32) : Same (rd (PL_thin 1 x y)) (rd (Mo_thin 298 x y)) :=
  Same_q (fun W _ => vThin W x y) (fun _ _ _ R I => Ok_rd (PL_thin_e R I x y)) (fun _ _ _ hW I => Ok_rd (Mo_thin_e hW I x y)) (fun _ _ _ _ => rfl)
def apS (W : Wd) (x y : Nat) : Nat → Int32
  | 0 => -1
  | k + 1 => if apS W x y k = -1 then nI (cbN W k x y) else jmin (apS W x y k) (nI (cbN W k x y))
def vApart (W : Wd) (x y : Int32) : Int32 := if inb x (W 1) ∧ inb y (W 2) then apS W (ix x) (ix y) (W 5) else -2
theorem PL_apart_e (R : CR m 28 W) (I : Inv W) (x y : Int32) : PL_apart 1 x y m = some (vApart W x y) := by
  have d := I.d
  unfold PL_apart vApart
  rw [fl_hasCell R I, bind_s, ite_b2]
  by_cases h : inb x (W 1) ∧ inb y (W 2)
  · obtain ⟨a, ha, rfl⟩ := in_of h.1 (by omega)
    obtain ⟨b, hb, rfl⟩ := in_of h.2 (by omega)
    rw [if_pos h, if_pos h, ix_nI (by omega), ix_nI (by omega)]
    refine loop_cnt (W 5) (fun i => (apS W a b i, nI i)) rfl (fun k hk => ?_) ?_
    · show PL_apart_l23 1 (nI a) (nI b) (apS W a b k) (nI k) m = _
      unfold PL_apart_l23 PL_apart_b68 PL_apart_b71
      rw [show rI m (1 + 29) 1 = nI (W 5) from R.nC, if_neg (nI_ge hk (by omega)), show Fl_cellsBetween (1 + 28) (nI k) (nI a) (nI b) m = _ from Fl_cellsBetween_e R I hk (by omega) (by omega), bind_s, nI_1]
      show _ = some (Sum.inl ((if apS W a b k = -1 then nI (cbN W k a b) else jmin (apS W a b k) (nI (cbN W k a b))), nI (k + 1)))
      by_cases e : apS W a b k = -1
      · rw [if_pos e, if_pos e]
      · rw [if_neg e, if_neg e]
        unfold jmin
        by_cases e2 : apS W a b k ≤ nI (cbN W k a b)
        · rw [if_pos e2, if_neg (Int32.not_lt.mpr e2)]
        · rw [if_neg e2, if_pos (Int32.not_le.mp e2)]
    · show PL_apart_l23 1 (nI a) (nI b) (apS W a b (W 5)) (nI (W 5)) m = _
      unfold PL_apart_l23
      rw [show rI m (1 + 29) 1 = nI (W 5) from R.nC, if_pos (nI_le (Nat.le_refl _) (by omega)), up_some]
  · rw [if_neg h, if_neg h]
theorem Mo_apart_e (hW : MW m W) (I : Inv W) (x y : Int32) : Mo_apart 298 x y m = some (vApart W x y) := by
  have d := I.d
  unfold Mo_apart vApart
  rw [Mo_isCell_e hW (by omega) (by omega), bind_s, ite_b2]
  by_cases h : inb x (W 1) ∧ inb y (W 2)
  · obtain ⟨a, ha, rfl⟩ := in_of h.1 (by omega)
    obtain ⟨b, hb, rfl⟩ := in_of h.2 (by omega)
    rw [if_pos h, if_pos h, ix_nI (by omega), ix_nI (by omega)]
    refine loop_cnt (W 5) (fun i => (apS W a b i, nI i)) rfl (fun k hk => ?_) ?_
    · obtain ⟨c0, c1, c2, c3, -⟩ := I.C hk
      have fin : ∀ z : Int32, z = nI (cbN W k a b) → Mo_apart_b76 298 (nI a) (nI b) (apS W a b k) (nI k) z m = some (Sum.inl ((if apS W a b k = -1 then nI (cbN W k a b) else jmin (apS W a b k) (nI (cbN W k a b))), nI (k + 1))) := by
        intro z hz
        unfold Mo_apart_b76 Mo_apart_b94
        rw [hz, nI_1]
        by_cases e : apS W a b k = -1
        · rw [if_pos e, if_pos e]
        · rw [if_neg e, if_neg e]
      have key : ∀ z : Nat, z < 2147483648 → z = sdN W k a b → Mo_apart_b43 298 (nI a) (nI b) (apS W a b k) (nI k) (nI z) m = some (Sum.inl ((if apS W a b k = -1 then nI (cbN W k a b) else jmin (apS W a b k) (nI (cbN W k a b))), nI (k + 1))) := by
        intro z hz hs
        unfold Mo_apart_b43
        rw [qC1 hW (by omega), bind_s]
        by_cases e : z < wcr W k 1
        · rw [if_pos (nI_lt e (by omega))]
          refine fin _ ?_
          unfold cbN
          rw [← hs, if_pos e, nI_p1 c1, pk_sub (by omega)]
        · rw [if_neg (nI_nlt (by omega) hz)]
          refine fin _ ?_
          unfold cbN
          rw [← hs, if_neg e, pk_sub (by omega)]
      show Mo_apart_l17 298 (nI a) (nI b) (apS W a b k) (nI k) m = _
      unfold Mo_apart_l17
      rw [gd_t (by decide), qW5 hW, if_neg (nI_ge hk (by omega)), qC0 hW (by omega), bind_s]
      by_cases h0 : wcr W k 0 = 0
      · rw [h0, if_pos (by decide)]
        exact key a (by omega) (by unfold sdN; rw [if_pos h0])
      · rw [if_neg (nI_ne0 (by omega) (by omega))]
        exact key b (by omega) (by unfold sdN; rw [if_neg h0])
    · show Mo_apart_l17 298 (nI a) (nI b) (apS W a b (W 5)) (nI (W 5)) m = _
      unfold Mo_apart_l17
      rw [gd_t (by decide), qW5 hW, if_pos (nI_le (Nat.le_refl _) (by omega)), up_some]
  · rw [if_neg h, if_neg h]
theorem st_apart (x y : Int32) : Same (rd (PL_apart 1 x y)) (rd (Mo_apart 298 x y)) :=
  Same_q (fun W _ => vApart W x y) (fun _ _ _ R I => Ok_rd (PL_apart_e R I x y)) (fun _ _ _ hW I => Ok_rd (Mo_apart_e hW I x y)) (fun _ _ _ _ => rfl)
def wtL (W : Wd) : Nat → Int64
  | 0 => 1000000000000
  | n + 1 => wtL W n * (100 - nI (W 13)).toInt64 / 100
theorem PL_unseenBy_e (R : CR m 28 W) {n : Nat} (hn : n < 2147483648) : PL_unseenBy 1 (nI n) m = some (wtL W n) := by
  unfold PL_unseenBy
  refine loop_cnt n (fun i => (wtL W i, nI i)) rfl (fun k hk => ?_) ?_
  · show PL_unseenBy_l7 1 (nI n) (wtL W k) (nI k) m = _
    unfold PL_unseenBy_l7
    rw [if_neg (nI_ge hk hn), show rI m (1 + 28) 10 = nI (W 13) from cf10 R, nI_1]
    rfl
  · show PL_unseenBy_l7 1 (nI n) (wtL W n) (nI n) m = _
    unfold PL_unseenBy_l7
    rw [if_pos (nI_le (Nat.le_refl _) hn), up_some]
theorem Mo_watchOf_e (hW : MW m W) {n : Nat} (hn : n < 2147483648) : Mo_watchOf 298 (nI n) m = some (wtL W n) := by
  unfold Mo_watchOf
  refine loop_cnt n (fun i => (wtL W i, nI i)) rfl (fun k hk => ?_) ?_
  · show Mo_watchOf_l7 298 (nI n) (wtL W k) (nI k) m = _
    unfold Mo_watchOf_l7
    rw [if_neg (nI_ge hk hn), qW13 hW, nI_1, gd_t (by decide)]
    rfl
  · show Mo_watchOf_l7 298 (nI n) (wtL W n) (nI n) m = _
    unfold Mo_watchOf_l7
    rw [if_pos (nI_le (Nat.le_refl _) hn), up_some]
def vWatch (W : Wd) (x : Int32) : Int64 := if inb x 29 then wtL W (ix x) else -2
theorem PL_watch_e (R : CR m 28 W) (x : Int32) : PL_watch 1 x m = some (vWatch W x) := by
  unfold PL_watch PL_watch_b10 vWatch
  rw [show (28 : Int32) = nI 28 from rfl, ite_rle (by decide)]
  by_cases h : inb x 29
  · obtain ⟨k, hk, rfl⟩ := in_of h (by omega)
    rw [if_pos h, if_pos h, PL_unseenBy_e R (by omega), bind_s, ix_nI (by omega)]
  · rw [if_neg h, if_neg h]
theorem Mo_watch_e (hW : MW m W) (x : Int32) : Mo_watch 298 x m = some (vWatch W x) := by
  unfold Mo_watch vWatch
  rw [in0 m x (n := 29) (by decide) (by decide), bind_s, ite_b2]
  by_cases h : inb x 29
  · obtain ⟨k, hk, rfl⟩ := in_of h (by omega)
    rw [if_pos h, if_pos h, Mo_watchOf_e hW (by omega), bind_s, ix_nI (by omega)]
  · rw [if_neg h, if_neg h]
theorem st_watch (x : Int32) : Same (rd (PL_watch 1 x)) (rd (Mo_watch 298 x)) :=
  Same_q (fun W _ => vWatch W x) (fun _ _ _ R I => Ok_rd (PL_watch_e R x)) (fun _ _ _ hW I => Ok_rd (Mo_watch_e hW x)) (fun _ _ _ _ => rfl)
theorem PL_isThousandths_e (m : Mem) (x : Int32) : PL_isThousandths x m = some (b2 (inb x 1001)) := by
  unfold PL_isThousandths
  rw [show (1000 : Int32) = nI 1000 from rfl, ite_rgt (by decide)]
  by_cases h : inb x 1001
  · rw [if_pos h, b2_t h]
  · rw [if_neg h, b2_f h]
def vWatches (W : Wd) (x : Int32) : Int32 := if inb x 1001 then fsN (fun i => ¬ x.toInt64 * 1000000000 < wtL W i) (fun i => nI i) (-1) 29 0 else -2
theorem PL_watches_e (R : CR m 28 W) (x : Int32) : PL_watches 1 x m = some (vWatches W x) := by
  unfold PL_watches vWatches
  rw [PL_isThousandths_e, bind_s, ite_b2]
  by_cases h : inb x 1001
  · rw [if_pos h, if_pos h]
    refine loop_first 29 (fun i => nI i) _ _ _ rfl (fun i hi hp => ?_) (fun i hi hp => ?_) ?_
    · show PL_watches_l12 1 x (nI i) m = _
      unfold PL_watches_l12
      rw [if_neg (show ¬ (28 : Int32) < nI i from nI_nlt (a := 28) (by omega) (by decide)), PL_unseenBy_e R (by omega), bind_s, if_neg hp, up_some]
    · show PL_watches_l12 1 x (nI i) m = _
      unfold PL_watches_l12
      rw [if_neg (show ¬ (28 : Int32) < nI i from nI_nlt (a := 28) (by omega) (by decide)), PL_unseenBy_e R (by omega), bind_s, if_pos (Classical.byContradiction hp), nI_1]
    · show PL_watches_l12 1 x (nI 29) m = _
      unfold PL_watches_l12
      rw [if_pos (show (28 : Int32) < nI 29 by decide), up_some]
  · rw [if_neg h, if_neg h]
theorem Mo_watches_e (hW : MW m W) (x : Int32) : Mo_watches 298 x m = some (vWatches W x) := by
  unfold Mo_watches vWatches
  rw [in0 m x (n := 1001) (by decide) (by decide), bind_s, ite_b2]
  by_cases h : inb x 1001
  · rw [if_pos h, if_pos h]
    refine loop_first 29 (fun i => nI i) _ _ _ rfl (fun i hi hp => ?_) (fun i hi hp => ?_) ?_
    · show Mo_watches_l17 298 x (nI i) m = _
      unfold Mo_watches_l17
      rw [if_neg (show ¬ (28 : Int32) < nI i from nI_nlt (a := 28) (by omega) (by decide)), Mo_watchOf_e hW (by omega), bind_s, if_neg hp, up_some]
    · show Mo_watches_l17 298 x (nI i) m = _
      unfold Mo_watches_l17
      rw [if_neg (show ¬ (28 : Int32) < nI i from nI_nlt (a := 28) (by omega) (by decide)), Mo_watchOf_e hW (by omega), bind_s, if_pos (Classical.byContradiction hp), nI_1]
    · show Mo_watches_l17 298 x (nI 29) m = _
      unfold Mo_watches_l17
      rw [if_pos (show (28 : Int32) < nI 29 by decide), up_some]
  · rw [if_neg h, if_neg h]
theorem st_watches (x : Int32) : Same (rd (PL_watches 1 x)) (rd (Mo_watches 298 x)) :=
  Same_q (fun W _ => vWatches W x) (fun _ _ _ R I => Ok_rd (PL_watches_e R x)) (fun _ _ _ hW I => Ok_rd (Mo_watches_e hW x)) (fun _ _ _ _ => rfl)
def vLies (W : Wd) (h w : Int32) : Int32 := if inb h 8 then if inb w (3 + W 6) then if whe W (ix h) 0 = 1 then (if ix w = 2 then nI (tonsN W (ix h)) else if ix w < 2 then nI (whe W (ix h) (1 + ix w)) else nI (whe W (ix h) (ix w))) else -1 else -2 else -2
theorem PL_lies_e (R : CR m 28 W) (I : Inv W) (h w : Int32) : PL_lies 1 h w m = some (vLies W h w) := by
  have d := I.d
  have key : ∀ s : Int32, (∀ j, w = nI j → 3 ≤ j → j < 2147483648 → s = nI (j - 3)) → PL_lies_b12 1 h w s m = some (vLies W h w) := by
    intro s hs
    unfold PL_lies_b12 vLies
    rw [PL_isHeap_e, bind_s, ite_b2]
    by_cases hh : inb h 8
    · obtain ⟨a, ha, rfl⟩ := in_of hh (by decide)
      rw [if_pos hh, if_pos hh, ix_nI (by omega)]
      by_cases w0 : w < 0
      · rw [if_pos w0, if_neg (fun q => q (Or.inl w0))]
      · rw [if_neg w0]
        obtain ⟨j, hj, rfl⟩ := nI_of w0
        have b49 : inb (nI j) (3 + W 6) → PL_lies_b49 1 (nI a) (nI j) s m = some (if whe W a 0 = 1 then (if j = 2 then nI (tonsN W a) else if j < 2 then nI (whe W a (1 + j)) else nI (whe W a j)) else -1) := by
          intro hin
          obtain ⟨j2, hj2, e2⟩ := in_of hin (by omega)
          have e3 : j = j2 := (nI_eq (by omega) (by omega)).mp e2
          have hx := R.hx ha
          have hy := R.hy ha
          unfold hxI at hx
          unfold PL_lies_b49
          rw [show Ca_hasHeap (1 + 27) (nI a) m = _ from Ca_hasHeap_e R I ha, bind_s, ite_b2]
          by_cases q : whe W a 0 = 1
          · rw [if_pos q] at hx
            rw [if_pos q, if_pos q, gd_in ha (by decide), gd_in ha (by decide), ix_nI (by omega), show rI m (1 + 52) a = nI (whe W a 1) from hx, show rI m (1 + 53) a = nI (whe W a 2) from hy]
            by_cases j0 : j = 0
            · subst j0; rfl
            · by_cases j1 : j = 1
              · subst j1; rfl
              · by_cases j2 : j = 2
                · subst j2
                  rw [if_neg (by decide), if_neg (by decide), if_pos (by decide), if_pos rfl, show Ca_tonsOf (1 + 27) (nI a) m = _ from Ca_tonsOf_e R I ha, bind_s]
                · rw [if_neg (nI_ne0 (by omega) (by omega)), if_neg (show ¬ nI j = 1 from fun z => j1 ((nI_eq (b := 1) (by omega) (by decide)).mp z)), if_neg (show ¬ nI j = 2 from fun z => j2 ((nI_eq (b := 2) (by omega) (by decide)).mp z)), if_neg j2, if_neg (by omega), hs j rfl (by omega) (by omega), show Ca_unitsIn (1 + 27) (nI a) (nI (j - 3)) m = _ from Ca_unitsIn_e R ha (by omega), bind_s, show 3 + (j - 3) = j by omega]
          · rw [if_neg q, if_neg q]
        by_cases j3 : j ≤ 2
        · rw [if_pos (show nI j ≤ 2 from nI_le (b := 2) j3 (by decide)), if_pos (in_nI (by omega) (by omega)), b49 (in_nI (by omega) (by omega)), ix_nI (by omega)]
        · rw [if_neg (show ¬ nI j ≤ 2 from nI_ge (a := 2) (by omega) (by omega)), show Ta_has (1 + 38) s m = _ from Ta_has_e m R.nS (by omega) s, bind_s, ite_b2, hs j rfl (by omega) (by omega)]
          by_cases j4 : j < 3 + W 6
          · rw [if_pos (in_nI (by omega) (by omega)), if_pos (in_nI (by omega) (by omega)), ix_nI (by omega)]
            have := b49 (in_nI (by omega) (by omega))
            rw [hs j rfl (by omega) (by omega)] at this
            exact this
          · have e1 := nI_clamp (show j - 3 < 2147483648 by omega)
            have e2 := nI_clamp (show j < 2147483648 by omega)
            rw [if_neg (fun q => q (Or.inr (by omega))), if_neg (fun q => q (Or.inr (by omega)))]
    · rw [if_neg hh, if_neg hh]
  unfold PL_lies
  by_cases w3 : 3 ≤ w
  · rw [if_pos w3]
    refine key _ (fun j e h1 h2 => ?_)
    rw [e]
    exact pk_sub (b := 3) h1
  · rw [if_neg w3]
    refine key _ (fun j e h1 h2 => absurd ?_ w3)
    rw [e]
    exact nI_le (a := 3) h1 h2
theorem Mo_lies_e (hW : MW m W) (I : Inv W) (h w : Int32) : Mo_lies 298 h w m = some (vLies W h w) := by
  have d := I.d
  unfold Mo_lies vLies
  rw [Mo_isHeap_e, bind_s, ite_b2]
  by_cases hh : inb h 8
  · obtain ⟨a, ha, rfl⟩ := in_of hh (by decide)
    rw [if_pos hh, if_pos hh, gd_t (by decide), qW6 hW, in0 m w (n := 3 + W 6) (by omega) ?_, bind_s, ite_b2, ix_nI (by omega)]
    · by_cases hw : inb w (3 + W 6)
      · obtain ⟨j, hj, rfl⟩ := in_of hw (by omega)
        rw [if_pos hw, if_pos hw, qT hW ha (I.H ha).1, bind_s, ite_b2, ix_nI (by omega)]
        by_cases q : whe W a 0 = 1
        · rw [if_pos q, if_pos q]
          by_cases j2 : j = 2
          · subst j2
            rw [if_pos (by decide), if_pos (by decide), if_pos rfl, Mo_tonsOf_n hW I ha, bind_s]
          · by_cases j1 : j < 2
            · rw [if_neg (show ¬ 2 ≤ nI j from nI_ge (b := 2) j1 (by decide)), if_neg j2, if_pos j1, show (1 : Int32) + nI j = nI (1 + j) from nI_add 1 j, Mo_ofHeap_e m ha (by omega), bind_s, hW _ (by omega)]
            · rw [if_pos (show 2 ≤ nI j from nI_le (a := 2) (by omega) (by omega)), if_neg (show ¬ nI j = 2 from fun z => j2 ((nI_eq (b := 2) (by omega) (by decide)).mp z)), if_neg j2, if_neg j1, Mo_ofHeap_e m ha (by omega), bind_s, hW _ (by omega)]
        · rw [if_neg q, if_neg q]
      · rw [if_neg hw, if_neg hw]
    · rw [show (2 : Int32) = nI 2 from rfl, nI_add, show nI (3 + W 6) - 1 = nI (3 + W 6 - 1) from pk_sub (b := 1) (by omega), show 2 + W 6 = 3 + W 6 - 1 by omega]
  · rw [if_neg hh, if_neg hh]
theorem st_lies (x y : Int32) : Same (rd (PL_lies 1 x y)) (rd (Mo_lies 298 x y)) :=
  Same_q (fun W _ => vLies W x y) (fun _ _ _ R I => Ok_rd (PL_lies_e R I x y)) (fun _ _ _ hW I => Ok_rd (Mo_lies_e hW I x y)) (fun _ _ _ _ => rfl)
end QB
