/-! calls that only ask: near, odds, seam, piece -/
section QA
variable {m : Mem} {W : Wd}
def vCr (W : Wd) (x : Int32) (f : Nat → Nat) : Int32 := if inb x (W 5) then nI (f (ix x)) else -2
theorem PL_near_e (R : CR m 28 W) (I : Inv W) (x : Int32) : PL_near 1 x m = some (vCr W x (nearN W)) := by
  have d := I.d
  unfold PL_near vCr
  rw [show Ta_has (1 + 29) x m = _ from Ta_has_e m R.nC (by omega) x, bind_s, ite_b2]
  by_cases h : inb x (W 5)
  · obtain ⟨k, hk, rfl⟩ := in_of h (by omega)
    rw [if_pos h, if_pos h, show Ca_tonsNear (1 + 27) (nI k) m = _ from Ca_tonsNear_e R I hk, bind_s, ix_nI (by omega)]
  · rw [if_neg h, if_neg h]
theorem Mo_near_e (hW : MW m W) (I : Inv W) (x : Int32) : Mo_near 298 x m = some (vCr W x (nearN W)) := by
  have d := I.d
  unfold Mo_near vCr
  rw [Mo_isCrack_e hW (by omega) x, bind_s, ite_b2]
  by_cases h : inb x (W 5)
  · obtain ⟨k, hk, rfl⟩ := in_of h (by omega)
    rw [if_pos h, if_pos h, Mo_nearOf_e hW I hk, bind_s, ix_nI (by omega)]
  · rw [if_neg h, if_neg h]
theorem st_near (x : Int32) : Same (rd (PL_near 1 x)) (rd (Mo_near 298 x)) :=
  Same_q (fun W _ => vCr W x (nearN W)) (fun _ _ _ R I => Ok_rd (PL_near_e R I x)) (fun _ _ _ hW I => Ok_rd (Mo_near_e hW I x)) (fun _ _ _ _ => rfl)
theorem PL_odds_e (R : CR m 28 W) (I : Inv W) (x : Int32) : PL_odds 1 x m = some (vCr W x (oddsN W)) := by
  have d := I.d
  unfold PL_odds vCr
  rw [show Ta_has (1 + 29) x m = _ from Ta_has_e m R.nC (by omega) x, bind_s, ite_b2]
  by_cases h : inb x (W 5)
  · obtain ⟨k, hk, rfl⟩ := in_of h (by omega)
    rw [if_pos h, if_pos h, show Ca_oddsOf (1 + 27) (nI k) m = _ from Ca_oddsOf_e R I hk, bind_s, ix_nI (by omega)]
  · rw [if_neg h, if_neg h]
theorem Mo_odds_e (hW : MW m W) (I : Inv W) (x : Int32) : Mo_odds 298 x m = some (vCr W x (oddsN W)) := by
  have d := I.d
  unfold Mo_odds vCr
  rw [Mo_isCrack_e hW (by omega) x, bind_s, ite_b2]
  by_cases h : inb x (W 5)
  · obtain ⟨k, hk, rfl⟩ := in_of h (by omega)
    rw [if_pos h, if_pos h, Mo_oddsOf_e hW I hk, bind_s, ix_nI (by omega)]
  · rw [if_neg h, if_neg h]
theorem st_odds (x : Int32) : Same (rd (PL_odds 1 x)) (rd (Mo_odds 298 x)) :=
  Same_q (fun W _ => vCr W x (oddsN W)) (fun _ _ _ R I => Ok_rd (PL_odds_e R I x)) (fun _ _ _ hW I => Ok_rd (Mo_odds_e hW I x)) (fun _ _ _ _ => rfl)
theorem odds_lt (W : Wd) (k : Nat) : oddsN W k ≤ 10000 := odds_le W k _
def smN (W : Wd) (k : Nat) : Nat := (100 * oddsN W k + 10000 * wcr W k 7) / (100 + W 19)
theorem sm_e (I : Inv W) {k : Nat} (hk : k < W 5) : (100 * nI (oddsN W k) + 10000 * nI (wcr W k 7)) / (100 + nI (W 19)) = nI (smN W k) := by
  have := odds_lt W k
  obtain ⟨-, -, -, -, -, -, -, -, -, c9⟩ := I.C hk
  obtain ⟨-, -, -, -, -, -, -, -, -, -, -, -, b19⟩ := I.2.1
  rw [show (100 : Int32) = nI 100 from rfl, show (10000 : Int32) = nI 10000 from rfl, pk_mul, pk_mul, nI_add, nI_add, pk_div (by omega) (by omega) (by omega)]
  rfl
theorem PL_seam_e (R : CR m 28 W) (I : Inv W) (x : Int32) : PL_seam 1 x m = some (vCr W x (smN W)) := by
  have d := I.d
  obtain ⟨-, -, -, -, -, -, -, -, -, -, -, -, b19⟩ := I.2.1
  unfold PL_seam vCr
  rw [show Ta_has (1 + 29) x m = _ from Ta_has_e m R.nC (by omega) x, bind_s, ite_b2]
  by_cases h : inb x (W 5)
  · obtain ⟨k, hk, rfl⟩ := in_of h (by omega)
    rw [if_pos h, if_pos h, show Ca_oddsOf (1 + 27) (nI k) m = _ from Ca_oddsOf_e R I hk, bind_s, show rI m (1 + 27) 9 = nI (W 19) from R.wa, ix_nI (by omega), show rI m (1 + 66) k = nI (wcr W k 7) from R.se (by omega), show jmax 0 (nI (W 19)) = nI (W 19) from ?_, gd_in (n := 7) (by omega) (by decide), gd_t, sm_e I hk]
    · rw [show (100 : Int32) = nI 100 from rfl, nI_add]
      exact nI_ne0 (by omega) (by omega)
    · have := jmax_nI (a := 0) (b := W 19) (by decide) (by omega)
      rw [Nat.max_eq_right (by omega)] at this
      exact this
  · rw [if_neg h, if_neg h]
theorem Mo_seam_e (hW : MW m W) (I : Inv W) (x : Int32) : Mo_seam 298 x m = some (vCr W x (smN W)) := by
  have d := I.d
  obtain ⟨-, -, -, -, -, -, -, -, -, -, -, -, b19⟩ := I.2.1
  unfold Mo_seam vCr
  rw [Mo_isCrack_e hW (by omega) x, bind_s, ite_b2]
  by_cases h : inb x (W 5)
  · obtain ⟨k, hk, rfl⟩ := in_of h (by omega)
    rw [if_pos h, if_pos h, Mo_oddsOf_e hW I hk, bind_s, qC7 hW (by omega), bind_s, qW19 hW, ix_nI (by omega), gd_t (by decide), gd_t, sm_e I hk]
    rw [show (100 : Int32) = nI 100 from rfl, nI_add]
    exact nI_ne0 (by omega) (by omega)
  · rw [if_neg h, if_neg h]
theorem st_seam (x : Int32) : Same (rd (PL_seam 1 x)) (rd (Mo_seam 298 x)) :=
  Same_q (fun W _ => vCr W x (smN W)) (fun _ _ _ R I => Ok_rd (PL_seam_e R I x)) (fun _ _ _ hW I => Ok_rd (Mo_seam_e hW I x)) (fun _ _ _ _ => rfl)
theorem fl_hasSet (R : CR m 28 W) (I : Inv W) (x : Int32) : Fl_hasSet (1 + 28) x m = some (b2 (0 < W 1 ∧ inb x (2 ^ W 5))) := Fl_hasSet_e R I x
theorem fl_hasCell (R : CR m 28 W) (I : Inv W) (x y : Int32) : Fl_hasCell (1 + 28) x y m = some (b2 (inb x (W 1) ∧ inb y (W 2))) := Fl_hasCell_e R I x y
theorem fl_there (R : CR m 28 W) (I : Inv W) : Fl_isThere (1 + 28) m = some (b2 (0 < W 1)) := Fl_isThere_e R I
def vPiece (W : Wd) (s x y : Int32) : Int32 := if 0 < W 1 ∧ inb s (2 ^ W 5) then if inb x (W 1) ∧ inb y (W 2) then nI (pieceN W (ix s) (ix x) (ix y)) else -2 else -2
theorem pop_and (a b c : Nat) (n : Nat) (h : ∀ k, k < n → (a.testBit k = true ↔ b.testBit k = true ∧ c.testBit k = true)) : popN n a = sN (fun k => if b.testBit k = true ∧ c.testBit k = true then 1 else 0) n :=
  sN_cong (fun k hk => by simp only [h k hk])
theorem pc_e (I : Inv W) {s x y : Nat} (hs : s < 2 ^ W 5) (hx : x < 2147483648) (hy : y < 2147483648) :
    popN 7 (byN W (nI x) (nI y) &&& s) - popN 7 ((byN W (nI x) (nI y) &&& s) &&& alN W) + 8 * popN 7 ((byN W (nI x) (nI y) &&& s) &&& alN W) = pieceN W s x y ∧ popN 7 ((byN W (nI x) (nI y) &&& s) &&& alN W) ≤ popN 7 (byN W (nI x) (nI y) &&& s) ∧ popN 7 (byN W (nI x) (nI y) &&& s) ≤ 7 := by
  have d := I.d
  have cut : ∀ (f : Nat → Nat) n, (∀ k, W 5 ≤ k → f k = 0) → sN f (W 5 + n) = sN f (W 5) := by
    intro f n hf
    induction n with
    | zero => rfl
    | succ n ih =>
      show sN f (W 5 + n) + f (W 5 + n) = _
      rw [ih, hf _ (by omega), Nat.add_zero]
  have bb : ∀ k, k < W 5 → ((byN W (nI x) (nI y)).testBit k = true ↔ wcr W k 1 ≤ sdN W k x y) := by
    intro k hk
    unfold byN
    rw [bs_bit, byB_n I hk hx hy]
    simp [hk]
  have ba : ∀ k, k < W 5 → ((alN W).testBit k = true ↔ wcr W k 0 = 1) := by
    intro k hk
    unfold alN
    rw [bs_bit]
    simp [hk]
  have sz : ∀ k, W 5 ≤ k → s.testBit k = false := fun k hk => Nat.testBit_lt_two_pow (Nat.lt_of_lt_of_le hs (p2le hk))
  have e1 : popN 7 (byN W (nI x) (nI y) &&& s) = sN (fun k => if s.testBit k = true ∧ wcr W k 1 ≤ sdN W k x y then 1 else 0) (W 5) := by
    unfold popN
    rw [show (7 : Nat) = W 5 + (7 - W 5) by omega, cut _ _ (fun k hk => by simp [Nat.testBit_and, sz k hk])]
    refine sN_cong (fun k hk => ?_)
    simp only [Nat.testBit_and, Bool.and_eq_true, bb k hk, and_comm]
  have e2 : popN 7 ((byN W (nI x) (nI y) &&& s) &&& alN W) = sN (fun k => if (s.testBit k = true ∧ wcr W k 1 ≤ sdN W k x y) ∧ wcr W k 0 = 1 then 1 else 0) (W 5) := by
    unfold popN
    rw [show (7 : Nat) = W 5 + (7 - W 5) by omega, cut _ _ (fun k hk => by simp [Nat.testBit_and, sz k hk])]
    refine sN_cong (fun k hk => ?_)
    simp only [Nat.testBit_and, Bool.and_eq_true, bb k hk, ba k hk, and_comm]
  have e3 : sN (fun k => if (s.testBit k = true ∧ wcr W k 1 ≤ sdN W k x y) ∧ wcr W k 0 = 1 then 1 else 0) (W 5) ≤ sN (fun k => if s.testBit k = true ∧ wcr W k 1 ≤ sdN W k x y then 1 else 0) (W 5) :=
    sN_mono (fun k _ => by
      by_cases q : s.testBit k = true ∧ wcr W k 1 ≤ sdN W k x y
      · rw [if_pos q]; split <;> omega
      · rw [if_neg q, if_neg (fun z => q z.1)]; exact Nat.le_refl _)
  have e4 : sN (fun k => if s.testBit k = true ∧ wcr W k 1 ≤ sdN W k x y then 1 else 0) (W 5) + 7 * sN (fun k => if (s.testBit k = true ∧ wcr W k 1 ≤ sdN W k x y) ∧ wcr W k 0 = 1 then 1 else 0) (W 5) = pieceN W s x y := by
    unfold pieceN
    rw [← sN_mul, ← sN_add]
    refine sN_cong (fun k hk => ?_)
    obtain ⟨c0, -⟩ := I.C hk
    by_cases q : s.testBit k = true ∧ wcr W k 1 ≤ sdN W k x y
    · simp only [q, and_self, true_and, if_true]
      rcases (show wcr W k 0 = 0 ∨ wcr W k 0 = 1 by omega) with h | h
      · rw [if_neg (by omega), if_pos h]
      · rw [if_pos h, if_neg (by omega)]
    · rw [if_neg q, if_neg q, if_neg (fun z => q z.1)]
  have e5 := sN_le (f := fun k => if s.testBit k = true ∧ wcr W k 1 ≤ sdN W k x y then 1 else 0) (c := 1) (n := W 5) (fun k _ => by split <;> omega)
  rw [e1, e2]
  omega
theorem PL_piece_e (R : CR m 28 W) (I : Inv W) (s x y : Int32) : PL_piece 1 s x y m = some (vPiece W s x y) := by
  have d := I.d
  have h7 := p2le (k := W 5) (n := 7) (by omega)
  have h128 : (2 : Nat) ^ 7 = 128 := by decide
  unfold PL_piece vPiece
  rw [fl_hasSet R I, bind_s, ite_b2]
  by_cases h : 0 < W 1 ∧ inb s (2 ^ W 5)
  · obtain ⟨k, hk, rfl⟩ := in_of h.2 (by omega)
    rw [if_pos h, if_pos h, fl_hasCell R I, bind_s, ite_b2]
    by_cases h2 : inb x (W 1) ∧ inb y (W 2)
    · obtain ⟨a, ha, rfl⟩ := in_of h2.1 (by omega)
      obtain ⟨b, hb, rfl⟩ := in_of h2.2 (by omega)
      have l1 : byN W (nI a) (nI b) &&& k < 128 := Nat.lt_of_le_of_lt Nat.and_le_right (by omega)
      have l2 : (byN W (nI a) (nI b) &&& k) &&& alN W < 128 := Nat.lt_of_le_of_lt Nat.and_le_left l1
      obtain ⟨p1, p2, p3⟩ := pc_e I hk (show a < 2147483648 by omega) (show b < 2147483648 by omega)
      rw [if_pos h2, if_pos h2, show Fl_beyond (1 + 28) (nI a) (nI b) m = _ from Fl_beyond_e R I _ _, bind_s, show Fl_alongs (1 + 28) m = _ from Fl_alongs_e R I, bind_s, nI_and, nI_and, bitCount_7 m l1, bind_s, bitCount_7 m l2, bind_s, bind_s, pk_sub p2, show (8 : Int32) = nI 8 from rfl, pk_mul, nI_add, p1, ix_nI (by omega), ix_nI (by omega), ix_nI (by omega)]
    · rw [if_neg h2, if_neg h2]
  · rw [if_neg h, if_neg h]
theorem Mo_piece_e (hW : MW m W) (I : Inv W) (s x y : Int32) : Mo_piece 298 s x y m = some (vPiece W s x y) := by
  have d := I.d
  have h7 := p2le (k := W 5) (n := 7) (by omega)
  have h128 : (2 : Nat) ^ 7 = 128 := by decide
  unfold Mo_piece vPiece
  rw [Mo_isSet_e hW (by omega) (by omega), bind_s, ite_b2]
  by_cases h : 0 < W 1 ∧ inb s (2 ^ W 5)
  · obtain ⟨k, hk, rfl⟩ := in_of h.2 (by omega)
    rw [if_pos h, if_pos h, Mo_isCell_e hW (by omega) (by omega), bind_s, ite_b2]
    by_cases h2 : inb x (W 1) ∧ inb y (W 2)
    · obtain ⟨a, ha, rfl⟩ := in_of h2.1 (by omega)
      obtain ⟨b, hb, rfl⟩ := in_of h2.2 (by omega)
      rw [if_pos h2, if_pos h2, Mo_pieceOf_e hW I (by omega) (by omega) (by omega), bind_s, ix_nI (by omega), ix_nI (by omega), ix_nI (by omega)]
    · rw [if_neg h2, if_neg h2]
  · rw [if_neg h, if_neg h]
theorem st_piece (s x y : Int32) : Same (rd (PL_piece 1 s x y)) (rd (Mo_piece 298 s x y)) :=
  Same_q (fun W _ => vPiece W s x y) (fun _ _ _ R I => Ok_rd (PL_piece_e R I s x y)) (fun _ _ _ hW I => Ok_rd (Mo_piece_e hW I s x y)) (fun _ _ _ _ => rfl)
end QA
