/-! across, minutes, pieces -/
theorem jabs_nI {a b : Nat} (ha : a < 1073741824) (hb : b < 1073741824) : jabs (nI a - nI b) = nI ((a - b) + (b - a)) := by
  unfold jabs
  rcases Nat.lt_or_ge a b with h | h
  · have h1 := pk_sneg (show b < 2 ^ 30 by omega) h
    rw [if_neg (Int32.not_le.mpr h1), Int32.zero_sub, Int32.neg_sub, pk_sub (by omega), show (a - b) + (b - a) = b - a by omega]
  · rw [pk_sub h, if_pos (nI_pos' (by omega)), show (a - b) + (b - a) = a - b by omega]
section PCS
variable {m : Mem} {c : Nat} {W : Wd}
abbrev gsd (W : Wd) (k g : Nat) : Nat := sdN W k (wgr W g 0) (wgr W g 1)
def acN (W : Wd) (s h g : Nat) : Nat := sN (fun k => if s.testBit k = true ∧ min (hsd W k h) (gsd W k g) < wcr W k 1 ∧ wcr W k 1 ≤ max (hsd W k h) (gsd W k g) then 1 else 0) (W 5)
theorem ac_le (W : Wd) (s h g : Nat) : acN W s h g ≤ W 5 := by
  have := sN_le (f := fun k => if s.testBit k = true ∧ min (hsd W k h) (gsd W k g) < wcr W k 1 ∧ wcr W k 1 ≤ max (hsd W k h) (gsd W k g) then 1 else 0) (c := 1) (n := W 5) (fun k _ => by split <;> omega)
  unfold acN
  omega
theorem sN_pad {f : Nat → Nat} {a : Nat} (h : ∀ k, a ≤ k → f k = 0) : ∀ n, sN f (a + n) = sN f a
  | 0 => rfl
  | n + 1 => by
    show sN f (a + n) + f (a + n) = _
    rw [sN_pad h n, h _ (by omega), Nat.add_zero]
theorem Ca_cracksBetween_e (R : CR m c W) (I : Inv W) {s h g : Nat} (hs : s < 2 ^ W 5) (hh : h < 8) (ht : whe W h 0 = 1) (hg : g < 4) : Ca_cracksBetween c (nI s) (nI h) (nI g) m = some (nI (acN W s h g)) := by
  have d := I.d
  have h7 := p2le (k := W 5) (n := 7) d.2.2.2.2.1
  have h128 : (2 : Nat) ^ 7 = 128 := by decide
  have xy := I.xy hh
  have gxy := I.gxy hg
  unfold Ca_cracksBetween
  have hx : rI m (c + 25) h = nI (whe W h 1) := by
    rw [show rI m (c + 25) h = hxI W h from R.hx hh]
    exact if_pos ht
  rw [PL_isHeap_n m hh, bind_s, if_neg (by decide), PL_isGroup_n m hg, bind_s, if_neg (by decide), gd_in hh (by decide), gd_in hh (by decide), ix_nI (by omega), ix_nI (by omega), hx, show rI m (c + 26) h = nI (whe W h 2) from R.hy hh, Fl_beyond_e R I, bind_s, gd_in hg (by decide), gd_in hg (by decide), show rI m (c + 36) g = nI (wgr W g 0) from R.g0 hg, show rI m (c + 37) g = nI (wgr W g 1) from R.g1 hg, Fl_beyond_e R I, bind_s, nI_xor, nI_and]
  have hlt : (byN W (nI (whe W h 1)) (nI (whe W h 2)) ^^^ byN W (nI (wgr W g 0)) (nI (wgr W g 1))) &&& s < 128 := Nat.lt_of_le_of_lt Nat.and_le_right (by omega)
  rw [bitCount_7 m hlt, bind_s]
  refine congrArg (fun z => some (nI z)) ?_
  unfold popN acN
  have sz : ∀ k, W 5 ≤ k → s.testBit k = false := fun k hk => Nat.testBit_lt_two_pow (Nat.lt_of_lt_of_le hs (p2le hk))
  rw [show (7 : Nat) = W 5 + (7 - W 5) by omega, sN_pad (fun k hk => by simp [Nat.testBit_and, sz k hk])]
  refine sN_cong (fun k hk => ?_)
  have e1 : (byN W (nI (whe W h 1)) (nI (whe W h 2))).testBit k = decide (wcr W k 1 ≤ hsd W k h) := by
    unfold byN
    rw [bs_bit, byB_n I hk (by omega) (by omega)]
    simp [hk]
  have e2 : (byN W (nI (wgr W g 0)) (nI (wgr W g 1))).testBit k = decide (wcr W k 1 ≤ gsd W k g) := by
    unfold byN
    rw [bs_bit, byB_n I hk gxy.1 gxy.2]
    simp [hk]
  rw [Nat.testBit_and, Nat.testBit_xor, e1, e2]
  by_cases q : s.testBit k = true
  · by_cases q1 : wcr W k 1 ≤ hsd W k h
    · by_cases q2 : wcr W k 1 ≤ gsd W k g
      · rw [if_neg (by simp [q1, q2]), if_neg (by omega)]
      · rw [if_pos (by simp [q, q1, q2]), if_pos ⟨q, by omega, by omega⟩]
    · by_cases q2 : wcr W k 1 ≤ gsd W k g
      · rw [if_pos (by simp [q, q1, q2]), if_pos ⟨q, by omega, by omega⟩]
      · rw [if_neg (by simp [q1, q2]), if_neg (by omega)]
  · rw [if_neg (by simp [q]), if_neg (fun z => q z.1)]
theorem Mo_acrossOf_e (hW : MW m W) (I : Inv W) {s h g : Nat} (hs : s < 2 ^ W 5) (hh : h < 8) (hg : g < 4) : Mo_acrossOf 298 (nI s) (nI h) (nI g) m = some (nI (acN W s h g)) := by
  have d := I.d
  have h7 := p2le (k := W 5) (n := 7) d.2.2.2.2.1
  have h128 : (2 : Nat) ^ 7 = 128 := by decide
  have xy := I.xy hh
  obtain ⟨-, g0, g1, -⟩ := I.G hg
  unfold Mo_acrossOf
  refine loop_sum (W 5) (fun k => if s.testBit k = true ∧ min (hsd W k h) (gsd W k g) < wcr W k 1 ∧ wcr W k 1 ≤ max (hsd W k h) (gsd W k g) then 1 else 0) (fun a => nI a) (fun k a hk ha => ?_) (fun a ha => ?_)
  · obtain ⟨c0, c1, c2, c3, -⟩ := I.C hk
    have key : ∀ q : Nat, q < 2 → whe W h (1 + q) = hsd W k h → wgr W g q = gsd W k g → Mo_acrossOf_b32 298 (nI s) (nI h) (nI g) (nI a) (nI k) (nI q) m = some (.inl (nI (a + if s.testBit k = true ∧ min (hsd W k h) (gsd W k g) < wcr W k 1 ∧ wcr W k 1 ≤ max (hsd W k h) (gsd W k g) then 1 else 0), nI (k + 1))) := by
      intro q hq e1 e2
      have b1 : hsd W k h ≤ 11 := by
        rw [← e1]
        have : q = 0 ∨ q = 1 := by omega
        rcases this with rfl | rfl
        · exact xy.1
        · exact xy.2
      have b2 : gsd W k g ≤ 11 := by
        rw [← e2]
        have : q = 0 ∨ q = 1 := by omega
        rcases this with rfl | rfl
        · exact g0
        · exact g1
      unfold Mo_acrossOf_b32 Mo_acrossOf_b103 Mo_acrossOf_b104
      rw [show (1 : Int32) + nI q = nI (1 + q) from nI_add 1 q, Mo_ofHeap_e m hh (by omega), bind_s, Mo_ofGroup_e m hg (by omega), bind_s, hW _ (by omega), hW _ (by omega), show W (116 + 9 * h + (1 + q)) = hsd W k h from e1, show W (188 + 3 * g + q) = gsd W k g from e2, Mo_holds_e m (by omega) (by omega), bind_s, ite_b2, qC1 hW (by omega), bind_s, jmin_nI (by omega) (by omega), jmax_nI (by omega) (by omega), bind_s, nI_1, nI_1, show nI a + 0 = nI a from nI_add a 0]
      by_cases z : s.testBit k = true
      · rw [if_pos z]
        by_cases z1 : wcr W k 1 ≤ min (hsd W k h) (gsd W k g)
        · rw [if_pos (nI_le z1 (by omega)), if_neg (fun y => by omega)]
          rfl
        · rw [if_neg (nI_ge (by omega) (by omega))]
          by_cases z2 : max (hsd W k h) (gsd W k g) < wcr W k 1
          · rw [if_pos (nI_lt z2 (by omega)), if_neg (fun y => by omega)]
            rfl
          · rw [if_neg (nI_nlt (by omega) (by omega)), if_pos ⟨z, by omega, by omega⟩]
      · rw [if_neg z, if_neg (fun y => z y.1)]
        rfl
    unfold Mo_acrossOf_l6
    rw [gd_t (by decide), qW5 hW, if_neg (nI_ge hk (by omega)), qC0 hW (by omega), bind_s]
    by_cases h0 : wcr W k 0 = 0
    · rw [h0, if_pos (by decide)]
      exact key 0 (by omega) (if_pos h0).symm (if_pos h0).symm
    · rw [if_neg (nI_ne0 (by omega) (by omega))]
      exact key 1 (by omega) (if_neg h0).symm (if_neg h0).symm
  · unfold Mo_acrossOf_l6
    rw [gd_t (by decide), qW5 hW, if_pos (nI_le (Nat.le_refl _) (by omega)), up_some]
def vAcross (W : Wd) (s h g : Int32) : Int32 := if 0 < W 1 ∧ inb s (2 ^ W 5) then if inb h 8 then if inb g 4 then if whe W (ix h) 0 = 1 then nI (acN W (ix s) (ix h) (ix g)) else -1 else -2 else -2 else -2
theorem st_across (s h g : Int32) : Same (rd (PL_across 1 s h g)) (rd (Mo_across 298 s h g)) := by
  refine Same_q (fun W _ => vAcross W s h g) (fun m W p R I => Ok_rd ?_) (fun m W p hW I => Ok_rd ?_) (fun m m' W F => rfl)
  · have d := I.d
    have h7 := p2le (k := W 5) (n := 7) d.2.2.2.2.1
    have h128 : (2 : Nat) ^ 7 = 128 := by decide
    unfold PL_across vAcross
    rw [fl_hasSet R I, bind_s, ite_b2, PL_isHeap_e, bind_s, ite_b2, PL_isGroup_e, bind_s, ite_b2, show Ca_hasHeap (1 + 27) h m = _ from Ca_hasHeap_x R I h, bind_s, ite_b2]
    by_cases hs : 0 < W 1 ∧ inb s (2 ^ W 5)
    · rw [if_pos hs, if_pos hs]
      by_cases hh : inb h 8
      · rw [if_pos hh, if_pos hh]
        by_cases hg : inb g 4
        · rw [if_pos hg, if_pos hg]
          by_cases ht : whe W (ix h) 0 = 1
          · rw [if_pos ⟨hh, ht⟩, if_pos ht]
            obtain ⟨a, ha, rfl⟩ := in_of hs.2 (by omega)
            obtain ⟨b, hb, rfl⟩ := in_of hh (by omega)
            obtain ⟨e, he, rfl⟩ := in_of hg (by omega)
            rw [ix_nI (by omega)] at ht
            rw [ix_nI (by omega), ix_nI (by omega), ix_nI (by omega), show Ca_cracksBetween (1 + 27) (nI a) (nI b) (nI e) m = _ from Ca_cracksBetween_e R I ha hb ht he, bind_s]
          · rw [if_neg (fun z => ht z.2), if_neg ht]
        · rw [if_neg hg, if_neg hg]
      · rw [if_neg hh, if_neg hh]
    · rw [if_neg hs, if_neg hs]
  · have d := I.d
    have h7 := p2le (k := W 5) (n := 7) d.2.2.2.2.1
    have h128 : (2 : Nat) ^ 7 = 128 := by decide
    unfold Mo_across vAcross
    rw [Mo_isSet_e hW (by omega) (by omega), bind_s, ite_b2, Mo_isHeap_e, bind_s, ite_b2, Mo_isGroup_e, bind_s, ite_b2]
    by_cases hs : 0 < W 1 ∧ inb s (2 ^ W 5)
    · rw [if_pos hs, if_pos hs]
      by_cases hh : inb h 8
      · rw [if_pos hh, if_pos hh]
        by_cases hg : inb g 4
        · rw [if_pos hg, if_pos hg]
          obtain ⟨a, ha, rfl⟩ := in_of hs.2 (by omega)
          obtain ⟨b, hb, rfl⟩ := in_of hh (by omega)
          obtain ⟨e, he, rfl⟩ := in_of hg (by omega)
          rw [ix_nI (by omega), ix_nI (by omega), ix_nI (by omega), qT hW hb (I.H hb).1, bind_s, ite_b2, Mo_acrossOf_e hW I ha hb he, bind_s, some_ite]
        · rw [if_neg hg, if_neg hg]
      · rw [if_neg hh, if_neg hh]
    · rw [if_neg hs, if_neg hs]
def stpN (W : Wd) (h g : Nat) : Nat := ((whe W h 1 - wgr W g 0) + (wgr W g 0 - whe W h 1)) + ((whe W h 2 - wgr W g 1) + (wgr W g 1 - whe W h 2))
def minN (W : Wd) (s h o g : Nat) : Nat := wso W o 2 * stpN W h g * W 11 + acN W s h g * W 12
theorem Ca_minutesOf_e (R : CR m c W) (I : Inv W) {s h o g : Nat} (hs : s < 2 ^ W 5) (hh : h < 8) (ht : whe W h 0 = 1) (ho : o < W 6) (hg : g < 4) : Ca_minutesOf c (nI s) (nI h) (nI o) (nI g) m = some (nI (minN W s h o g)) := by
  have xy := I.xy hh
  have d := I.d
  obtain ⟨-, g0, g1, -⟩ := I.G hg
  have hx : rI m (c + 25) h = nI (whe W h 1) := by
    rw [show rI m (c + 25) h = hxI W h from R.hx hh]
    exact if_pos ht
  unfold Ca_minutesOf
  rw [PL_isHeap_n m hh, bind_s, if_neg (by decide), PL_isGroup_n m hg, bind_s, if_neg (by decide), gd_in hh (by decide), gd_in hg (by decide), gd_in hh (by decide), gd_in hg (by decide), tS2 R I ho, bind_s, Ca_cracksBetween_e R I hs hh ht hg, bind_s, ix_nI (by omega), ix_nI (by omega), hx, show rI m (c + 26) h = nI (whe W h 2) from R.hy hh, show rI m (c + 36) g = nI (wgr W g 0) from R.g0 hg, show rI m (c + 37) g = nI (wgr W g 1) from R.g1 hg, cf8 R, cf9 R, jabs_nI (by omega) (by omega), jabs_nI (by omega) (by omega), nI_add, pk_mul, pk_mul, pk_mul, nI_add]
  rfl
theorem Mo_minutesOf_e (hW : MW m W) (I : Inv W) {s h o g : Nat} (hs : s < 2 ^ W 5) (hh : h < 8) (ho : o < 6) (hg : g < 4) : Mo_minutesOf 298 (nI s) (nI h) (nI o) (nI g) m = some (nI (minN W s h o g)) := by
  have xy := I.xy hh
  have d := I.d
  obtain ⟨-, g0, g1, -⟩ := I.G hg
  unfold Mo_minutesOf
  rw [qH1 hW hh, bind_s, qG0 hW hg, bind_s, qH2 hW hh, bind_s, qG1 hW hg, bind_s, qS2 hW ho, bind_s, gd_t (by decide), gd_t (by decide), Mo_acrossOf_e hW I hs hh hg, bind_s, qW11 hW, qW12 hW, jabs_nI (by omega) (by omega), jabs_nI (by omega) (by omega), nI_add, pk_mul, pk_mul, pk_mul, nI_add, Nat.mul_comm (W 12)]
  rfl
def vMinutes (W : Wd) (s h o g : Int32) : Int32 := if 0 < W 1 ∧ inb s (2 ^ W 5) then if inb h 8 then if inb g 4 then if inb o (W 6) then if whe W (ix h) 0 = 1 then nI (minN W (ix s) (ix h) (ix o) (ix g)) else -1 else -2 else -2 else -2 else -2
theorem st_minutes (s h o g : Int32) : Same (rd (PL_minutes 1 s h o g)) (rd (Mo_minutes 298 s h o g)) := by
  refine Same_q (fun W _ => vMinutes W s h o g) (fun m W p R I => Ok_rd ?_) (fun m W p hW I => Ok_rd ?_) (fun m m' W F => rfl)
  · have d := I.d
    have h7 := p2le (k := W 5) (n := 7) d.2.2.2.2.1
    have h128 : (2 : Nat) ^ 7 = 128 := by decide
    unfold PL_minutes vMinutes
    rw [fl_hasSet R I, bind_s, ite_b2, PL_isHeap_e, bind_s, ite_b2, PL_isGroup_e, bind_s, ite_b2, show Ta_has (1 + 38) o m = _ from Ta_has_e m R.nS (by omega) o, bind_s, ite_b2, show Ca_hasHeap (1 + 27) h m = _ from Ca_hasHeap_x R I h, bind_s, ite_b2]
    by_cases hs : 0 < W 1 ∧ inb s (2 ^ W 5)
    · rw [if_pos hs, if_pos hs]
      by_cases hh : inb h 8
      · rw [if_pos hh, if_pos hh]
        by_cases hg : inb g 4
        · rw [if_pos hg, if_pos hg]
          by_cases ho : inb o (W 6)
          · rw [if_pos ho, if_pos ho]
            by_cases ht : whe W (ix h) 0 = 1
            · rw [if_pos ⟨hh, ht⟩, if_pos ht]
              obtain ⟨a, ha, rfl⟩ := in_of hs.2 (by omega)
              obtain ⟨b, hb, rfl⟩ := in_of hh (by omega)
              obtain ⟨e, he, rfl⟩ := in_of hg (by omega)
              obtain ⟨f, hf, rfl⟩ := in_of ho (by omega)
              rw [ix_nI (by omega)] at ht
              rw [ix_nI (by omega), ix_nI (by omega), ix_nI (by omega), ix_nI (by omega), show Ca_minutesOf (1 + 27) (nI a) (nI b) (nI f) (nI e) m = _ from Ca_minutesOf_e R I ha hb ht hf he, bind_s]
            · rw [if_neg (fun z => ht z.2), if_neg ht]
          · rw [if_neg ho, if_neg ho]
        · rw [if_neg hg, if_neg hg]
      · rw [if_neg hh, if_neg hh]
    · rw [if_neg hs, if_neg hs]
  · have d := I.d
    have h7 := p2le (k := W 5) (n := 7) d.2.2.2.2.1
    have h128 : (2 : Nat) ^ 7 = 128 := by decide
    unfold Mo_minutes vMinutes
    rw [Mo_isSet_e hW (by omega) (by omega), bind_s, ite_b2, Mo_isHeap_e, bind_s, ite_b2, Mo_isSort_e hW (by omega), bind_s, ite_b2, Mo_isGroup_e, bind_s, ite_b2]
    by_cases hs : 0 < W 1 ∧ inb s (2 ^ W 5)
    · rw [if_pos hs, if_pos hs]
      by_cases hh : inb h 8
      · rw [if_pos hh, if_pos hh]
        by_cases hg : inb g 4
        · rw [if_pos hg, if_pos hg]
          by_cases ho : inb o (W 6)
          · rw [if_pos ho, if_pos ho]
            obtain ⟨a, ha, rfl⟩ := in_of hs.2 (by omega)
            obtain ⟨b, hb, rfl⟩ := in_of hh (by omega)
            obtain ⟨e, he, rfl⟩ := in_of hg (by omega)
            obtain ⟨f, hf, rfl⟩ := in_of ho (by omega)
            rw [ix_nI (by omega), ix_nI (by omega), ix_nI (by omega), ix_nI (by omega), qT hW hb (I.H hb).1, bind_s, ite_b2, Mo_minutesOf_e hW I ha hb (by omega) he, bind_s, some_ite]
          · rw [if_neg ho, if_neg ho]
        · rw [if_neg hg, if_neg hg]
          split <;> rfl
      · rw [if_neg hh, if_neg hh]
    · rw [if_neg hs, if_neg hs]
/-! pieces -/
def plS (W : Wd) (s al : Nat) : Nat → Nat
  | 0 => 0
  | k + 1 => if s.testBit k = true ∧ wcr W k 0 = al then plS W s al k ||| 2 ^ wcr W k 1 else plS W s al k
theorem pl_bit (W : Wd) (s al z : Nat) : ∀ n, (plS W s al n).testBit z = true ↔ ∃ k, k < n ∧ s.testBit k = true ∧ wcr W k 0 = al ∧ wcr W k 1 = z
  | 0 => by
    constructor
    · intro h
      have : (0 : Nat).testBit z = true := h
      simp at this
    · rintro ⟨k, hk, -⟩; omega
  | n + 1 => by
    show (if s.testBit n = true ∧ wcr W n 0 = al then plS W s al n ||| 2 ^ wcr W n 1 else plS W s al n).testBit z = true ↔ _
    by_cases h : s.testBit n = true ∧ wcr W n 0 = al
    · rw [if_pos h, Nat.testBit_or, Bool.or_eq_true, pl_bit W s al z n, Nat.testBit_two_pow]
      constructor
      · rintro (⟨k, a, b⟩ | q)
        · exact ⟨k, by omega, b⟩
        · exact ⟨n, by omega, h.1, h.2, by simpa using q⟩
      · rintro ⟨k, a, b, c, e⟩
        rcases Nat.lt_or_ge k n with q | q
        · exact Or.inl ⟨k, q, b, c, e⟩
        · right
          rw [show k = n by omega] at e
          simpa using e
    · rw [if_neg h, pl_bit W s al z n]
      constructor
      · rintro ⟨k, a, b⟩
        exact ⟨k, by omega, b⟩
      · rintro ⟨k, a, b, c, e⟩
        rcases Nat.lt_or_ge k n with q | q
        · exact ⟨k, q, b, c, e⟩
        · rw [show k = n by omega] at b c
          exact absurd ⟨b, c⟩ h
theorem pl_lt (I : Inv W) (s al : Nat) : ∀ n, n ≤ W 5 → plS W s al n < 4096
  | 0, _ => by show 0 < 4096; omega
  | n + 1, h => by
    have a := pl_lt I s al n (by omega)
    obtain ⟨c0, c1, c2, c3, -⟩ := I.C (show n < W 5 by omega)
    have d := I.d
    show (if s.testBit n = true ∧ wcr W n 0 = al then plS W s al n ||| 2 ^ wcr W n 1 else plS W s al n) < 4096
    split
    · exact Nat.or_lt_two_pow (n := 12) a (Nat.pow_lt_pow_right (by decide) (by omega))
    · exact a
theorem Fl_partings_e (R : CR m c W) (I : Inv W) {s al : Nat} (hs : s < 2147483648) (hl : al < 2) : Fl_partings (c + 1) (nI s) (nI al) m = some (nI (popN 12 (plS W s al (W 5)))) := by
  have d := I.d
  unfold Fl_partings
  refine loop_cnt (W 5) (fun i => (nI (plS W s al i), nI i)) rfl (fun k hk => ?_) ?_
  · obtain ⟨c0, c1, c2, c3, -⟩ := I.C hk
    show Fl_partings_l5 (c + 1) (nI s) (nI al) (nI (plS W s al k)) (nI k) m = some (.inl (nI (if s.testBit k = true ∧ wcr W k 0 = al then plS W s al k ||| 2 ^ wcr W k 1 else plS W s al k), nI (k + 1)))
    unfold Fl_partings_l5 Fl_partings_b56
    rw [cnC R, if_neg (nI_ge hk (by omega)), tC0 R I hk, bind_s, tC1 R I hk, bind_s, shl1 (by omega), nI_or, nI_1]
    by_cases q : s.testBit k = true
    · rw [if_pos ((bit_c hs (by omega)).mpr q)]
      by_cases q2 : wcr W k 0 = al
      · rw [if_pos (congrArg nI q2), if_pos ⟨q, q2⟩]
      · rw [if_neg (fun z => q2 ((nI_eq (by omega) (by omega)).mp z)), if_neg (fun z => q2 z.2)]
    · rw [if_neg (fun z => q ((bit_c hs (by omega)).mp z)), if_neg (fun z => q z.1)]
  · show Fl_partings_l5 (c + 1) (nI s) (nI al) (nI (plS W s al (W 5))) (nI (W 5)) m = _
    unfold Fl_partings_l5
    rw [cnC R, if_pos (nI_le (Nat.le_refl _) (by omega)), In_bitCount_n (pl_lt I s al (W 5) (Nat.le_refl _)), bind_s, up_some]
def vaN (f : Nat → Nat) : Nat → Nat
  | 0 => 0
  | n + 1 => vaN f n ||| 2 ^ f n
theorem va_bit (f : Nat → Nat) (i : Nat) : ∀ n, (vaN f n).testBit i = true ↔ ∃ x, x < n ∧ f x = i
  | 0 => by
    constructor
    · intro h
      have : (0 : Nat).testBit i = true := h
      simp at this
    · rintro ⟨k, hk, -⟩; omega
  | n + 1 => by
    show (vaN f n ||| 2 ^ f n).testBit i = true ↔ _
    rw [Nat.testBit_or, Bool.or_eq_true, va_bit f i n, Nat.testBit_two_pow]
    constructor
    · rintro (⟨k, a, b⟩ | q)
      · exact ⟨k, by omega, b⟩
      · exact ⟨n, by omega, by simpa using q⟩
    · rintro ⟨k, a, e⟩
      rcases Nat.lt_or_ge k n with q | q
      · exact Or.inl ⟨k, q, e⟩
      · right
        rw [show k = n by omega] at e
        simpa using e
theorem pop_or {v j n : Nat} (hj : j < n) : popN n (v ||| 2 ^ j) = popN n v + if v.testBit j = true then 0 else 1 := by
  unfold popN
  have e1 := sN_cut (f := fun k => if (v ||| 2 ^ j).testBit k = true then 1 else 0) hj
  have e2 := sN_cut (f := fun k => if v.testBit k = true then 1 else 0) hj
  have e3 : sN (fun i => if i = j then 0 else if (v ||| 2 ^ j).testBit i = true then 1 else 0) n = sN (fun i => if i = j then 0 else if v.testBit i = true then 1 else 0) n := sN_cong (fun i hi => by
    by_cases q : i = j
    · rw [if_pos q, if_pos q]
    · have : (2 ^ j : Nat).testBit i = false := by
        rw [Nat.testBit_two_pow]
        simpa using fun z => q z.symm
      rw [if_neg q, if_neg q, Nat.testBit_or, this, Bool.or_false])
  have e4 : (v ||| 2 ^ j).testBit j = true := by
    rw [Nat.testBit_or, Nat.testBit_two_pow_self, Bool.or_true]
  rw [e1, e2, e3, if_pos e4]
  split <;> omega
theorem pop_va {f : Nat → Nat} (h0 : f 0 = 0) (h8 : ∀ x, f x < 8) (hm : ∀ x, f x ≤ f (x + 1)) : ∀ w, popN 8 (vaN f (w + 1)) = 1 + sN (fun z => if f (z + 1) = f z then 0 else 1) w
  | 0 => by
    show popN 8 (0 ||| 2 ^ f 0) = 1 + 0
    rw [h0]
    decide
  | w + 1 => by
    have mono : ∀ a b, a ≤ b → f a ≤ f b := by
      intro a b hab
      induction b with
      | zero => rw [show a = 0 by omega]; exact Nat.le_refl _
      | succ b ih =>
        rcases Nat.lt_or_ge a (b + 1) with q | q
        · exact Nat.le_trans (ih (by omega)) (hm b)
        · rw [show a = b + 1 by omega]; exact Nat.le_refl _
    show popN 8 (vaN f (w + 1) ||| 2 ^ f (w + 1)) = _
    rw [pop_or (h8 _), pop_va h0 h8 hm w, sN_s, Nat.add_assoc]
    congr 2
    by_cases e : f (w + 1) = f w
    · rw [if_pos e, if_pos ((va_bit f _ _).mpr ⟨w, by omega, e.symm⟩)]
    · rw [if_neg e, if_neg]
      intro z
      obtain ⟨x, hx, q⟩ := (va_bit f _ _).mp z
      have a := mono x w (by omega)
      have b := hm w
      omega
theorem sN_sh (f : Nat → Nat) : ∀ n, sN f (n + 1) = f 0 + sN (fun i => f (i + 1)) n
  | 0 => by show 0 + f 0 = f 0 + 0; omega
  | n + 1 => by rw [sN_s, sN_sh f n, sN_s]; omega
/-- how many values: one and those places -/
theorem pcs_k (I : Inv W) {s al w : Nat} (hw : 1 ≤ w) (hw2 : w ≤ 12) (hb : ∀ k, k < W 5 → wcr W k 0 = al → wcr W k 1 + 1 ≤ w) : popN 8 (vaN (kN W s al) w) = 1 + popN 12 (plS W s al (W 5)) := by
  have d := I.d
  have h0 : kN W s al 0 = 0 := by
    unfold kN
    refine sN_0 (fun k hk => if_neg (fun z => ?_))
    obtain ⟨c0, c1, -⟩ := I.C hk
    omega
  have h8 : ∀ x, kN W s al x < 8 := fun x => by have := kN_le W s al x; omega
  have hm : ∀ x, kN W s al x ≤ kN W s al (x + 1) := fun x => by
    unfold kN
    refine sN_mono (fun k hk => ?_)
    by_cases q : s.testBit k = true ∧ wcr W k 0 = al ∧ wcr W k 1 ≤ x
    · rw [if_pos q, if_pos ⟨q.1, q.2.1, by omega⟩]; exact Nat.le_refl _
    · rw [if_neg q]; omega
  have e1 := pop_va h0 h8 hm (w - 1)
  rw [show w - 1 + 1 = w by omega] at e1
  rw [e1]
  congr 1
  have p0 : (plS W s al (W 5)).testBit 0 = false := by
    cases q : (plS W s al (W 5)).testBit 0 with
    | false => rfl
    | true =>
      obtain ⟨k, hk, -, -, e⟩ := (pl_bit W s al 0 (W 5)).mp q
      obtain ⟨c0, c1, -⟩ := I.C hk
      omega
  unfold popN
  rw [show (12 : Nat) = 11 + 1 from rfl, sN_sh, p0, if_neg (by decide), Nat.zero_add, show (11 : Nat) = (w - 1) + (11 - (w - 1)) by omega, sN_pad]
  · refine sN_cong (fun z hz => ?_)
    by_cases q : (plS W s al (W 5)).testBit (z + 1) = true
    · rw [if_pos q, if_neg]
      intro e
      obtain ⟨k, hk, a, b, f⟩ := (pl_bit W s al (z + 1) (W 5)).mp q
      have := (kN_iff W s al (z + 1) z).mp e k hk a b
      omega
    · rw [if_neg q, if_pos]
      refine (kN_iff W s al (z + 1) z).mpr (fun k hk a b => ?_)
      constructor
      · intro h
        apply Classical.byContradiction
        intro v
        exact q ((pl_bit W s al (z + 1) (W 5)).mpr ⟨k, hk, a, b, by omega⟩)
      · intro h; omega
  · intro z hz
    rw [if_neg]
    intro q
    obtain ⟨k, hk, a, b, f⟩ := (pl_bit W s al (z + 1) (W 5)).mp q
    have := hb k hk b
    omega
/-- a table of eights -/
theorem sN_blk (f : Nat → Nat) : ∀ n, sN f (8 * n) = sN (fun j => sN (fun i => f (8 * j + i)) 8) n
  | 0 => rfl
  | n + 1 => by
    rw [sN_s, ← sN_blk f n, show 8 * (n + 1) = 8 * n + 8 by omega]
    show sN f (8 * n) + f (8 * n) + f (8 * n + 1) + f (8 * n + 2) + f (8 * n + 3) + f (8 * n + 4) + f (8 * n + 5) + f (8 * n + 6) + f (8 * n + 7) = sN f (8 * n) + (0 + f (8 * n + 0) + f (8 * n + 1) + f (8 * n + 2) + f (8 * n + 3) + f (8 * n + 4) + f (8 * n + 5) + f (8 * n + 6) + f (8 * n + 7))
    have z : f (8 * n + 0) = f (8 * n) := rfl
    rw [z]
    omega
theorem pop_prod {n A B : Nat} (h : ∀ j i, j < 8 → i < 8 → (n.testBit (8 * j + i) = true ↔ A.testBit i = true ∧ B.testBit j = true)) : popN 64 n = popN 8 A * popN 8 B := by
  have e : popN 64 n = sN (fun j => popN 8 A * if B.testBit j = true then 1 else 0) 8 := by
    show sN (fun k => if n.testBit k = true then 1 else 0) (8 * 8) = _
    rw [sN_blk]
    refine sN_cong (fun j hj => ?_)
    by_cases q : B.testBit j = true
    · rw [if_pos q, Nat.mul_one]
      unfold popN
      refine sN_cong (fun i hi => ?_)
      simp only [h j i hj hi, q, and_true]
    · rw [if_neg q, Nat.mul_zero]
      refine sN_0 (fun i hi => ?_)
      rw [if_neg (fun z => q ((h j i hj hi).mp z).2)]
  rw [e, sN_mul]
  rfl
def seI (W : Wd) (s y v : Nat) : Nat → Nat
  | 0 => v
  | x + 1 => seI W s y v x ||| 2 ^ pieceN W s x y
def seO (W : Wd) (s : Nat) : Nat → Nat
  | 0 => 0
  | y + 1 => seI W s y (seO W s y) (W 1)
theorem seI_bit (W : Wd) (s y v p : Nat) : ∀ n, (seI W s y v n).testBit p = true ↔ v.testBit p = true ∨ ∃ x, x < n ∧ pieceN W s x y = p
  | 0 => by
    constructor
    · exact fun h => Or.inl h
    · rintro (h | ⟨x, hx, -⟩)
      · exact h
      · omega
  | n + 1 => by
    show (seI W s y v n ||| 2 ^ pieceN W s n y).testBit p = true ↔ _
    rw [Nat.testBit_or, Bool.or_eq_true, seI_bit W s y v p n, Nat.testBit_two_pow]
    constructor
    · rintro ((h | ⟨x, a, b⟩) | q)
      · exact Or.inl h
      · exact Or.inr ⟨x, by omega, b⟩
      · exact Or.inr ⟨n, by omega, by simpa using q⟩
    · rintro (h | ⟨x, a, e⟩)
      · exact Or.inl (Or.inl h)
      · rcases Nat.lt_or_ge x n with q | q
        · exact Or.inl (Or.inr ⟨x, q, e⟩)
        · right
          rw [show x = n by omega] at e
          simpa using e
theorem seO_bit (W : Wd) (s p : Nat) : ∀ n, (seO W s n).testBit p = true ↔ ∃ y, y < n ∧ ∃ x, x < W 1 ∧ pieceN W s x y = p
  | 0 => by
    constructor
    · intro h
      have : (0 : Nat).testBit p = true := h
      simp at this
    · rintro ⟨k, hk, -⟩; omega
  | n + 1 => by
    show (seI W s n (seO W s n) (W 1)).testBit p = true ↔ _
    rw [seI_bit, seO_bit W s p n]
    constructor
    · rintro (⟨y, a, b⟩ | b)
      · exact ⟨y, by omega, b⟩
      · exact ⟨n, by omega, b⟩
    · rintro ⟨y, a, b⟩
      rcases Nat.lt_or_ge y n with q | q
      · exact Or.inl ⟨y, q, b⟩
      · rw [show y = n by omega] at b
        exact Or.inr b
theorem seI_lt (I : Inv W) {s y v : Nat} (hv : v < 2 ^ 57) : ∀ n, seI W s y v n < 2 ^ 57
  | 0 => hv
  | n + 1 => by
    have := piece_le I s n y
    exact Nat.or_lt_two_pow (seI_lt I hv n) (Nat.pow_lt_pow_right (by decide) (by omega))
theorem seO_lt (I : Inv W) (s : Nat) : ∀ n, seO W s n < 2 ^ 57
  | 0 => by show 0 < 2 ^ 57; decide
  | n + 1 => seI_lt I (seO_lt I s n) _
theorem shlL : ∀ p, p < 64 → (1 : Int64) <<< ((nI p).toInt64 &&& 63) = lN (2 ^ p) := by decide +kernel
theorem smL64 : ∀ k, k < 64 → ((((nI k).toInt64 &&& 63) : Int64).toBitVec.smod 64).toNat = k := by decide +kernel
theorem lN_or (a b : Nat) : lN a ||| lN b = lN (a ||| b) := by
  apply Int64.toBitVec_inj.mp
  show (BitVec.ofNat 64 a ||| BitVec.ofNat 64 b) = BitVec.ofNat 64 (a ||| b)
  rw [BitVec.ofNat_or]
theorem shrL {n k : Nat} (hn : n < 2 ^ 57) (hk : k < 64) : (((lN n >>> ((nI k).toInt64 &&& 63)) &&& 1).toInt32) = nI (n / 2 ^ k % 2) := by
  have e1 : lN n >>> ((nI k).toInt64 &&& 63) = lN (n / 2 ^ k) := by
    have hd := Nat.div_le_self n (2 ^ k)
    apply Int64.toInt_inj.mp
    show (BitVec.sshiftRight' (lN n).toBitVec (((nI k).toInt64 &&& 63).toBitVec.smod 64)).toInt = _
    rw [BitVec.toInt_sshiftRight', smL64 k hk, show (lN n).toBitVec.toInt = (n : Int) from pk_lT (by omega), pk_lT (by omega), Int.shiftRight_eq_div_pow]
    norm_cast
  have e2 : lN (n / 2 ^ k) &&& 1 = lN (n / 2 ^ k % 2) := by
    have hd := Nat.div_le_self n (2 ^ k)
    apply Int64.toBitVec_inj.mp
    show BitVec.ofNat 64 (n / 2 ^ k) &&& (1 : Int64).toBitVec = BitVec.ofNat 64 (n / 2 ^ k % 2)
    apply BitVec.eq_of_toNat_eq
    rw [BitVec.toNat_and, BitVec.toNat_ofNat, BitVec.toNat_ofNat, show (1 : Int64).toBitVec.toNat = 2 ^ 1 - 1 by decide, Nat.mod_eq_of_lt (by omega), Nat.and_two_pow_sub_one_eq_mod]
    omega
  rw [e1, e2, lN_i]
def vPieces (W : Wd) (s : Int32) : Int32 := if 0 < W 1 ∧ inb s (2 ^ W 5) then nI ((1 + popN 12 (plS W (ix s) 0 (W 5))) * (1 + popN 12 (plS W (ix s) 1 (W 5)))) else -2
theorem st_pieces (x : Int32) : Same (rd (PL_pieces 1 x)) (rd (Mo_pieces 298 x)) := by
  refine Same_q (fun W _ => vPieces W x) (fun m W p R I => Ok_rd ?_) (fun m W p hW I => Ok_rd ?_) (fun m m' W F => rfl)
  · have d := I.d
    have h7 := p2le (k := W 5) (n := 7) d.2.2.2.2.1
    have h128 : (2 : Nat) ^ 7 = 128 := by decide
    unfold PL_pieces vPieces
    rw [fl_hasSet R I, bind_s, ite_b2]
    by_cases hs : 0 < W 1 ∧ inb x (2 ^ W 5)
    · obtain ⟨a, ha, rfl⟩ := in_of hs.2 (by omega)
      rw [if_pos hs, if_pos hs, ix_nI (by omega), show Fl_partings (1 + 28) (nI a) 0 m = _ from Fl_partings_e (al := 0) R I (by omega) (by omega), bind_s, show Fl_partings (1 + 28) (nI a) 1 m = _ from Fl_partings_e (al := 1) R I (by omega) (by omega), bind_s, show (1 : Int32) + nI (popN 12 (plS W a 0 (W 5))) = nI (1 + popN 12 (plS W a 0 (W 5))) from nI_add 1 _, show (1 : Int32) + nI (popN 12 (plS W a 1 (W 5))) = nI (1 + popN 12 (plS W a 1 (W 5))) from nI_add 1 _, pk_mul]
    · rw [if_neg hs, if_neg hs]
  · have d := I.d
    have h7 := p2le (k := W 5) (n := 7) d.2.2.2.2.1
    have h128 : (2 : Nat) ^ 7 = 128 := by decide
    unfold Mo_pieces vPieces
    rw [Mo_isSet_e hW (by omega) (by omega), bind_s, ite_b2]
    by_cases hs : 0 < W 1 ∧ inb x (2 ^ W 5)
    · obtain ⟨a, ha, rfl⟩ := in_of hs.2 (by omega)
      have fl := I.floe hs.1
      rw [if_pos hs, if_pos hs, ix_nI (by omega)]
      have e : popN 64 (seO W a (W 2)) = (1 + popN 12 (plS W a 0 (W 5))) * (1 + popN 12 (plS W a 1 (W 5))) := by
        rw [← pcs_k I (al := 0) (w := W 1) (by omega) (by omega) (fun k hk e => (I.C hk).2.2.1 e), ← pcs_k I (al := 1) (w := W 2) (by omega) (by omega) (fun k hk e => (I.C hk).2.2.2.1 e)]
        refine pop_prod (fun j i hj hi => ?_)
        rw [seO_bit, va_bit, va_bit]
        constructor
        · rintro ⟨y, hy, z, hz, q⟩
          rw [piece_k I] at q
          have a1 := kN_le W a 0 z
          have a2 := kN_le W a 1 y
          exact ⟨⟨z, hz, by omega⟩, ⟨y, hy, by omega⟩⟩
        · rintro ⟨⟨z, hz, q1⟩, ⟨y, hy, q2⟩⟩
          refine ⟨y, hy, z, hz, ?_⟩
          rw [piece_k I]
          omega
      rw [← e]
      refine loop_cnt (W 2) (fun y => (lN (seO W a y), nI y)) rfl (fun y hy => ?_) ?_
      · show Mo_pieces_l16 298 (nI a) (lN (seO W a y)) (nI y) m = _
        unfold Mo_pieces_l16
        rw [gd_t (by decide), qW2 hW, if_neg (nI_ge hy (by omega))]
        refine loop_cnt (W 1) (fun z => (lN (seI W a y (seO W a y) z), nI z)) rfl (fun z hz => ?_) ?_
        · have := piece_le I a z y
          show Mo_pieces_l30 298 (nI a) (nI y) (lN (seI W a y (seO W a y) z)) (nI z) m = _
          unfold Mo_pieces_l30
          rw [gd_t (by decide), qW1 hW, if_neg (nI_ge hz (by omega)), Mo_pieceOf_e hW I (by omega) (by omega) (by omega), bind_s, shlL _ (by omega), lN_or, nI_1]
          rfl
        · show Mo_pieces_l30 298 (nI a) (nI y) (lN (seI W a y (seO W a y) (W 1))) (nI (W 1)) m = _
          unfold Mo_pieces_l30
          rw [gd_t (by decide), qW1 hW, if_pos (nI_le (Nat.le_refl _) (by omega)), up_some, nI_1]
          rfl
      · show Mo_pieces_l16 298 (nI a) (lN (seO W a (W 2))) (nI (W 2)) m = _
        have sl := seO_lt I a (W 2)
        have := loop_sum (b := fun s : Int32 × Int32 => Mo_pieces_l73 298 (lN (seO W a (W 2))) s.1 s.2 m) 64 (fun k => if (seO W a (W 2)).testBit k = true then 1 else 0) (fun v => nI v) (fun k v hk hv => ?_) (fun v hv => ?_)
        · unfold Mo_pieces_l16
          rw [gd_t (by decide), qW2 hW, if_pos (nI_le (Nat.le_refl _) (by omega)), this, up_some]
          rfl
        · show Mo_pieces_l73 298 (lN (seO W a (W 2))) (nI v) (nI k) m = _
          unfold Mo_pieces_l73
          rw [if_neg (show ¬ (64 : Int32) ≤ nI k from nI_ge (b := 64) hk (by decide)), shrL sl hk, nI_add, nI_1]
          have hb := bit_iff (seO W a (W 2)) k
          have hlt : seO W a (W 2) / 2 ^ k % 2 < 2 := Nat.mod_lt _ (by decide)
          by_cases q : (seO W a (W 2)).testBit k = true
          · rw [if_pos q, hb.mpr q]
          · rw [if_neg q, show seO W a (W 2) / 2 ^ k % 2 = 0 by have := mt hb.mp q; omega]
        · show Mo_pieces_l73 298 (lN (seO W a (W 2))) (nI v) (nI 64) m = _
          unfold Mo_pieces_l73
          rw [if_pos (show (64 : Int32) ≤ nI 64 by decide), up_some]
    · rw [if_neg hs, if_neg hs]
end PCS
