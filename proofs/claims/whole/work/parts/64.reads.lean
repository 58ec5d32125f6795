/-! line after line -/
section READS
variable {L lb : Nat} {T : Nat → Int32} {x y x0 y0 x' y' : Mem} {kc ks ko lo hi : Nat} {Q : Wd → Nat → Prop} {W W' : Wd}
/-- a floe of which nothing is told -/
def z0W : Wd := fun i => if i = 11 then 1 else if i = 12 then 5 else if i = 13 then 50 else if i = 14 then 50 else if i = 15 then 20 else 0
def LQ (i : Nat) (W : Wd) : Prop := W 0 = i ∧ ((i = 0 ∧ W = z0W) ∨ (1 ≤ i ∧ BW W))
theorem z0_0 {i : Nat} (h : i < 11 ∨ 15 < i) : z0W i = 0 := by
  unfold z0W
  rw [if_neg (by omega), if_neg (by omega), if_neg (by omega), if_neg (by omega), if_neg (by omega)]
theorem BW.first {a b c d : Nat} (h1 : 2 ≤ a ∧ a ≤ 12) (h2 : 2 ≤ b ∧ b ≤ 12) (h3 : 1 ≤ c ∧ c ≤ 28) (h4 : 1 ≤ d ∧ d ≤ 60) : BW (wu (wu (wu (wu z0W 1 a) 2 b) 3 c) 4 d) := by
  have eo : ∀ i, i = 0 ∨ 4 < i → wu (wu (wu (wu z0W 1 a) 2 b) 3 c) 4 d i = z0W i := fun i hi => by
    rw [wu_o _ (by omega), wu_o _ (by omega), wu_o _ (by omega), wu_o _ (by omega)]
  have e1 : wu (wu (wu (wu z0W 1 a) 2 b) 3 c) 4 d 1 = a := by rw [wu_o _ (by decide), wu_o _ (by decide), wu_o _ (by decide), wu_s]
  have e2 : wu (wu (wu (wu z0W 1 a) 2 b) 3 c) 4 d 2 = b := by rw [wu_o _ (by decide), wu_o _ (by decide), wu_s]
  have e3 : wu (wu (wu (wu z0W 1 a) 2 b) 3 c) 4 d 3 = c := by rw [wu_o _ (by decide), wu_s]
  have e4 : wu (wu (wu (wu z0W 1 a) 2 b) 3 c) 4 d 4 = d := wu_s _ _ _
  have e5 : wu (wu (wu (wu z0W 1 a) 2 b) 3 c) 4 d 5 = 0 := eo 5 (by omega)
  have e6 : wu (wu (wu (wu z0W 1 a) 2 b) 3 c) 4 d 6 = 0 := eo 6 (by omega)
  have e7 : wu (wu (wu (wu z0W 1 a) 2 b) 3 c) 4 d 7 = 0 := eo 7 (by omega)
  refine ⟨?_, ?_, fun i hi => ?_, fun s hs => ?_, fun o ho => ?_, fun i hi => ?_⟩
  · rw [e1, e2, e3, e4, e5, e6, e7]
    omega
  · rw [eo 8 (by omega), eo 9 (by omega), eo 10 (by omega), eo 11 (by omega), eo 12 (by omega), eo 13 (by omega), eo 14 (by omega), eo 15 (by omega), eo 16 (by omega), eo 17 (by omega)]
    decide
  · rw [e5] at hi
    omega
  · rw [e6] at hs
    omega
  · rw [e7] at ho
    omega
  · rw [eo i (by rcases hi with h | h | h | ⟨k, h, h'⟩ <;> omega)]
    exact z0_0 (by rcases hi with h | h | h | ⟨k, h, h'⟩ <;> omega)
theorem BW.up (B : BW W) : BW (wu W 0 (W 0 + 1)) := by
  have eo : ∀ i, i ≠ 0 → wu W 0 (W 0 + 1) i = W i := fun i hi => wu_o W hi _
  obtain ⟨b1, b2, b3, b4, b5, b6⟩ := B
  have e1 := eo 1 (by omega)
  have e2 := eo 2 (by omega)
  refine ⟨?_, ?_, fun i hi => ?_, fun s hs => ?_, fun o ho => ?_, fun i hi => ?_⟩
  · rw [e1, e2, eo 3 (by omega), eo 4 (by omega), eo 5 (by omega), eo 6 (by omega), eo 7 (by omega)]
    exact b1
  · rw [eo 8 (by omega), eo 9 (by omega), eo 10 (by omega), eo 11 (by omega), eo 12 (by omega), eo 13 (by omega), eo 14 (by omega), eo 15 (by omega), eo 16 (by omega), eo 17 (by omega)]
    exact b2
  · rw [eo 5 (by omega)] at hi
    have ek : ∀ k, k < 8 → wu W 0 (W 0 + 1) (24 + 8 * i + k) = W (24 + 8 * i + k) := fun k hk => eo _ (by omega)
    unfold IvC
    rw [show wcr (wu W 0 (W 0 + 1)) i 0 = _ from ek 0 (by decide), show wcr (wu W 0 (W 0 + 1)) i 1 = _ from ek 1 (by decide), show wcr (wu W 0 (W 0 + 1)) i 2 = _ from ek 2 (by decide), show wcr (wu W 0 (W 0 + 1)) i 3 = _ from ek 3 (by decide), show wcr (wu W 0 (W 0 + 1)) i 4 = _ from ek 4 (by decide), show wcr (wu W 0 (W 0 + 1)) i 5 = _ from ek 5 (by decide), show wcr (wu W 0 (W 0 + 1)) i 6 = _ from ek 6 (by decide), show wcr (wu W 0 (W 0 + 1)) i 7 = _ from ek 7 (by decide), e1, e2]
    exact b3 i hi
  · rw [eo 6 (by omega)] at hs
    have ek : ∀ k, k < 4 → wu W 0 (W 0 + 1) (80 + 4 * s + k) = W (80 + 4 * s + k) := fun k hk => eo _ (by omega)
    rw [show wso (wu W 0 (W 0 + 1)) s 0 = _ from ek 0 (by decide), show wso (wu W 0 (W 0 + 1)) s 1 = _ from ek 1 (by decide), show wso (wu W 0 (W 0 + 1)) s 2 = _ from ek 2 (by decide), show wso (wu W 0 (W 0 + 1)) s 3 = _ from ek 3 (by decide)]
    exact b4 s hs
  · rw [eo 7 (by omega)] at ho
    have ek : ∀ k, k < 3 → wu W 0 (W 0 + 1) (104 + 3 * o + k) = W (104 + 3 * o + k) := fun k hk => eo _ (by omega)
    unfold IvO
    rw [show wot (wu W 0 (W 0 + 1)) o 0 = _ from ek 0 (by decide), show wot (wu W 0 (W 0 + 1)) o 1 = _ from ek 1 (by decide), show wot (wu W 0 (W 0 + 1)) o 2 = _ from ek 2 (by decide)]
    exact b5 o ho
  · rw [eo i (by rcases hi with h | h | h | ⟨k, h, h'⟩ <;> omega)]
    exact b6 i hi
/-- none of the known words: a fault on both -/
theorem noLine (hT : TB L T) (S : SW L T lb x0 y0 0 0 0 (fun W' _ => W' = W) x y) (G : GS L T lb x y) {wc : Nat} (hw : WC x y wc) (h1 : ∀ k, 20 ≤ k → k ≤ 25 → k ≠ wc) (h2 : ∀ k, 29 ≤ k → k ≤ 31 → k ≠ wc) : Ok2 (Re_readSingle 2 x) (Mo_readNext 298 y) (SW L T lb x0 y0 0 0 0 (fun W' _ => BW W' ∧ W' 0 = W 0)) := by
  have K := S.1
  have M := S.2.1
  have c : ∀ k, 20 ≤ k → k ≤ 25 → Re_is 2 (1000 + k) x = some 0 := fun k a b => by rw [hw.c k (by omega), if_neg (h1 k a b)]
  have n : ∀ k, 29 ≤ k → k ≤ 31 → Mo_is 298 (1000 + k) y = some 0 := fun k a b => by rw [hw.m k (by omega), if_neg (h2 k a b)]
  have on : onI wc = -1 := by
    unfold onI
    rw [if_neg (Ne.symm (h1 21 (by decide) (by decide))), if_neg (Ne.symm (h1 22 (by decide) (by decide))), if_neg (Ne.symm (h1 23 (by decide) (by decide))), if_neg (Ne.symm (h1 24 (by decide) (by decide))), if_neg (Ne.symm (h1 25 (by decide) (by decide))), if_neg (Ne.symm (h1 20 (by decide) (by decide)))]
  obtain ⟨x1, y1, r1, r2, k1, k2, k3, k4, k5⟩ := fail2 K M G 1 (by decide)
  have z : (0 : Int32) = 0 := rfl
  unfold Re_readSingle Mo_readNext Mo_readNext_b42
  rw [show Re_is 2 1021 x = _ from c 21 (by decide) (by decide), bind_s, if_pos z, show Re_is 2 1022 x = _ from c 22 (by decide) (by decide), bind_s, if_pos z, show Re_is 2 1023 x = _ from c 23 (by decide) (by decide), bind_s, if_pos z, show Re_is 2 1024 x = _ from c 24 (by decide) (by decide), bind_s, if_pos z, show Re_is 2 1025 x = _ from c 25 (by decide) (by decide), bind_s, if_pos z, show Re_is 2 1020 x = _ from c 20 (by decide) (by decide), bind_s, if_pos z, r1, bind_s]
  rw [once_e hw, bind_s, on, if_pos (show (-1 : Int32) = -1 from rfl), show Mo_is 298 1029 y = _ from n 29 (by decide) (by decide), bind_s, if_pos z, show Mo_is 298 1030 y = _ from n 30 (by decide) (by decide), bind_s, if_pos z, show Mo_is 298 1031 y = _ from n 31 (by decide) (by decide), bind_s, if_pos z, r2, bind_s, if_pos (show (-1 : Int32) = -1 from rfl), b66_b k3]
  exact Ok2_s ⟨k1, k2, S.2.2.1.trans k4.c, S.2.2.2.1.trans k5.m, Or.inr k3⟩
theorem singleLine (hT : TB L T) (S : SW L T lb x0 y0 0 0 0 (fun W' _ => W' = W) x y) (G : GS L T lb x y) (B : BW W) {wc : Nat} (hw : WC x y wc) (h2 : ∀ k, 29 ≤ k → k ≤ 31 → k ≠ wc) : Ok2 (Re_readSingle 2 x) (Mo_readNext 298 y) (SW L T lb x0 y0 0 0 0 (fun W' _ => BW W' ∧ W' 0 = W 0)) := by
  have c : ∀ k, k < 32 → Re_is 2 (1000 + k) x = some (if k = wc then 1 else 0) := fun k a => hw.c k a
  have z : (0 : Int32) = 0 := rfl
  have one : ¬ (1 : Int32) = 0 := by decide
  by_cases h : ∀ k, 20 ≤ k → k ≤ 25 → k ≠ wc
  · exact noLine hT S G hw h h2
  · have : wc = 20 ∨ wc = 21 ∨ wc = 22 ∨ wc = 23 ∨ wc = 24 ∨ wc = 25 := by
      apply Classical.byContradiction
      intro q
      exact h (fun k a b e => q (by omega))
    unfold Re_readSingle
    rcases this with rfl | rfl | rfl | rfl | rfl | rfl
    · rw [show Re_is 2 1021 x = some 0 from c 21 (by decide), bind_s, if_pos z, show Re_is 2 1022 x = some 0 from c 22 (by decide), bind_s, if_pos z, show Re_is 2 1023 x = some 0 from c 23 (by decide), bind_s, if_pos z, show Re_is 2 1024 x = some 0 from c 24 (by decide), bind_s, if_pos z, show Re_is 2 1025 x = some 0 from c 25 (by decide), bind_s, if_pos z, show Re_is 2 1020 x = some 1 from c 20 (by decide), bind_s, if_neg one]
      exact single5 hT S G B hw
    · rw [show Re_is 2 1021 x = some 1 from c 21 (by decide), bind_s, if_neg one]
      exact single0 hT S G B hw
    · rw [show Re_is 2 1021 x = some 0 from c 21 (by decide), bind_s, if_pos z, show Re_is 2 1022 x = some 1 from c 22 (by decide), bind_s, if_neg one]
      exact single1 hT S G B hw
    · rw [show Re_is 2 1021 x = some 0 from c 21 (by decide), bind_s, if_pos z, show Re_is 2 1022 x = some 0 from c 22 (by decide), bind_s, if_pos z, show Re_is 2 1023 x = some 1 from c 23 (by decide), bind_s, if_neg one]
      exact single2 hT S G B hw
    · rw [show Re_is 2 1021 x = some 0 from c 21 (by decide), bind_s, if_pos z, show Re_is 2 1022 x = some 0 from c 22 (by decide), bind_s, if_pos z, show Re_is 2 1023 x = some 0 from c 23 (by decide), bind_s, if_pos z, show Re_is 2 1024 x = some 1 from c 24 (by decide), bind_s, if_neg one]
      exact single3 hT S G B hw
    · rw [show Re_is 2 1021 x = some 0 from c 21 (by decide), bind_s, if_pos z, show Re_is 2 1022 x = some 0 from c 22 (by decide), bind_s, if_pos z, show Re_is 2 1023 x = some 0 from c 23 (by decide), bind_s, if_pos z, show Re_is 2 1024 x = some 0 from c 24 (by decide), bind_s, if_pos z, show Re_is 2 1025 x = some 1 from c 25 (by decide), bind_s, if_neg one]
      exact single4 hT S G B hw
end READS
