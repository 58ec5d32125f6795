/-! lines: what a floe being read keeps; a crack's line -/
section CRACKLINE
variable {L lb : Nat} {T : Nat → Int32} {x y x0 y0 x' y' : Mem} {kc ks ko lo hi : Nat} {Q : Wd → Nat → Prop} {W W' : Wd}
def BW (W : Wd) : Prop := (2 ≤ W 1 ∧ W 1 ≤ 12 ∧ 2 ≤ W 2 ∧ W 2 ≤ 12 ∧ 1 ≤ W 3 ∧ W 3 ≤ 28 ∧ 1 ≤ W 4 ∧ W 4 ≤ 60 ∧ W 5 ≤ 7 ∧ W 6 ≤ 6 ∧ W 7 ≤ 4) ∧ (W 8 ≤ 9 ∧ W 9 ≤ 9 ∧ W 10 ≤ 100 ∧ W 11 ≤ 60 ∧ W 12 ≤ 60 ∧ W 13 ≤ 100 ∧ W 14 ≤ 100 ∧ W 15 ≤ 60 ∧ W 16 ≤ 9999 ∧ W 17 ≤ 9999) ∧
  (∀ c, c < W 5 → IvC W c) ∧ (∀ s, s < W 6 → wso W s 0 ≤ 3 ∧ 1 ≤ wso W s 1 ∧ wso W s 1 ≤ 99 ∧ 1 ≤ wso W s 2 ∧ wso W s 2 ≤ 99 ∧ wso W s 3 ≤ 20) ∧ (∀ o, o < W 7 → IvO W o) ∧ ∀ i, (i = 18 ∨ i = 19 ∨ (116 ≤ i ∧ i < 200) ∨ ∃ c, c < 7 ∧ i = 31 + 8 * c) → W i = 0
theorem CFr.refl : CFr x x := ⟨fun _ _ => ⟨rfl, rfl⟩, rfl⟩
theorem MFr.refl : MFr y y := ⟨fun _ _ _ => ⟨rfl, rfl⟩, fun _ _ => rfl, rfl⟩
theorem SW.good (S : SW L T lb x0 y0 kc ks ko Q x y) (G : GS L T lb x y) : ∃ W o, Q W o ∧ o < 64 ∧ FD x W kc ks ko ∧ FM y W ∧ x.1 2 9 = nI o ∧ y.1 304 20 = nI o := by
  rcases S.2.2.2.2 with h | h
  · exact h.2
  · exact absurd G.1 h.1
theorem BW.crk (B : BW W) {c : Nat} (hc : W 5 = c) (h7 : c < 7) (e5 : W' 5 = c + 1) (eo : ∀ i, i ≠ 5 → i < 24 + 8 * c ∨ 24 + 8 * c + 7 ≤ i → W' i = W i)
    (h0 : wcr W' c 0 ≤ 1) (h1 : 1 ≤ wcr W' c 1) (h2 : wcr W' c 0 = 0 → wcr W' c 1 + 1 ≤ W 1) (h3 : wcr W' c 0 = 1 → wcr W' c 1 + 1 ≤ W 2) (h4 : wcr W' c 2 ≤ 500) (h5 : wcr W' c 3 ≤ 99) (h6 : wcr W' c 4 ≤ 99) (h8 : wcr W' c 5 ≤ 99) (h9 : wcr W' c 6 ≤ 1) : BW W' ∧ W' 0 = W 0 := by
  obtain ⟨b1, b2, b3, b4, b5, b6⟩ := B
  have e1 := eo 1 (by omega) (by omega)
  have e2 := eo 2 (by omega) (by omega)
  refine ⟨⟨?_, ?_, fun i hi => ?_, fun s hs => ?_, fun o ho => ?_, fun i hi => ?_⟩, eo 0 (by omega) (by omega)⟩
  · rw [e1, e2, eo 3 (by omega) (by omega), eo 4 (by omega) (by omega), e5, eo 6 (by omega) (by omega), eo 7 (by omega) (by omega)]
    omega
  · rw [eo 8 (by omega) (by omega), eo 9 (by omega) (by omega), eo 10 (by omega) (by omega), eo 11 (by omega) (by omega), eo 12 (by omega) (by omega), eo 13 (by omega) (by omega), eo 14 (by omega) (by omega), eo 15 (by omega) (by omega), eo 16 (by omega) (by omega), eo 17 (by omega) (by omega)]
    exact b2
  · rw [e5] at hi
    have z7 : W' (24 + 8 * i + 7) = 0 := by
      rw [eo _ (by omega) (by omega)]
      exact b6 _ (Or.inr (Or.inr (Or.inr ⟨i, by omega, by omega⟩)))
    by_cases q : i = c
    · subst q
      exact ⟨h0, h1, fun w => by rw [e1]; exact h2 w, fun w => by rw [e2]; exact h3 w, h4, h5, h6, h8, h9, Nat.le_trans (Nat.le_of_eq z7) (by decide)⟩
    · have ek : ∀ k, k < 7 → W' (24 + 8 * i + k) = W (24 + 8 * i + k) := fun k hk => eo _ (by omega) (by omega)
      obtain ⟨c0, c1, c2, c3, c4, c5, c6, c7, c8, c9⟩ := b3 i (by omega)
      unfold IvC
      rw [show wcr W' i 0 = _ from ek 0 (by decide), show wcr W' i 1 = _ from ek 1 (by decide), show wcr W' i 2 = _ from ek 2 (by decide), show wcr W' i 3 = _ from ek 3 (by decide), show wcr W' i 4 = _ from ek 4 (by decide), show wcr W' i 5 = _ from ek 5 (by decide), show wcr W' i 6 = _ from ek 6 (by decide), show wcr W' i 7 = 0 from z7, e1, e2]
      exact ⟨c0, c1, c2, c3, c4, c5, c6, c7, c8, by decide⟩
  · rw [eo 6 (by omega) (by omega)] at hs
    have ek : ∀ k, k < 4 → W' (80 + 4 * s + k) = W (80 + 4 * s + k) := fun k hk => eo _ (by omega) (by omega)
    rw [show wso W' s 0 = _ from ek 0 (by decide), show wso W' s 1 = _ from ek 1 (by decide), show wso W' s 2 = _ from ek 2 (by decide), show wso W' s 3 = _ from ek 3 (by decide)]
    exact b4 s hs
  · rw [eo 7 (by omega) (by omega)] at ho
    have ek : ∀ k, k < 3 → W' (104 + 3 * o + k) = W (104 + 3 * o + k) := fun k hk => eo _ (by omega) (by omega)
    unfold IvO
    rw [show wot W' o 0 = _ from ek 0 (by decide), show wot W' o 1 = _ from ek 1 (by decide), show wot W' o 2 = _ from ek 2 (by decide)]
    exact b5 o ho
  · rw [eo i (by rcases hi with h | h | h | ⟨k, h, h'⟩ <;> omega) (by rcases hi with h | h | h | ⟨k, h, h'⟩ <;> omega)]
    exact b6 i hi
theorem crackDir (hT : TB L T) {j1 j2 : Nat} (S : SW L T lb x0 y0 0 0 0 (fun W' _ => W' = W ∧ j1 = j2) x y) (B : BW W) {c : Nat} (hc : W 5 = c) (h7 : c < 7) (hj1 : j1 < 2) (hj2 : j2 < 2) :
    Ok2 ((Ta_tell 5 0 (nI j1) x).bind (fun m60 => Re_readCrack_b88 2 1 1 (rI m60 4 j1) m60)) (gd (inb (nI (24 + 8 * c) + 0) 200) (lt (wI y 304 (ix (nI (24 + 8 * c) + 0)) (nI j2)) (fun m46 => Mo_readCrack_b69 298 (nI (24 + 8 * c)) (nI (24 + 8 * c) + 1) 1 (nI (j2 + 1)) m46))) (SW L T lb x0 y0 0 0 0 (fun W' _ => BW W' ∧ W' 0 = W 0)) := by
  have V := S.con j1 (nI j1) (nI j2) (fun G => by
    obtain ⟨_, _, q, -⟩ := S.good G
    exact ⟨rfl, by rw [q.2]⟩)
  have b1 := B.1
  refine V.crk (c := c) (j := 0) h7 (by decide) ?_ rfl (nI_add _ 0) (fun x1 y1 S1 => ?_)
  · rintro W' o' ⟨rfl, -⟩
    exact ⟨hc, by omega, by omega, by omega⟩
  · refine Ok2_mono (crackRest hT S1 (H := W (j1 + 1)) h7 ?_ ?_ (in_nI (by omega) (by decide)) (fun G => ?_)) (fun x2 y2 S2 => S2.mono ?_)
    · rintro W' o' ⟨W1, n, ⟨rfl, -⟩, -, -, rfl⟩
      obtain ⟨w5, w6, w7⟩ := wu57 (W := W1) (n := n) (i := 24 + 8 * c + 0) (by omega)
      rw [w5, w6, w7]
      exact ⟨hc, by omega, by omega, by omega⟩
    · have : j1 = 0 ∨ j1 = 1 := by omega
      rcases this with z | z
      · rw [z]; show 1 ≤ W 1 ∧ W 1 ≤ 12; omega
      · rw [z]; show 1 ≤ W 2 ∧ W 2 ≤ 12; omega
    · obtain ⟨W2, o2, ⟨W1, n, ⟨rfl, ej⟩, n1, n2, rfl⟩, -, f, g, -, -⟩ := S1.good G
      have j12 : fmap j1 = j1 + 1 := by
        have : j1 = 0 ∨ j1 = 1 := by omega
        rcases this with z | z <;> rw [z] <;> rfl
      constructor
      · rw [show rI x1 4 j1 = _ from f.1 j1 (by omega), j12]
        exact congrArg nI (wu_o W1 (by omega) n)
      · rw [ix_nI (by omega), ← ej, show rI y1 304 (j1 + 1) = _ from g (j1 + 1) (by omega) (by omega)]
        exact congrArg nI (wu_o W1 (by omega) n)
    · rintro W' o' ⟨W2, n1, n2, n3, n4, n5, n6, ⟨W1, n0, ⟨rfl, ej⟩, a0, b0, rfl⟩, ⟨a1, c1⟩, c2, c3, c4, c5, c6, rfl⟩
      have v0 : wcr (wu (wu (wu (wu (wu (wu (wu (wu W1 (24 + 8 * c + 0) n0) (24 + 8 * c + 1) n1) (24 + 8 * c + 2) n2) (24 + 8 * c + 3) n3) (24 + 8 * c + 4) n4) (24 + 8 * c + 5) n5) (24 + 8 * c + 6) n6) 5 (c + 1)) c 0 = n0 := by
        show wu _ 5 (c + 1) (24 + 8 * c + 0) = n0
        rw [wu_o _ (by omega), wu_o _ (by omega), wu_o _ (by omega), wu_o _ (by omega), wu_o _ (by omega), wu_o _ (by omega), wu_o _ (by omega), wu_s]
      have v1 : wcr (wu (wu (wu (wu (wu (wu (wu (wu W1 (24 + 8 * c + 0) n0) (24 + 8 * c + 1) n1) (24 + 8 * c + 2) n2) (24 + 8 * c + 3) n3) (24 + 8 * c + 4) n4) (24 + 8 * c + 5) n5) (24 + 8 * c + 6) n6) 5 (c + 1)) c 1 = n1 := by
        show wu _ 5 (c + 1) (24 + 8 * c + 1) = n1
        rw [wu_o _ (by omega), wu_o _ (by omega), wu_o _ (by omega), wu_o _ (by omega), wu_o _ (by omega), wu_o _ (by omega), wu_s]
      have v2 : wcr (wu (wu (wu (wu (wu (wu (wu (wu W1 (24 + 8 * c + 0) n0) (24 + 8 * c + 1) n1) (24 + 8 * c + 2) n2) (24 + 8 * c + 3) n3) (24 + 8 * c + 4) n4) (24 + 8 * c + 5) n5) (24 + 8 * c + 6) n6) 5 (c + 1)) c 2 = n2 := by
        show wu _ 5 (c + 1) (24 + 8 * c + 2) = n2
        rw [wu_o _ (by omega), wu_o _ (by omega), wu_o _ (by omega), wu_o _ (by omega), wu_o _ (by omega), wu_s]
      have v3 : wcr (wu (wu (wu (wu (wu (wu (wu (wu W1 (24 + 8 * c + 0) n0) (24 + 8 * c + 1) n1) (24 + 8 * c + 2) n2) (24 + 8 * c + 3) n3) (24 + 8 * c + 4) n4) (24 + 8 * c + 5) n5) (24 + 8 * c + 6) n6) 5 (c + 1)) c 3 = n3 := by
        show wu _ 5 (c + 1) (24 + 8 * c + 3) = n3
        rw [wu_o _ (by omega), wu_o _ (by omega), wu_o _ (by omega), wu_o _ (by omega), wu_s]
      have v4 : wcr (wu (wu (wu (wu (wu (wu (wu (wu W1 (24 + 8 * c + 0) n0) (24 + 8 * c + 1) n1) (24 + 8 * c + 2) n2) (24 + 8 * c + 3) n3) (24 + 8 * c + 4) n4) (24 + 8 * c + 5) n5) (24 + 8 * c + 6) n6) 5 (c + 1)) c 4 = n4 := by
        show wu _ 5 (c + 1) (24 + 8 * c + 4) = n4
        rw [wu_o _ (by omega), wu_o _ (by omega), wu_o _ (by omega), wu_s]
      have v5 : wcr (wu (wu (wu (wu (wu (wu (wu (wu W1 (24 + 8 * c + 0) n0) (24 + 8 * c + 1) n1) (24 + 8 * c + 2) n2) (24 + 8 * c + 3) n3) (24 + 8 * c + 4) n4) (24 + 8 * c + 5) n5) (24 + 8 * c + 6) n6) 5 (c + 1)) c 5 = n5 := by
        show wu _ 5 (c + 1) (24 + 8 * c + 5) = n5
        rw [wu_o _ (by omega), wu_o _ (by omega), wu_s]
      have v6 : wcr (wu (wu (wu (wu (wu (wu (wu (wu W1 (24 + 8 * c + 0) n0) (24 + 8 * c + 1) n1) (24 + 8 * c + 2) n2) (24 + 8 * c + 3) n3) (24 + 8 * c + 4) n4) (24 + 8 * c + 5) n5) (24 + 8 * c + 6) n6) 5 (c + 1)) c 6 = n6 := by
        show wu _ 5 (c + 1) (24 + 8 * c + 6) = n6
        rw [wu_o _ (by omega), wu_s]
      refine B.crk hc h7 (wu_s _ _ _) (fun i h5 hi => ?_) (by rw [v0]; omega) (by rw [v1]; omega) (fun z => ?_) (fun z => ?_) (by rw [v2]; omega) (by rw [v3]; omega) (by rw [v4]; omega) (by rw [v5]; omega) (by rw [v6]; omega)
      · rw [wu_o _ (by omega), wu_o _ (by omega), wu_o _ (by omega), wu_o _ (by omega), wu_o _ (by omega), wu_o _ (by omega), wu_o _ (by omega), wu_o _ (by omega)]
      · rw [v0] at z
        rw [v1]
        rw [show j1 = 0 by omega] at c1
        show n1 + 1 ≤ W1 1
        rw [show (0 : Nat) + 1 = 1 from rfl] at c1
        omega
      · rw [v0] at z
        rw [v1]
        rw [show j1 = 1 by omega] at c1
        show n1 + 1 ≤ W1 2
        rw [show (1 : Nat) + 1 = 2 from rfl] at c1
        omega
/-! which line it is, on the reference's side -/
def onI (wc : Nat) : Int32 := if wc = 21 then 0 else if wc = 22 then 1 else if wc = 23 then 2 else if wc = 24 then 3 else if wc = 25 then 4 else if wc = 20 then 5 else -1
theorem once_e {wc : Nat} (h : WC x y wc) : Mo_onceHere 298 y = some (onI wc) := by
  unfold Mo_onceHere onI
  rw [show Mo_is 298 1021 y = _ from h.m 21 (by decide), bind_s, show Mo_is 298 1022 y = _ from h.m 22 (by decide), bind_s, show Mo_is 298 1023 y = _ from h.m 23 (by decide), bind_s, show Mo_is 298 1024 y = _ from h.m 24 (by decide), bind_s, show Mo_is 298 1025 y = _ from h.m 25 (by decide), bind_s, show Mo_is 298 1020 y = _ from h.m 20 (by decide), bind_s]
  by_cases a : wc = 21
  · subst a; rfl
  · by_cases b : wc = 22
    · subst b; rfl
    · by_cases c : wc = 23
      · subst c; rfl
      · by_cases d : wc = 24
        · subst d; rfl
        · by_cases e : wc = 25
          · subst e; rfl
          · by_cases f : wc = 20
            · subst f; rfl
            · rw [if_neg a, if_neg b, if_neg c, if_neg d, if_neg e, if_neg f, if_neg (show ¬ 21 = wc by omega), if_neg (show ¬ 22 = wc by omega), if_neg (show ¬ 23 = wc by omega), if_neg (show ¬ 24 = wc by omega), if_neg (show ¬ 25 = wc by omega), if_neg (show ¬ 20 = wc by omega)]
              rfl
theorem b132_b (B : BS x y) (v : Int32) : Mo_readNext_b132 298 v y = some y := by
  unfold Mo_readNext_b132
  rw [Mo_good_b B, bind_s, if_pos rfl]
theorem b66_b (B : BS x y) (v : Int32) : Mo_readNext_b66 298 v y = some y := by
  unfold Mo_readNext_b66 Mo_readNext_b86 Mo_readNext_b107
  rw [Mo_is_b B, bind_s, if_pos rfl, Mo_is_b B, bind_s, if_pos rfl, Mo_is_b B, bind_s, if_pos rfl]
  exact b132_b B v
end CRACKLINE
