/-! a crack's line, whole -/
section CRACKALL
variable {L lb : Nat} {T : Nat → Int32} {x y x0 y0 x' y' : Mem} {kc ks ko lo hi : Nat} {Q : Wd → Nat → Prop} {W W' : Wd}
theorem crackBody (hT : TB L T) (S : SW L T lb x0 y0 0 0 0 (fun W' _ => W' = W) x y) (G : GS L T lb x y) (B : BW W) {c : Nat} (hc : W 5 = c) (h7 : c < 7) :
    Ok2 ((Re_is 2 1006 x).bind (fun r28 => if r28 = 0 then (Re_take 2 1005 x).bind (fun m46 => Re_readCrack_b49 2 r28 m46) else (Re_next 2 x).bind (fun m37 => Re_readCrack_b49 2 r28 m37))) (Mo_readCrack 298 y) (SW L T lb x0 y0 0 0 0 (fun W' _ => BW W' ∧ W' 0 = W 0)) := by
  obtain ⟨W1, o, rfl, ol, f, g, o1, o2⟩ := S.good G
  have K := S.1
  have M := S.2.1
  have e5 : (24 : Int32) + 8 * rI y (298 + 6) (ix 5) = nI (24 + 8 * c) := by
    rw [show rI y (298 + 6) (ix 5) = nI (W1 5) from g 5 (by decide) (by decide), hc, show (8 : Int32) = nI 8 from rfl, pk_mul, show (24 : Int32) = nI 24 from rfl, nI_add]
  obtain ⟨wc, hw⟩ := word2 hT K M G
  unfold Mo_readCrack
  rw [gd_t (by decide), e5]
  by_cases z6 : 6 = wc
  · subst z6
    obtain ⟨x1, v1, f1, f2, k0, k1, k2, k3, k4, k5⟩ := hw.ty hT K M G (by decide)
    have S1 : SW L T lb x0 y0 0 0 0 (fun W' _ => W' = W1 ∧ 1 = 1) x1 v1.2 := (S.go k1 k2 k4.f k5.f (fun b => absurd G.1 b.1) (Or.inl k3)).mono (fun W' o h => ⟨h, rfl⟩)
    rw [show Re_is 2 1006 x = _ from hw.c 6 (by decide), if_pos rfl, bind_s, if_neg (show ¬ (1 : Int32) = 0 by decide), f1, bind_s, show Mo_takes 298 1005 y = _ from hw.tn (j := 5) (by decide) (by decide), bind_s, if_pos (show (0 : Int32) = 0 from rfl)]
    unfold Mo_needs
    rw [show Mo_takes 298 1006 y = some v1 from f2, bind_s, if_neg (by rw [k0]; decide), bind_s]
    unfold Re_readCrack_b49 Re_readCrack_b60 Mo_readCrack_b30 Mo_readCrack_b46
    rw [if_neg (show ¬ (1 : Int32) = 0 by decide), if_pos (show (0 : Int32) = 0 from rfl)]
    simp only [if_neg (show ¬ (1 : Int32) = 0 by decide), if_true]
    exact crackDir hT (j1 := 1) (j2 := 1) S1 B hc h7 (by decide) (by decide)
  · rw [show Re_is 2 1006 x = _ from hw.c 6 (by decide), if_neg z6, bind_s, if_pos (show (0 : Int32) = 0 from rfl)]
    by_cases z5 : 5 = wc
    · subst z5
      obtain ⟨x1, v1, f1, f2, k0, k1, k2, k3, k4, k5⟩ := hw.ty hT K M G (by decide)
      have S1 : SW L T lb x0 y0 0 0 0 (fun W' _ => W' = W1 ∧ 0 = 0) x1 v1.2 := (S.go k1 k2 k4.f k5.f (fun b => absurd G.1 b.1) (Or.inl k3)).mono (fun W' o h => ⟨h, rfl⟩)
      have tk : Re_take 2 1005 x = some x1 := by
        unfold Re_take
        rw [if_pos (show rI x 2 3 = 0 from G.1), show Re_is 2 1005 x = _ from hw.c 5 (by decide), if_pos rfl, bind_s, if_neg (show ¬ (1 : Int32) = 0 by decide), f1, bind_s]
      rw [tk, bind_s, show Mo_takes 298 1005 y = some v1 from f2, bind_s, if_neg (by rw [k0]; decide)]
      unfold Re_readCrack_b49 Re_readCrack_b60 Mo_readCrack_b30 Mo_readCrack_b46
      rw [k0]
      simp only [if_neg (show ¬ (1 : Int32) = 0 by decide), if_true]
      exact crackDir hT (j1 := 0) (j2 := 0) S1 B hc h7 (by decide) (by decide)
    · obtain ⟨x1, y1, f1, f2, k1, k2, k3, k4, k5⟩ := fail2 K M G 1 (by decide)
      have S1 : SW L T lb x0 y0 0 0 0 (fun W' _ => W' = W1 ∧ 0 = 1) x1 y1 := ⟨k1, k2, S.2.2.1.trans k4.c, S.2.2.2.1.trans k5.m, Or.inr k3⟩
      have tk : Re_take 2 1005 x = some x1 := by
        unfold Re_take
        rw [if_pos (show rI x 2 3 = 0 from G.1), show Re_is 2 1005 x = _ from hw.c 5 (by decide), if_neg z5, bind_s, if_pos rfl, f1, bind_s]
      rw [tk, bind_s, show Mo_takes 298 1005 y = _ from hw.tn (j := 5) (by decide) z5, bind_s, if_pos (show (0 : Int32) = 0 from rfl)]
      unfold Mo_needs
      rw [show Mo_takes 298 1006 y = _ from hw.tn (j := 6) (by decide) z6, bind_s, if_pos rfl, f2, bind_s, bind_s]
      unfold Re_readCrack_b49 Re_readCrack_b60 Mo_readCrack_b30 Mo_readCrack_b46
      simp only [if_neg (show ¬ (1 : Int32) = 0 by decide), if_true]
      exact crackDir hT (j1 := 0) (j2 := 1) S1 B hc h7 (by decide) (by decide)
theorem crackLine (hT : TB L T) (S : SW L T lb x0 y0 0 0 0 (fun W' _ => W' = W) x y) (G : GS L T lb x y) (B : BW W) (hw : WC x y 29) : Ok2 (Re_readCrack 2 x) (Mo_readNext 298 y) (SW L T lb x0 y0 0 0 0 (fun W' _ => BW W' ∧ W' 0 = W 0)) := by
  obtain ⟨W1, o, rfl, ol, f, g, o1, o2⟩ := S.good G
  have K := S.1
  have M := S.2.1
  have b1 := B.1
  have g5 : rI y (298 + 6) (ix 5) = nI (W1 5) := g 5 (by decide) (by decide)
  unfold Re_readCrack Mo_readNext Mo_readNext_b42 Mo_readNext_b66
  rw [show Ta_isFull (2 + 3) x = _ from Ta_isFull_e (t := 5) (n := 7) (by decide +kernel) (by decide) f.2.1 (by omega), bind_s, once_e hw, bind_s, show Mo_is 298 1029 y = _ from hw.m 29 (by decide), bind_s, if_pos (show onI 29 = -1 from rfl), if_pos (show (29 : Nat) = 29 from rfl), if_neg (show ¬ (1 : Int32) = 0 by decide), if_pos (show onI 29 = -1 from rfl), bind_s, if_neg (show ¬ (1 : Int32) = 0 by decide), gd_t (by decide), g5]
  by_cases h7 : W1 5 = 7
  · rw [if_pos h7, if_neg (show ¬ (1 : Int32) = 0 by decide), if_pos (show nI (W1 5) = 7 by rw [h7]; rfl)]
    obtain ⟨x1, y1, f1, f2, k1, k2, k3, k4, k5⟩ := fail2 K M G 3 (by decide)
    unfold Mo_readNext_b127
    rw [f1, bind_s, f2, bind_s, b132_b k3]
    exact Ok2_s ⟨k1, k2, S.2.2.1.trans k4.c, S.2.2.2.1.trans k5.m, Or.inr k3⟩
  · rw [if_neg h7, if_pos rfl, if_neg (show ¬ nI (W1 5) = 7 from fun z => h7 ((nI_eq (b := 7) (by omega) (by decide)).mp z))]
    unfold Mo_readNext_b86 Mo_readNext_b107 Mo_readNext_b132
    obtain ⟨x1, v1, f1, f2, k0, k1, k2, k3, k4, k5⟩ := hw.ty hT K M G (by decide)
    rw [show Mo_is 298 1030 y = _ from hw.m 30 (by decide), bind_s, if_neg (show ¬ (30 : Nat) = 29 by decide), if_pos rfl, show Mo_is 298 1031 y = _ from hw.m 31 (by decide), bind_s, if_neg (show ¬ (31 : Nat) = 29 by decide), if_pos rfl, Mo_good_g G, bind_s, if_neg (show ¬ (1 : Int32) = 0 by decide), if_pos (show onI 29 = -1 from rfl), show Mo_takes 298 1029 y = some v1 from f2, bind_s, if_neg (by rw [k0]; decide), f1, bind_s]
    have S1 := S.go k1 k2 k4.f k5.f (fun b => absurd G.1 b.1) (Or.inl k3)
    refine Ok2_mono (P := SW L T lb x0 y0 0 0 0 (fun W' _ => BW W' ∧ W' 0 = W1 0)) ?_ (fun _ _ h => h)
    obtain ⟨u, v, r1, r2, r3⟩ := crackBody hT S1 k3 B rfl (show W1 5 < 7 by omega)
    rw [r2, bind_s]
    exact Ok2_e r1 rfl r3
end CRACKALL
