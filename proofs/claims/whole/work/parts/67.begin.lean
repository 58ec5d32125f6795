/-! a new floe is begun in the camp -/
section BEGIN
variable {L lb : Nat} {T : Nat → Int32} {x y x0 y0 x' y' m : Mem} {W : Wd}
def NZ (W : Wd) : Prop := W 5 ≤ 7 ∧ W 6 ≤ 6 ∧ W 7 ≤ 4 ∧ ∀ i, (i = 18 ∨ i = 19 ∨ (116 ≤ i ∧ i < 200) ∨ ∃ c, c < 7 ∧ i = 31 + 8 * c) → W i = 0
def bgW (W : Wd) (o : Nat) : Wd := wu (wu W 20 o) 190 (W 3)
theorem bg_o (W : Wd) (o : Nat) {i : Nat} (h1 : i ≠ 20) (h2 : i ≠ 190) : bgW W o i = W i := by
  unfold bgW
  rw [wu_o _ h2, wu_o _ h1]
theorem bg_p (W : Wd) (o : Nat) : bgW W o 190 = W 3 := wu_s _ _ _
theorem bg_20 (W : Wd) (o : Nat) : bgW W o 20 = o := by
  unfold bgW
  rw [wu_o _ (by decide), wu_s]
theorem LQ.nz {i : Nat} (h : LQ i W) : NZ W := by
  rcases h.2 with ⟨-, rfl⟩ | ⟨-, B⟩
  · exact ⟨by decide, by decide, by decide, fun i hi => z0_0 (by rcases hi with h | h | h | ⟨k, h, h'⟩ <;> omega)⟩
  · obtain ⟨b1, b2, b3, b4, b5, b6⟩ := B
    exact ⟨by omega, by omega, by omega, b6⟩
theorem LQ.inv {i : Nat} (h : LQ i W) (hi : i ≤ 1601) (o : Nat) : Inv (bgW W o) := by
  obtain ⟨z5, z6, z7, zz⟩ := h.nz
  have eo : ∀ i, i ≠ 20 → i ≠ 190 → bgW W o i = W i := fun i h1 h2 => bg_o W o h1 h2
  have w0 := h.1
  have a : IvA W ∧ (W 8 ≤ 9 ∧ W 9 ≤ 9 ∧ W 10 ≤ 100 ∧ W 11 ≤ 60 ∧ W 12 ≤ 60 ∧ W 13 ≤ 100 ∧ W 14 ≤ 100 ∧ W 15 ≤ 60 ∧ W 16 ≤ 9999 ∧ W 17 ≤ 9999) ∧
      (∀ c, c < W 5 → IvC W c) ∧ (∀ s, s < W 6 → wso W s 0 ≤ 3 ∧ 1 ≤ wso W s 1 ∧ wso W s 1 ≤ 99 ∧ 1 ≤ wso W s 2 ∧ wso W s 2 ≤ 99 ∧ wso W s 3 ≤ 20) ∧ (∀ o, o < W 7 → IvO W o) ∧ (0 < W 1 → 0 < W 2) := by
    rcases h.2 with ⟨-, rfl⟩ | ⟨-, b1, b2, b3, b4, b5, b6⟩
    · have e5 : z0W 5 = 0 := rfl
      have e6 : z0W 6 = 0 := rfl
      have e7 : z0W 7 = 0 := rfl
      refine ⟨Or.inl (by decide), by decide, fun c hc => ?_, fun c hc => ?_, fun c hc => ?_, fun h => ?_⟩
      · rw [e5] at hc; omega
      · rw [e6] at hc; omega
      · rw [e7] at hc; omega
      · exact absurd h (by decide)
    · exact ⟨Or.inr b1, b2, b3, b4, b5, fun _ => by omega⟩
  obtain ⟨a1, a2, a3, a4, a5, a6⟩ := a
  have e1 := eo 1 (by decide) (by decide)
  have e2 := eo 2 (by decide) (by decide)
  have e3 := eo 3 (by decide) (by decide)
  have hz : ∀ h k, h < 8 → k < 9 → whe (bgW W o) h k = 0 := fun h k hh hk => (eo (116 + 9 * h + k) (by omega) (by omega)).trans (zz _ (by omega))
  have gz : ∀ g k, g < 4 → k < 3 → ¬ (g = 0 ∧ k = 2) → wgr (bgW W o) g k = 0 := fun g k hg hk q => (eo (188 + 3 * g + k) (by omega) (by omega)).trans (zz _ (by omega))
  have g02 : wgr (bgW W o) 0 2 = W 3 := bg_p W o
  have w3 : W 3 ≤ 28 := by rcases a1 with h | h <;> omega
  have ia : IvA (bgW W o) := by
    unfold IvA
    rw [e1, e2, e3, eo 4 (by decide) (by decide), eo 5 (by decide) (by decide), eo 6 (by decide) (by decide), eo 7 (by decide) (by decide)]
    exact a1
  refine ⟨ia, ?_, fun c hc => ?_, fun s hs => ?_, fun q hq => ?_, fun h hh => ?_, fun g hg => ?_, ?_⟩
  · unfold IvB
    rw [eo 0 (by decide) (by decide), eo 8 (by decide) (by decide), eo 9 (by decide) (by decide), eo 10 (by decide) (by decide), eo 11 (by decide) (by decide), eo 12 (by decide) (by decide), eo 13 (by decide) (by decide), eo 14 (by decide) (by decide), eo 15 (by decide) (by decide), eo 16 (by decide) (by decide), eo 17 (by decide) (by decide), eo 18 (by decide) (by decide), eo 19 (by decide) (by decide), zz 18 (by omega), zz 19 (by omega)]
    have := Nat.two_pow_pos (bgW W o 5)
    omega
  · rw [eo 5 (by decide) (by decide)] at hc
    have ek : ∀ k, k < 8 → bgW W o (24 + 8 * c + k) = W (24 + 8 * c + k) := fun k hk => eo _ (by omega) (by omega)
    unfold IvC
    rw [show wcr (bgW W o) c 0 = _ from ek 0 (by decide), show wcr (bgW W o) c 1 = _ from ek 1 (by decide), show wcr (bgW W o) c 2 = _ from ek 2 (by decide), show wcr (bgW W o) c 3 = _ from ek 3 (by decide), show wcr (bgW W o) c 4 = _ from ek 4 (by decide), show wcr (bgW W o) c 5 = _ from ek 5 (by decide), show wcr (bgW W o) c 6 = _ from ek 6 (by decide), show wcr (bgW W o) c 7 = _ from ek 7 (by decide), e1, e2]
    exact a3 c hc
  · rw [eo 6 (by decide) (by decide)] at hs
    have ek : ∀ k, k < 4 → bgW W o (80 + 4 * s + k) = W (80 + 4 * s + k) := fun k hk => eo _ (by omega) (by omega)
    unfold IvS
    rw [show wso (bgW W o) s 0 = _ from ek 0 (by decide), show wso (bgW W o) s 1 = _ from ek 1 (by decide), show wso (bgW W o) s 2 = _ from ek 2 (by decide), show wso (bgW W o) s 3 = _ from ek 3 (by decide), sN_0 (fun h hh => hz h (3 + s) hh (by omega))]
    obtain ⟨s1, s2, s3, s4, s5, s6⟩ := a4 s hs
    exact ⟨s1, s2, s3, s4, s5, s6, Nat.zero_le _⟩
  · rw [eo 7 (by decide) (by decide)] at hq
    have ek : ∀ k, k < 3 → bgW W o (104 + 3 * q + k) = W (104 + 3 * q + k) := fun k hk => eo _ (by omega) (by omega)
    unfold IvO
    rw [show wot (bgW W o) q 0 = _ from ek 0 (by decide), show wot (bgW W o) q 1 = _ from ek 1 (by decide), show wot (bgW W o) q 2 = _ from ek 2 (by decide)]
    exact a5 q hq
  · unfold IvH
    rw [hz h 0 hh (by decide), hz h 1 hh (by decide), hz h 2 hh (by decide)]
    exact ⟨by decide, fun q => absurd q (by decide), fun _ => ⟨rfl, rfl, fun s hs => hz h _ hh (by omega)⟩, fun s _ hs => hz h _ hh (by omega)⟩
  · unfold IvG
    rw [gz g 0 hg (by decide) (by omega), gz g 1 hg (by decide) (by omega), e1, e2]
    refine ⟨fun h => ⟨h, a6 h⟩, by decide, by decide, ?_⟩
    by_cases g0 : g = 0
    · rw [g0, g02]; exact w3
    · rw [gz g 2 hg (by decide) (by omega)]; decide
  · rw [show sN (fun g => wgr (bgW W o) g 2) 4 = wgr (bgW W o) 0 2 + wgr (bgW W o) 1 2 + wgr (bgW W o) 2 2 + wgr (bgW W o) 3 2 by simp only [sN_s]; rw [show sN (fun g => wgr (bgW W o) g 2) 0 = 0 from rfl, Nat.zero_add], g02, gz 1 2 (by decide) (by decide) (by decide), gz 2 2 (by decide) (by decide) (by decide), gz 3 2 (by decide) (by decide) (by decide), e3]
    omega
theorem FD.eq {kc ks ko : Nat} (h : FD x W kc ks ko) (e : ∀ a, 4 ≤ a → x'.1 a = x.1 a) : FD x' W kc ks ko := by
  obtain ⟨h0, h1, h2, h3, h4, h5, h6⟩ := h
  exact ⟨fun j hj => by rw [e 4 (by omega), h0 j hj], by rw [e 5 (by omega), h1], by rw [e 14 (by omega), h2], by rw [e 22 (by omega), h3], fun i j q => by rw [e _ (by omega), h4 i j q], fun i j q => by rw [e _ (by omega), h5 i j q], fun i j q => by rw [e _ (by omega), h6 i j q]⟩
theorem Ca_begin_e (h : FD m W 0 0 0) (z : NZ W) (o : Nat) : Ok (Ca_begin 28 4 m) (fun x => CR x 28 (bgW W o) ∧ Fp 28 69 m x) := by
  unfold Ca_begin
  obtain ⟨h0, h1, h2, h3, h4, h5, h6⟩ := h
  obtain ⟨z5, z6, z7, zz⟩ := z
  refine Ok_bind (Fl_copyFrom_e (f := 29) (g := 4) (W := W) (FlA.camp (c := 28) (by decide +kernel)) FlA.draft ⟨h0, h1, h2, h3, fun i j hi hj => h4 i j (Or.inl ⟨hi, hj⟩), fun i j hi hj => h5 i j (Or.inl ⟨hi, hj⟩), fun i j hi hj => h6 i j (Or.inl ⟨hi, hj⟩)⟩ z5 z6 z7 (by omega)) (fun x1 ⟨R, F1⟩ => ?_)
  refine Ok_for 8 (fun i x => (∀ a, a < 53 ∨ 64 ≤ a → x.1 a = x1.1 a) ∧ x.2 = x1.2 ∧ ∀ h, h < i → x.1 53 h = -1 ∧ x.1 54 h = 0 ∧ ∀ s, s < 6 → x.1 (56 + h) s = 0) ⟨fun _ _ => rfl, rfl, fun h hh => absurd hh (Nat.not_lt_zero _)⟩ (fun i x hi ⟨a, b, c⟩ => ?_) (fun x ⟨a, b, c⟩ => ?_)
  · show Ok (Ca_begin_l10 28 4 (nI i) x) _
    unfold Ca_begin_l10
    refine Ok_if (show ¬ (8 : Int32) ≤ nI i from nI_ge (b := 8) hi (by decide)) (Ok_bind (Ca_takeAway_e (c := 28) hi) (fun x' ⟨p1, p2, p3, p4, p5⟩ => Ok_s ⟨x', by rw [nI_1], fun q hq => ?_, p2.trans b, fun h hh => ?_⟩))
    · rw [p1 q (by omega) (by omega) (by omega), a q hq]
    · rw [show x'.1 53 h = _ from p3 h, show x'.1 54 h = _ from p4 h]
      by_cases e : h = i
      · subst e
        rw [if_pos rfl, if_pos rfl]
        exact ⟨rfl, rfl, p5⟩
      · rw [if_neg e, if_neg e]
        obtain ⟨c1, c2, c3⟩ := c h (by omega)
        exact ⟨c1, c2, fun s hs => by rw [p1 _ (by omega) (by omega) (by omega), c3 s hs]⟩
  · show Ok (Ca_begin_l10 28 4 (nI 8) x) _
    unfold Ca_begin_l10
    refine Ok_it (show (8 : Int32) ≤ nI 8 by decide) (Ok_up (P := fun x => CR x 28 (bgW W o) ∧ Fp 28 69 m x) ?_ (fun r hr => ⟨r, rfl, hr⟩))
    have w3 : x.1 29 2 = nI (W 3) := by rw [a 29 (by omega)]; exact R.1 2 (by decide)
    refine Ok_for 4 (fun i y => (∀ q, q < 64 ∨ 67 ≤ q → y.1 q = x.1 q) ∧ y.2 = x.2 ∧ ∀ g, g < i → y.1 64 g = 0 ∧ y.1 65 g = 0 ∧ y.1 66 g = nI (if g = 0 then W 3 else 0)) ⟨fun _ _ => rfl, rfl, fun g hg => absurd hg (Nat.not_lt_zero _)⟩ (fun i y hi ⟨d, e, f⟩ => ?_) (fun y ⟨d, e, f⟩ => ?_)
    · show Ok (Ca_begin_l29 28 4 (nI i) y) _
      unfold Ca_begin_l29
      refine Ok_if (show ¬ (4 : Int32) ≤ nI i from nI_ge (b := 4) hi (by decide)) (Ok_b (Ca_placeGroup_e hi _ _) ?_)
      have key : ∀ v : Int32, v = nI (if i = 0 then W 3 else 0) → Ok (Ca_begin_b61 28 4 (nI i) (nI i) v (wI (wI y 64 i 0) 65 i 0)) (fun r => ∃ m', r = .inl (nI (i + 1), m') ∧ (∀ q, q < 64 ∨ 67 ≤ q → m'.1 q = x.1 q) ∧ m'.2 = x.2 ∧ ∀ g, g < i + 1 → m'.1 64 g = 0 ∧ m'.1 65 g = 0 ∧ m'.1 66 g = nI (if g = 0 then W 3 else 0)) := by
        intro v hv
        unfold Ca_begin_b61
        refine Ok_gd (in_nI hi (by decide)) (Ok_lt ?_)
        rw [ix_nI (by omega)]
        refine Ok_s ⟨wI (wI (wI y 64 i 0) 65 i 0) 66 i v, by rw [nI_1], fun q hq => ?_, e, fun g hg => ?_⟩
        · rw [wI_1 _ (by omega), wI_1 _ (by omega), wI_1 _ (by omega), d q hq]
        · by_cases eg : g = i
          · subst eg
            rw [wI_o _ (by decide), wI_o _ (by decide), wI_self, wI_o _ (by decide), wI_self, wI_self]
            exact ⟨rfl, rfl, hv⟩
          · rw [wI_o _ (by decide), wI_o _ (by decide), wI_at, if_neg eg, wI_o _ (by decide), wI_at, if_neg eg, wI_at, if_neg eg, wI_o _ (by decide), wI_o _ (by decide)]
            exact f g (by omega)
      by_cases i0 : i = 0
      · refine Ok_it (show nI i = 0 by rw [i0]; rfl) (key _ ?_)
        rw [if_pos i0]
        show (wI (wI y 64 i 0) 65 i 0).1 29 2 = _
        rw [wI_o _ (by decide), wI_o _ (by decide), d 29 (by omega), w3]
      · refine Ok_if (nI_ne0 (by omega) (by omega)) (key _ ?_)
        rw [if_neg i0]
        rfl
    · show Ok (Ca_begin_l29 28 4 (nI 4) y) _
      unfold Ca_begin_l29
      refine Ok_it (show (4 : Int32) ≤ nI 4 by decide) (Ok_up (P := fun x => CR x 28 (bgW W o) ∧ Fp 28 69 m x) (Ok_lt ?_) (fun r hr => ⟨r, rfl, hr⟩))
      refine Ok_for 7 (fun i w => (∀ q, q ≠ 28 → q ≠ 67 → w.1 q = y.1 q) ∧ w.1 28 7 = 0 ∧ w.2 = y.2 ∧ ∀ k, k < i → w.1 67 k = 0) ⟨fun q h1 h2 => wI_1 _ h1 _, wI_self _ _ _ _, rfl, fun k hk => absurd hk (Nat.not_lt_zero _)⟩ (fun i w hi ⟨p, q, r, s⟩ => ?_) (fun w ⟨p, q, r, s⟩ => ?_)
      · show Ok (Ca_begin_l75 28 4 (nI i) w) _
        unfold Ca_begin_l75
        refine Ok_if (show ¬ (7 : Int32) ≤ nI i from nI_ge (b := 7) hi (by decide)) (Ok_gd (in_nI hi (by decide)) (Ok_lt ?_))
        rw [ix_nI (by omega)]
        refine Ok_s ⟨wI w 67 i 0, by rw [nI_1], fun a h1 h2 => ?_, ?_, r, fun k hk => ?_⟩
        · rw [wI_1 _ h2, p a h1 h2]
        · rw [wI_o _ (by decide), q]
        · rw [wI_at]
          by_cases z : k = i
          · rw [if_pos z]
          · rw [if_neg z]
            exact s k (by omega)
      · show Ok (Ca_begin_l75 28 4 (nI 7) w) _
        unfold Ca_begin_l75
        refine Ok_it (show (7 : Int32) ≤ nI 7 by decide) (Ok_up (P := fun x => CR x 28 (bgW W o) ∧ Fp 28 69 m x) (Ok_lt (Ok_s ?_)) (fun r hr => ⟨r, rfl, hr⟩))
        have v1 : ∀ t, t ≠ 28 → t ≠ 67 → (wI w 28 9 0).1 t = y.1 t := fun t k1 k2 => by rw [wI_1 _ k1, p t k1 k2]
        have v2 : ∀ t, t ≠ 28 → t < 53 ∨ 68 ≤ t → (wI w 28 9 0).1 t = x1.1 t := fun t k1 k2 => by rw [v1 t k1 (by omega), d t (by omega), a t (by omega)]
        have eo : ∀ i, i ≠ 20 → i ≠ 190 → bgW W o i = W i := fun i k1 k2 => bg_o W o k1 k2
        obtain ⟨r0, r1, r2, r3, r4, r5, r6⟩ := R
        have e5 := eo 5 (by decide) (by decide)
        have e6 := eo 6 (by decide) (by decide)
        have e7 := eo 7 (by decide) (by decide)
        refine ⟨⟨by decide +kernel, fun j hj => ?_, ?_, ?_, ?_, fun i j hi hj => ?_, fun i j hi hj => ?_, fun i j hi hj => ?_, fun h hh => ?_, fun h s hh hs => ?_, fun g hg => ?_, ?_, ?_, fun i hi => ?_⟩, fun t ht => ?_⟩
        · have := fm_lt hj
          rw [v2 _ (by decide) (by omega), eo _ (by omega) (by omega)]
          exact r0 j hj
        · rw [v2 _ (by decide) (by decide), e5]; exact r1
        · rw [v2 _ (by decide) (by decide), e6]; exact r2
        · rw [v2 _ (by decide) (by decide), e7]; exact r3
        · rw [e5] at hi
          rw [v2 _ (by omega) (by omega), show wcr (bgW W o) i j = wcr W i j from eo _ (by omega) (by omega)]
          exact r4 i j hi hj
        · rw [e6] at hi
          rw [v2 _ (by omega) (by omega), show wso (bgW W o) i j = wso W i j from eo _ (by omega) (by omega)]
          exact r5 i j hi hj
        · rw [e7] at hi
          rw [v2 _ (by omega) (by omega), show wot (bgW W o) i j = wot W i j from eo _ (by omega) (by omega)]
          exact r6 i j hi hj
        · obtain ⟨c1, c2, -⟩ := c h hh
          unfold hxI
          rw [show whe (bgW W o) h 0 = 0 from (eo _ (by omega) (by omega)).trans (zz _ (by omega)), show whe (bgW W o) h 2 = 0 from (eo _ (by omega) (by omega)).trans (zz _ (by omega)), if_neg (by decide), v1 _ (by decide) (by decide), v1 _ (by decide) (by decide), d _ (by decide), d _ (by decide)]
          exact ⟨c1, c2⟩
        · obtain ⟨-, -, c3⟩ := c h hh
          rw [show whe (bgW W o) h (3 + s) = 0 from (eo _ (by omega) (by omega)).trans (zz _ (by omega)), v1 _ (by omega) (by omega), d _ (by omega)]
          exact c3 s hs
        · obtain ⟨g1, g2, g3⟩ := f g hg
          rw [v1 _ (by decide) (by decide), v1 _ (by decide) (by decide), v1 _ (by decide) (by decide), show wgr (bgW W o) g 0 = 0 from (eo _ (by omega) (by omega)).trans (zz _ (by omega)), show wgr (bgW W o) g 1 = 0 from (eo _ (by omega) (by omega)).trans (zz _ (by omega))]
          refine ⟨g1, g2, g3.trans (congrArg nI ?_)⟩
          by_cases g0 : g = 0
          · subst g0
            rw [if_pos rfl]
            exact (bg_p W o).symm
          · rw [if_neg g0]
            exact ((eo _ (by omega) (by omega)).trans (zz _ (by omega))).symm
        · rw [wI_at, if_neg (by decide), q, eo 18 (by decide) (by decide), zz 18 (by omega)]
          rfl
        · rw [wI_self, eo 19 (by decide) (by decide), zz 19 (by omega)]
          rfl
        · rw [wI_o _ (by decide), show wcr (bgW W o) i 7 = 0 from (eo _ (by omega) (by omega)).trans (zz _ (Or.inr (Or.inr (Or.inr ⟨i, hi, by omega⟩))))]
          exact s i hi
        · refine ⟨?_, ?_⟩
          · rw [v2 t (by omega) (by omega), (F1 t (by omega)).1]
          · show w.2 t = _
            rw [r, e, b, (F1 t (by omega)).2]
end BEGIN
