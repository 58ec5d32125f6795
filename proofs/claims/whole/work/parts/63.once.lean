/-! a line told once; the end of a line -/
section ONCE
variable {L lb : Nat} {T : Nat → Int32} {x y x0 y0 x' y' : Mem} {kc ks ko lo hi : Nat} {Q : Wd → Nat → Prop} {W W' : Wd} {u v : Int32 × Mem}
theorem BW.one (B : BW W) (eo : ∀ i, i < 8 ∨ 17 < i → W' i = W i) (h : W' 8 ≤ 9 ∧ W' 9 ≤ 9 ∧ W' 10 ≤ 100 ∧ W' 11 ≤ 60 ∧ W' 12 ≤ 60 ∧ W' 13 ≤ 100 ∧ W' 14 ≤ 100 ∧ W' 15 ≤ 60 ∧ W' 16 ≤ 9999 ∧ W' 17 ≤ 9999) : BW W' ∧ W' 0 = W 0 := by
  obtain ⟨b1, b2, b3, b4, b5, b6⟩ := B
  have e1 := eo 1 (by omega)
  have e2 := eo 2 (by omega)
  refine ⟨⟨?_, h, fun i hi => ?_, fun s hs => ?_, fun o ho => ?_, fun i hi => ?_⟩, eo 0 (by omega)⟩
  · rw [e1, e2, eo 3 (by omega), eo 4 (by omega), eo 5 (by omega), eo 6 (by omega), eo 7 (by omega)]
    omega
  · rw [eo 5 (by omega)] at hi
    have ek : ∀ k, k < 8 → W' (24 + 8 * i + k) = W (24 + 8 * i + k) := fun k hk => eo _ (by omega)
    unfold IvC
    rw [show wcr W' i 0 = _ from ek 0 (by decide), show wcr W' i 1 = _ from ek 1 (by decide), show wcr W' i 2 = _ from ek 2 (by decide), show wcr W' i 3 = _ from ek 3 (by decide), show wcr W' i 4 = _ from ek 4 (by decide), show wcr W' i 5 = _ from ek 5 (by decide), show wcr W' i 6 = _ from ek 6 (by decide), show wcr W' i 7 = _ from ek 7 (by decide), e1, e2]
    exact b3 i hi
  · rw [eo 6 (by omega)] at hs
    have ek : ∀ k, k < 4 → W' (80 + 4 * s + k) = W (80 + 4 * s + k) := fun k hk => eo _ (by omega)
    rw [show wso W' s 0 = _ from ek 0 (by decide), show wso W' s 1 = _ from ek 1 (by decide), show wso W' s 2 = _ from ek 2 (by decide), show wso W' s 3 = _ from ek 3 (by decide)]
    exact b4 s hs
  · rw [eo 7 (by omega)] at ho
    have ek : ∀ k, k < 3 → W' (104 + 3 * o + k) = W (104 + 3 * o + k) := fun k hk => eo _ (by omega)
    unfold IvO
    rw [show wot W' o 0 = _ from ek 0 (by decide), show wot W' o 1 = _ from ek 1 (by decide), show wot W' o 2 = _ from ek 2 (by decide)]
    exact b5 o ho
  · rw [eo i (by rcases hi with h | h | h | ⟨k, h, h'⟩ <;> omega)]
    exact b6 i hi
theorem num_b (B : BS x y) (a b : Int32) : Re_takeNumber 2 a b x = some (0, x) := if_neg B.1
theorem named_b (B : BS x y) (w : Nat) (a b : Int32) : Re_named 2 w a b x = some (0, x) := by
  unfold Re_named
  rw [show Re_take 2 w x = some x from if_neg B.1, bind_s, num_b B, bind_s]
theorem BS.xs {lo hi : Nat} (B : BS x y) (F : Fp lo hi x x') (h : 4 ≤ lo) : BS x' y := by
  have e : x'.1 2 = x.1 2 := (F 2 (by omega)).1
  unfold BS
  rw [e]
  exact B
noncomputable def onR (k : Int32) (m : Mem) : Option Mem := if k = 0 then (Mo_told 298 1008 0 9 m).bind (fun r33 => gd (inb 8 200) (lt (wI r33.2 (298 + 6) (ix 8) r33.1) (fun m36 => (Mo_told 298 1009 0 9 m36).bind (fun r49 => gd (inb 9 200) (lt (wI r49.2 (298 + 6) (ix 9) r49.1) (fun m52 => Mo_readOnce_b53 298 k m52)))))) else Mo_readOnce_b53 298 k m
theorem once2 (hT : TB L T) (S : SW L T lb x0 y0 0 0 0 (fun W' _ => W' = W) x y) (G : GS L T lb x y) {wc k : Nat} (hw : WC x y wc) (hk : k < 6) (ho : onI wc = nI k) (h29 : wc < 29) :
    (∃ x1 y1, Re_takeOnce 2 (nI k) x = some x1 ∧ Mo_readNext 298 y = some y1 ∧ BS x1 y1 ∧ CK L T x1 ∧ MK L T y1 ∧ CFr x0 x1 ∧ MFr y0 y1) ∨ ∃ x1 y1, Re_takeOnce 2 (nI k) x = some x1 ∧ Mo_readNext 298 y = onR (nI k) y1 ∧ SW L T lb x0 y0 0 0 0 (fun W' _ => W' = W) x1 y1 := by
  obtain ⟨W1, o, rfl, ol, f, g, o1, o2⟩ := S.good G
  have K := S.1
  have M := S.2.1
  have one : ¬ (1 : Int32) = 0 := by decide
  have nk : ¬ nI k = -1 := m1_ne (by omega)
  have i29 : Mo_is 298 1029 y = some 0 := by rw [show Mo_is 298 1029 y = _ from hw.m 29 (by decide), if_neg (by omega)]
  have i30 : Mo_is 298 1030 y = some 0 := by rw [show Mo_is 298 1030 y = _ from hw.m 30 (by decide), if_neg (by omega)]
  have i31 : Mo_is 298 1031 y = some 0 := by rw [show Mo_is 298 1031 y = _ from hw.m 31 (by decide), if_neg (by omega)]
  have e20 : rI y (298 + 6) (ix 20) = nI o := o2
  have start : Mo_readNext 298 y = if b2 (o.testBit k = true) = 0 then Mo_readNext_b66 298 (nI k) y else (Mo_errs 298 2 y).bind (fun m63 => Mo_readNext_b66 298 (nI k) m63) := by
    unfold Mo_readNext Mo_readNext_b42
    rw [once_e hw, bind_s, ho, if_neg nk, if_neg nk, gd_t (by decide), e20, Mo_holds_e y (by omega) (by omega), bind_s]
  rw [start, ite_b2]
  unfold Re_takeOnce
  rw [show rI x 2 9 = nI o from o1]
  by_cases q : o.testBit k = true
  · left
    obtain ⟨x1, y1, f1, f2, k1, k2, k3, k4, k5⟩ := fail2 K M G 2 (by decide)
    refine ⟨x1, y1, ?_, ?_, k3, k1, k2, S.2.2.1.trans k4.c, S.2.2.2.1.trans k5.m⟩
    · rw [if_pos ((bit_c (by omega) (by omega)).mpr q), f1, bind_s]
    · rw [if_pos q, f2, bind_s, b66_b k3]
  · right
    rw [if_neg (fun z => q ((bit_c (by omega) (by omega)).mp z)), if_neg q, shl1 (by omega), nI_or]
    have ol2 : o ||| 2 ^ k < 64 := Nat.or_lt_two_pow (n := 6) ol (Nat.pow_lt_pow_right (by decide) (by omega))
    have c9 : CFr x (wI x 2 9 (nI (o ||| 2 ^ k))) := ⟨fun a ha => ⟨wI_1 x (by omega) _, rfl⟩, by rw [wI_at, if_neg (by decide)]⟩
    have G9 : GS L T lb (wI x 2 9 (nI (o ||| 2 ^ k))) y := by
      have e : ∀ j, j ≠ 9 → (wI x 2 9 (nI (o ||| 2 ^ k))).1 2 j = x.1 2 j := fun j hj => by rw [wI_at, if_neg hj]
      unfold GS
      rw [e 3 (by decide), e 4 (by decide), e 5 (by decide), e 6 (by decide), e 7 (by decide), e 8 (by decide)]
      exact G
    have K9 := K.cf c9
    obtain ⟨x1, y1, f1, f2, k1, k2, k3, k4, k5⟩ := next2 hT K9 M G9
    have e21 : rI y1 (298 + 6) (ix 20) = nI o := by
      rw [show rI y1 (298 + 6) (ix 20) = y1.1 304 20 from rfl, (k5.2.2 304 (by omega)).1, o2]
    refine ⟨x1, wI y1 304 20 (nI (o ||| 2 ^ k)), ?_, ?_, k1, k2.mf (MFr.w _ _), (S.2.2.1.trans c9).trans k4.f.c, (S.2.2.2.1.trans k5.f.m).trans (MFr.w _ _), Or.inl ⟨?_, W1, _, rfl, ol2, ?_, fun i hi h20 => ?_, ?_, wI_self _ _ _ _⟩⟩
    · show (Re_next 2 (wI x 2 9 (nI (o ||| 2 ^ k)))).bind _ = _
      rw [f1, bind_s]
    · unfold Mo_readNext_b66 Mo_readNext_b86 Mo_readNext_b107 Mo_readNext_b132 Mo_readOnce
      rw [i29, bind_s, if_pos (show (0 : Int32) = 0 from rfl), i30, bind_s, if_pos (show (0 : Int32) = 0 from rfl), i31, bind_s, if_pos (show (0 : Int32) = 0 from rfl), Mo_good_g G, bind_s, if_neg one, if_neg nk, f2, bind_s, gd_t (by decide), gd_t (by decide), e21, shl1 (by omega), nI_or]
      show (onR (nI k) (wI y1 304 20 (nI (o ||| 2 ^ k)))).bind (fun m147 => some m147) = _
      cases onR (nI k) (wI y1 304 20 (nI (o ||| 2 ^ k))) <;> rfl
    · have e : (wI y1 304 20 (nI (o ||| 2 ^ k))).1 298 = y1.1 298 := wI_1 y1 (by decide) _
      unfold GS
      rw [e]
      exact k3
    · obtain ⟨h0, h1, h2, h3, h4, h5, h6⟩ := f
      have e : ∀ a, 4 ≤ a → x1.1 a = x.1 a := fun a ha => by rw [(k4.2 a (by omega)).1, wI_1 x (by omega)]
      exact ⟨fun j hj => by rw [e 4 (by omega), h0 j hj], by rw [e 5 (by omega), h1], by rw [e 14 (by omega), h2], by rw [e 22 (by omega), h3], fun i j q => by rw [e _ (by omega), h4 i j q], fun i j q => by rw [e _ (by omega), h5 i j q], fun i j q => by rw [e _ (by omega), h6 i j q]⟩
    · rw [wI_at, if_neg h20, (k5.2.2 304 (by omega)).1, g i hi h20]
    · rw [k4.1 9 (by omega), wI_self]
theorem single0 (hT : TB L T) (S : SW L T lb x0 y0 0 0 0 (fun W' _ => W' = W) x y) (G : GS L T lb x y) (B : BW W) (hw : WC x y 21) : Ok2 ((Re_takeOnce 2 0 x).bind (fun m0 => (Re_named 2 1008 0 9 m0).bind (fun r => lt (wI r.2 4 5 r.1) (fun m => (Re_named 2 1009 0 9 m).bind (fun r2 => lt (wI r2.2 4 6 r2.1) (fun m2 => some m2)))))) (Mo_readNext 298 y) (SW L T lb x0 y0 0 0 0 (fun W' _ => BW W' ∧ W' 0 = W 0)) := by
  have b2 := B.2.1
  rcases once2 hT S G hw (k := 0) (by decide) rfl (by decide) with ⟨x1, y1, e1, e2, Bd, K, M, c1, c2⟩ | ⟨x1, y1, e1, e2, S1⟩
  · rw [show Re_takeOnce 2 0 x = some x1 from e1, e2, bind_s, named_b Bd, bind_s]
    have F1 : Fp 4 5 x1 (wI x1 4 5 0) := Fp.wI (by decide) (by decide) _ _
    have F : Fp 4 5 x1 (wI (wI x1 4 5 0) 4 6 0) := F1.trans (Fp.wI (by decide) (by decide) _ _)
    have f1 := F.cf (by decide) (by decide)
    show Ok2 ((Re_named 2 1009 0 9 (wI x1 4 5 0)).bind _) _ _
    rw [named_b (Bd.xs F1 (by decide)), bind_s]
    exact Ok2_s ⟨K.cf f1, M, c1.trans f1, c2, Or.inr (Bd.xs F (by decide))⟩
  · rw [show Re_takeOnce 2 0 x = some x1 from e1, e2, bind_s]
    unfold onR
    rw [if_pos (show nI 0 = 0 from rfl)]
    refine Ok2_bind (S1.named hT 8 (by decide) 0 9 (by decide) (by decide)) (fun u1 v1 V1 => Ok2_w (by decide) ?_)
    refine Ok2_bind ((V1.fld 5 (by decide)).named hT 9 (by decide) 0 9 (by decide) (by decide)) (fun u2 v2 V2 => Ok2_w (by decide) ?_)
    have tail : ∀ m, Mo_readOnce_b53 298 (nI 0) m = some m := by
      intro m
      unfold Mo_readOnce_b53
      rw [if_neg (show ¬ nI 0 = 1 by decide)]
      unfold Mo_readOnce_b72
      rw [if_neg (show ¬ nI 0 = 2 by decide)]
      unfold Mo_readOnce_b107
      rw [if_neg (show ¬ nI 0 = 3 by decide)]
      unfold Mo_readOnce_b126
      rw [if_neg (show ¬ nI 0 = 4 by decide)]
      unfold Mo_readOnce_b161
      rw [if_neg (show ¬ nI 0 = 5 by decide)]
    refine Ok2_e rfl (tail _) ((V2.fld 6 (by decide)).mono ?_)
    rintro W' o ⟨W2, n2, ⟨W1, n1, rfl, a1, d1, rfl⟩, a2, d2, rfl⟩
    refine B.one (fun i hi => ?_) ⟨?_, ?_, ?_, ?_, ?_, ?_, ?_, ?_, ?_, ?_⟩
    · show wu (wu W1 8 n1) 9 n2 i = W1 i
      rw [wu_o _ (by omega), wu_o _ (by omega)]
    · show wu (wu W1 8 n1) 9 n2 8 ≤ 9
      rw [wu_o _ (by decide), wu_s]
      omega
    · show wu (wu W1 8 n1) 9 n2 9 ≤ 9
      rw [wu_s]
      omega
    · show wu (wu W1 8 n1) 9 n2 10 ≤ 100
      rw [wu_o _ (by decide), wu_o _ (by decide)]
      omega
    · show wu (wu W1 8 n1) 9 n2 11 ≤ 60
      rw [wu_o _ (by decide), wu_o _ (by decide)]
      omega
    · show wu (wu W1 8 n1) 9 n2 12 ≤ 60
      rw [wu_o _ (by decide), wu_o _ (by decide)]
      omega
    · show wu (wu W1 8 n1) 9 n2 13 ≤ 100
      rw [wu_o _ (by decide), wu_o _ (by decide)]
      omega
    · show wu (wu W1 8 n1) 9 n2 14 ≤ 100
      rw [wu_o _ (by decide), wu_o _ (by decide)]
      omega
    · show wu (wu W1 8 n1) 9 n2 15 ≤ 60
      rw [wu_o _ (by decide), wu_o _ (by decide)]
      omega
    · show wu (wu W1 8 n1) 9 n2 16 ≤ 9999
      rw [wu_o _ (by decide), wu_o _ (by decide)]
      omega
    · show wu (wu W1 8 n1) 9 n2 17 ≤ 9999
      rw [wu_o _ (by decide), wu_o _ (by decide)]
      omega
theorem single1 (hT : TB L T) (S : SW L T lb x0 y0 0 0 0 (fun W' _ => W' = W) x y) (G : GS L T lb x y) (B : BW W) (hw : WC x y 22) : Ok2 ((Re_takeOnce 2 1 x).bind (fun m0 => (Re_takeNumber 2 0 100 m0).bind (fun r => lt (wI r.2 4 7 r.1) (fun m => some m)))) (Mo_readNext 298 y) (SW L T lb x0 y0 0 0 0 (fun W' _ => BW W' ∧ W' 0 = W 0)) := by
  have b2 := B.2.1
  rcases once2 hT S G hw (k := 1) (by decide) rfl (by decide) with ⟨x1, y1, e1, e2, Bd, K, M, c1, c2⟩ | ⟨x1, y1, e1, e2, S1⟩
  · rw [show Re_takeOnce 2 1 x = some x1 from e1, e2, bind_s, num_b Bd, bind_s]
    have F : Fp 4 5 x1 (wI x1 4 7 0) := Fp.wI (by decide) (by decide) _ _
    have f1 := F.cf (by decide) (by decide)
    exact Ok2_s ⟨K.cf f1, M, c1.trans f1, c2, Or.inr (Bd.xs F (by decide))⟩
  · rw [show Re_takeOnce 2 1 x = some x1 from e1, e2, bind_s]
    unfold onR
    rw [if_neg (show ¬ nI 1 = 0 by decide)]
    unfold Mo_readOnce_b53
    rw [if_pos (show nI 1 = 1 from rfl)]
    refine Ok2_bind (S1.num hT (lo := 0) (hi := 100) (by decide) (by decide)) (fun u1 v1 V1 => Ok2_w (by decide) ?_)
    have tail : ∀ m, Mo_readOnce_b72 298 (nI 1) m = some m := by
      intro m
      unfold Mo_readOnce_b72
      rw [if_neg (show ¬ nI 1 = 2 by decide)]
      unfold Mo_readOnce_b107
      rw [if_neg (show ¬ nI 1 = 3 by decide)]
      unfold Mo_readOnce_b126
      rw [if_neg (show ¬ nI 1 = 4 by decide)]
      unfold Mo_readOnce_b161
      rw [if_neg (show ¬ nI 1 = 5 by decide)]
    refine Ok2_e rfl (tail _) ((V1.fld 7 (by decide)).mono ?_)
    rintro W' o ⟨W1, n1, rfl, a1, d1, rfl⟩
    refine B.one (fun i hi => ?_) ⟨?_, ?_, ?_, ?_, ?_, ?_, ?_, ?_, ?_, ?_⟩
    · show wu W1 10 n1 i = W1 i
      rw [wu_o _ (by omega)]
    · show wu W1 10 n1 8 ≤ 9
      rw [wu_o _ (by decide)]
      omega
    · show wu W1 10 n1 9 ≤ 9
      rw [wu_o _ (by decide)]
      omega
    · show wu W1 10 n1 10 ≤ 100
      rw [wu_s]
      omega
    · show wu W1 10 n1 11 ≤ 60
      rw [wu_o _ (by decide)]
      omega
    · show wu W1 10 n1 12 ≤ 60
      rw [wu_o _ (by decide)]
      omega
    · show wu W1 10 n1 13 ≤ 100
      rw [wu_o _ (by decide)]
      omega
    · show wu W1 10 n1 14 ≤ 100
      rw [wu_o _ (by decide)]
      omega
    · show wu W1 10 n1 15 ≤ 60
      rw [wu_o _ (by decide)]
      omega
    · show wu W1 10 n1 16 ≤ 9999
      rw [wu_o _ (by decide)]
      omega
    · show wu W1 10 n1 17 ≤ 9999
      rw [wu_o _ (by decide)]
      omega
theorem single2 (hT : TB L T) (S : SW L T lb x0 y0 0 0 0 (fun W' _ => W' = W) x y) (G : GS L T lb x y) (B : BW W) (hw : WC x y 23) : Ok2 ((Re_takeOnce 2 2 x).bind (fun m0 => (Re_takeNumber 2 0 60 m0).bind (fun r => lt (wI r.2 4 8 r.1) (fun m => (Re_named 2 1026 0 60 m).bind (fun r2 => lt (wI r2.2 4 9 r2.1) (fun m2 => some m2)))))) (Mo_readNext 298 y) (SW L T lb x0 y0 0 0 0 (fun W' _ => BW W' ∧ W' 0 = W 0)) := by
  have b2 := B.2.1
  rcases once2 hT S G hw (k := 2) (by decide) rfl (by decide) with ⟨x1, y1, e1, e2, Bd, K, M, c1, c2⟩ | ⟨x1, y1, e1, e2, S1⟩
  · rw [show Re_takeOnce 2 2 x = some x1 from e1, e2, bind_s, num_b Bd, bind_s]
    have F1 : Fp 4 5 x1 (wI x1 4 8 0) := Fp.wI (by decide) (by decide) _ _
    have F : Fp 4 5 x1 (wI (wI x1 4 8 0) 4 9 0) := F1.trans (Fp.wI (by decide) (by decide) _ _)
    have f1 := F.cf (by decide) (by decide)
    show Ok2 ((Re_named 2 1026 0 60 (wI x1 4 8 0)).bind _) _ _
    rw [named_b (Bd.xs F1 (by decide)), bind_s]
    exact Ok2_s ⟨K.cf f1, M, c1.trans f1, c2, Or.inr (Bd.xs F (by decide))⟩
  · rw [show Re_takeOnce 2 2 x = some x1 from e1, e2, bind_s]
    unfold onR
    rw [if_neg (show ¬ nI 2 = 0 by decide)]
    unfold Mo_readOnce_b53
    rw [if_neg (show ¬ nI 2 = 1 by decide)]
    unfold Mo_readOnce_b72
    rw [if_pos (show nI 2 = 2 from rfl)]
    refine Ok2_bind (S1.num hT (lo := 0) (hi := 60) (by decide) (by decide)) (fun u1 v1 V1 => Ok2_w (by decide) ?_)
    refine Ok2_bind ((V1.fld 8 (by decide)).named hT 26 (by decide) 0 60 (by decide) (by decide)) (fun u2 v2 V2 => Ok2_w (by decide) ?_)
    have tail : ∀ m, Mo_readOnce_b107 298 (nI 2) m = some m := by
      intro m
      unfold Mo_readOnce_b107
      rw [if_neg (show ¬ nI 2 = 3 by decide)]
      unfold Mo_readOnce_b126
      rw [if_neg (show ¬ nI 2 = 4 by decide)]
      unfold Mo_readOnce_b161
      rw [if_neg (show ¬ nI 2 = 5 by decide)]
    refine Ok2_e rfl (tail _) ((V2.fld 9 (by decide)).mono ?_)
    rintro W' o ⟨W2, n2, ⟨W1, n1, rfl, a1, d1, rfl⟩, a2, d2, rfl⟩
    refine B.one (fun i hi => ?_) ⟨?_, ?_, ?_, ?_, ?_, ?_, ?_, ?_, ?_, ?_⟩
    · show wu (wu W1 11 n1) 12 n2 i = W1 i
      rw [wu_o _ (by omega), wu_o _ (by omega)]
    · show wu (wu W1 11 n1) 12 n2 8 ≤ 9
      rw [wu_o _ (by decide), wu_o _ (by decide)]
      omega
    · show wu (wu W1 11 n1) 12 n2 9 ≤ 9
      rw [wu_o _ (by decide), wu_o _ (by decide)]
      omega
    · show wu (wu W1 11 n1) 12 n2 10 ≤ 100
      rw [wu_o _ (by decide), wu_o _ (by decide)]
      omega
    · show wu (wu W1 11 n1) 12 n2 11 ≤ 60
      rw [wu_o _ (by decide), wu_s]
      omega
    · show wu (wu W1 11 n1) 12 n2 12 ≤ 60
      rw [wu_s]
      omega
    · show wu (wu W1 11 n1) 12 n2 13 ≤ 100
      rw [wu_o _ (by decide), wu_o _ (by decide)]
      omega
    · show wu (wu W1 11 n1) 12 n2 14 ≤ 100
      rw [wu_o _ (by decide), wu_o _ (by decide)]
      omega
    · show wu (wu W1 11 n1) 12 n2 15 ≤ 60
      rw [wu_o _ (by decide), wu_o _ (by decide)]
      omega
    · show wu (wu W1 11 n1) 12 n2 16 ≤ 9999
      rw [wu_o _ (by decide), wu_o _ (by decide)]
      omega
    · show wu (wu W1 11 n1) 12 n2 17 ≤ 9999
      rw [wu_o _ (by decide), wu_o _ (by decide)]
      omega
theorem single3 (hT : TB L T) (S : SW L T lb x0 y0 0 0 0 (fun W' _ => W' = W) x y) (G : GS L T lb x y) (B : BW W) (hw : WC x y 24) : Ok2 ((Re_takeOnce 2 3 x).bind (fun m0 => (Re_takeNumber 2 0 100 m0).bind (fun r => lt (wI r.2 4 10 r.1) (fun m => some m)))) (Mo_readNext 298 y) (SW L T lb x0 y0 0 0 0 (fun W' _ => BW W' ∧ W' 0 = W 0)) := by
  have b2 := B.2.1
  rcases once2 hT S G hw (k := 3) (by decide) rfl (by decide) with ⟨x1, y1, e1, e2, Bd, K, M, c1, c2⟩ | ⟨x1, y1, e1, e2, S1⟩
  · rw [show Re_takeOnce 2 3 x = some x1 from e1, e2, bind_s, num_b Bd, bind_s]
    have F : Fp 4 5 x1 (wI x1 4 10 0) := Fp.wI (by decide) (by decide) _ _
    have f1 := F.cf (by decide) (by decide)
    exact Ok2_s ⟨K.cf f1, M, c1.trans f1, c2, Or.inr (Bd.xs F (by decide))⟩
  · rw [show Re_takeOnce 2 3 x = some x1 from e1, e2, bind_s]
    unfold onR
    rw [if_neg (show ¬ nI 3 = 0 by decide)]
    unfold Mo_readOnce_b53
    rw [if_neg (show ¬ nI 3 = 1 by decide)]
    unfold Mo_readOnce_b72
    rw [if_neg (show ¬ nI 3 = 2 by decide)]
    unfold Mo_readOnce_b107
    rw [if_pos (show nI 3 = 3 from rfl)]
    refine Ok2_bind (S1.num hT (lo := 0) (hi := 100) (by decide) (by decide)) (fun u1 v1 V1 => Ok2_w (by decide) ?_)
    have tail : ∀ m, Mo_readOnce_b126 298 (nI 3) m = some m := by
      intro m
      unfold Mo_readOnce_b126
      rw [if_neg (show ¬ nI 3 = 4 by decide)]
      unfold Mo_readOnce_b161
      rw [if_neg (show ¬ nI 3 = 5 by decide)]
    refine Ok2_e rfl (tail _) ((V1.fld 10 (by decide)).mono ?_)
    rintro W' o ⟨W1, n1, rfl, a1, d1, rfl⟩
    refine B.one (fun i hi => ?_) ⟨?_, ?_, ?_, ?_, ?_, ?_, ?_, ?_, ?_, ?_⟩
    · show wu W1 13 n1 i = W1 i
      rw [wu_o _ (by omega)]
    · show wu W1 13 n1 8 ≤ 9
      rw [wu_o _ (by decide)]
      omega
    · show wu W1 13 n1 9 ≤ 9
      rw [wu_o _ (by decide)]
      omega
    · show wu W1 13 n1 10 ≤ 100
      rw [wu_o _ (by decide)]
      omega
    · show wu W1 13 n1 11 ≤ 60
      rw [wu_o _ (by decide)]
      omega
    · show wu W1 13 n1 12 ≤ 60
      rw [wu_o _ (by decide)]
      omega
    · show wu W1 13 n1 13 ≤ 100
      rw [wu_s]
      omega
    · show wu W1 13 n1 14 ≤ 100
      rw [wu_o _ (by decide)]
      omega
    · show wu W1 13 n1 15 ≤ 60
      rw [wu_o _ (by decide)]
      omega
    · show wu W1 13 n1 16 ≤ 9999
      rw [wu_o _ (by decide)]
      omega
    · show wu W1 13 n1 17 ≤ 9999
      rw [wu_o _ (by decide)]
      omega
theorem single4 (hT : TB L T) (S : SW L T lb x0 y0 0 0 0 (fun W' _ => W' = W) x y) (G : GS L T lb x y) (B : BW W) (hw : WC x y 25) : Ok2 ((Re_takeOnce 2 4 x).bind (fun m0 => (Re_takeNumber 2 0 100 m0).bind (fun r => lt (wI r.2 4 11 r.1) (fun m => (Re_named 2 1027 0 60 m).bind (fun r2 => lt (wI r2.2 4 12 r2.1) (fun m2 => some m2)))))) (Mo_readNext 298 y) (SW L T lb x0 y0 0 0 0 (fun W' _ => BW W' ∧ W' 0 = W 0)) := by
  have b2 := B.2.1
  rcases once2 hT S G hw (k := 4) (by decide) rfl (by decide) with ⟨x1, y1, e1, e2, Bd, K, M, c1, c2⟩ | ⟨x1, y1, e1, e2, S1⟩
  · rw [show Re_takeOnce 2 4 x = some x1 from e1, e2, bind_s, num_b Bd, bind_s]
    have F1 : Fp 4 5 x1 (wI x1 4 11 0) := Fp.wI (by decide) (by decide) _ _
    have F : Fp 4 5 x1 (wI (wI x1 4 11 0) 4 12 0) := F1.trans (Fp.wI (by decide) (by decide) _ _)
    have f1 := F.cf (by decide) (by decide)
    show Ok2 ((Re_named 2 1027 0 60 (wI x1 4 11 0)).bind _) _ _
    rw [named_b (Bd.xs F1 (by decide)), bind_s]
    exact Ok2_s ⟨K.cf f1, M, c1.trans f1, c2, Or.inr (Bd.xs F (by decide))⟩
  · rw [show Re_takeOnce 2 4 x = some x1 from e1, e2, bind_s]
    unfold onR
    rw [if_neg (show ¬ nI 4 = 0 by decide)]
    unfold Mo_readOnce_b53
    rw [if_neg (show ¬ nI 4 = 1 by decide)]
    unfold Mo_readOnce_b72
    rw [if_neg (show ¬ nI 4 = 2 by decide)]
    unfold Mo_readOnce_b107
    rw [if_neg (show ¬ nI 4 = 3 by decide)]
    unfold Mo_readOnce_b126
    rw [if_pos (show nI 4 = 4 from rfl)]
    refine Ok2_bind (S1.num hT (lo := 0) (hi := 100) (by decide) (by decide)) (fun u1 v1 V1 => Ok2_w (by decide) ?_)
    refine Ok2_bind ((V1.fld 11 (by decide)).named hT 27 (by decide) 0 60 (by decide) (by decide)) (fun u2 v2 V2 => Ok2_w (by decide) ?_)
    have tail : ∀ m, Mo_readOnce_b161 298 (nI 4) m = some m := by
      intro m
      unfold Mo_readOnce_b161
      rw [if_neg (show ¬ nI 4 = 5 by decide)]
    refine Ok2_e rfl (tail _) ((V2.fld 12 (by decide)).mono ?_)
    rintro W' o ⟨W2, n2, ⟨W1, n1, rfl, a1, d1, rfl⟩, a2, d2, rfl⟩
    refine B.one (fun i hi => ?_) ⟨?_, ?_, ?_, ?_, ?_, ?_, ?_, ?_, ?_, ?_⟩
    · show wu (wu W1 14 n1) 15 n2 i = W1 i
      rw [wu_o _ (by omega), wu_o _ (by omega)]
    · show wu (wu W1 14 n1) 15 n2 8 ≤ 9
      rw [wu_o _ (by decide), wu_o _ (by decide)]
      omega
    · show wu (wu W1 14 n1) 15 n2 9 ≤ 9
      rw [wu_o _ (by decide), wu_o _ (by decide)]
      omega
    · show wu (wu W1 14 n1) 15 n2 10 ≤ 100
      rw [wu_o _ (by decide), wu_o _ (by decide)]
      omega
    · show wu (wu W1 14 n1) 15 n2 11 ≤ 60
      rw [wu_o _ (by decide), wu_o _ (by decide)]
      omega
    · show wu (wu W1 14 n1) 15 n2 12 ≤ 60
      rw [wu_o _ (by decide), wu_o _ (by decide)]
      omega
    · show wu (wu W1 14 n1) 15 n2 13 ≤ 100
      rw [wu_o _ (by decide), wu_o _ (by decide)]
      omega
    · show wu (wu W1 14 n1) 15 n2 14 ≤ 100
      rw [wu_o _ (by decide), wu_s]
      omega
    · show wu (wu W1 14 n1) 15 n2 15 ≤ 60
      rw [wu_s]
      omega
    · show wu (wu W1 14 n1) 15 n2 16 ≤ 9999
      rw [wu_o _ (by decide), wu_o _ (by decide)]
      omega
    · show wu (wu W1 14 n1) 15 n2 17 ≤ 9999
      rw [wu_o _ (by decide), wu_o _ (by decide)]
      omega
theorem single5 (hT : TB L T) (S : SW L T lb x0 y0 0 0 0 (fun W' _ => W' = W) x y) (G : GS L T lb x y) (B : BW W) (hw : WC x y 20) : Ok2 ((Re_takeOnce 2 5 x).bind (fun m0 => (Re_takeNumber 2 0 9999 m0).bind (fun r => lt (wI r.2 4 13 r.1) (fun m => (Re_named 2 1028 0 9999 m).bind (fun r2 => lt (wI r2.2 4 14 r2.1) (fun m2 => some m2)))))) (Mo_readNext 298 y) (SW L T lb x0 y0 0 0 0 (fun W' _ => BW W' ∧ W' 0 = W 0)) := by
  have b2 := B.2.1
  rcases once2 hT S G hw (k := 5) (by decide) rfl (by decide) with ⟨x1, y1, e1, e2, Bd, K, M, c1, c2⟩ | ⟨x1, y1, e1, e2, S1⟩
  · rw [show Re_takeOnce 2 5 x = some x1 from e1, e2, bind_s, num_b Bd, bind_s]
    have F1 : Fp 4 5 x1 (wI x1 4 13 0) := Fp.wI (by decide) (by decide) _ _
    have F : Fp 4 5 x1 (wI (wI x1 4 13 0) 4 14 0) := F1.trans (Fp.wI (by decide) (by decide) _ _)
    have f1 := F.cf (by decide) (by decide)
    show Ok2 ((Re_named 2 1028 0 9999 (wI x1 4 13 0)).bind _) _ _
    rw [named_b (Bd.xs F1 (by decide)), bind_s]
    exact Ok2_s ⟨K.cf f1, M, c1.trans f1, c2, Or.inr (Bd.xs F (by decide))⟩
  · rw [show Re_takeOnce 2 5 x = some x1 from e1, e2, bind_s]
    unfold onR
    rw [if_neg (show ¬ nI 5 = 0 by decide)]
    unfold Mo_readOnce_b53
    rw [if_neg (show ¬ nI 5 = 1 by decide)]
    unfold Mo_readOnce_b72
    rw [if_neg (show ¬ nI 5 = 2 by decide)]
    unfold Mo_readOnce_b107
    rw [if_neg (show ¬ nI 5 = 3 by decide)]
    unfold Mo_readOnce_b126
    rw [if_neg (show ¬ nI 5 = 4 by decide)]
    unfold Mo_readOnce_b161
    rw [if_pos (show nI 5 = 5 from rfl)]
    refine Ok2_bind (S1.num hT (lo := 0) (hi := 9999) (by decide) (by decide)) (fun u1 v1 V1 => Ok2_w (by decide) ?_)
    refine Ok2_bind ((V1.fld 13 (by decide)).named hT 28 (by decide) 0 9999 (by decide) (by decide)) (fun u2 v2 V2 => Ok2_w (by decide) ?_)
    have tail : ∀ m, (some m : Option Mem) = some m := by
      intro m
      rfl
    refine Ok2_s ((V2.fld 14 (by decide)).mono ?_)
    rintro W' o ⟨W2, n2, ⟨W1, n1, rfl, a1, d1, rfl⟩, a2, d2, rfl⟩
    refine B.one (fun i hi => ?_) ⟨?_, ?_, ?_, ?_, ?_, ?_, ?_, ?_, ?_, ?_⟩
    · show wu (wu W1 16 n1) 17 n2 i = W1 i
      rw [wu_o _ (by omega), wu_o _ (by omega)]
    · show wu (wu W1 16 n1) 17 n2 8 ≤ 9
      rw [wu_o _ (by decide), wu_o _ (by decide)]
      omega
    · show wu (wu W1 16 n1) 17 n2 9 ≤ 9
      rw [wu_o _ (by decide), wu_o _ (by decide)]
      omega
    · show wu (wu W1 16 n1) 17 n2 10 ≤ 100
      rw [wu_o _ (by decide), wu_o _ (by decide)]
      omega
    · show wu (wu W1 16 n1) 17 n2 11 ≤ 60
      rw [wu_o _ (by decide), wu_o _ (by decide)]
      omega
    · show wu (wu W1 16 n1) 17 n2 12 ≤ 60
      rw [wu_o _ (by decide), wu_o _ (by decide)]
      omega
    · show wu (wu W1 16 n1) 17 n2 13 ≤ 100
      rw [wu_o _ (by decide), wu_o _ (by decide)]
      omega
    · show wu (wu W1 16 n1) 17 n2 14 ≤ 100
      rw [wu_o _ (by decide), wu_o _ (by decide)]
      omega
    · show wu (wu W1 16 n1) 17 n2 15 ≤ 60
      rw [wu_o _ (by decide), wu_o _ (by decide)]
      omega
    · show wu (wu W1 16 n1) 17 n2 16 ≤ 9999
      rw [wu_o _ (by decide), wu_s]
      omega
    · show wu (wu W1 16 n1) 17 n2 17 ≤ 9999
      rw [wu_s]
      omega
theorem endLine (hT : TB L T) (S : SW L T lb x0 y0 0 0 0 Q x y) : Ok2 (Re_endLine 2 x) (Mo_readLine_b20 298 y) (SW L T (lb + 1) x0 y0 0 0 0 (fun W' o => ∃ W, Q W o ∧ W' = wu W 0 (W 0 + 1))) := by
  have one : ¬ (1 : Int32) = 0 := by decide
  have b51 : ∀ m : Mem, Mo_readLine_b51 298 m = some (wI m 304 0 (m.1 304 0 + 1)) := by
    intro m
    unfold Mo_readLine_b51
    rw [gd_t (by decide), gd_t (by decide)]
    rfl
  have bad : ∀ {x1 y1 : Mem}, CK L T x1 → MK L T y1 → CFr x0 x1 → MFr y0 y1 → BS x1 y1 → Ok2 (Re_endLine_b20 2 x1) (Mo_readLine_b40 298 y1) (SW L T (lb + 1) x0 y0 0 0 0 (fun W' o => ∃ W, Q W o ∧ W' = wu W 0 (W 0 + 1))) := by
    intro x1 y1 K M c d Bd
    unfold Re_endLine_b20 Mo_readLine_b40
    rw [if_neg (show ¬ rI x1 2 3 = 0 from Bd.1), Mo_good_b Bd, bind_s, if_pos rfl, b51]
    have F : Fp 4 5 x1 x1 := Fp.refl
    have f2 := MFr.w (y := y1) 0 (y1.1 304 0 + 1)
    exact Ok2_s ⟨K, M.mf f2, c, d.trans f2, Or.inr (Bd.fp F (by decide) (by decide))⟩
  obtain ⟨K, M, c, d, s⟩ := id S
  unfold Re_endLine Mo_readLine_b20
  rcases s with ⟨G, -⟩ | Bd
  · obtain ⟨W, o, q, ol, f, g, o1, o2⟩ := S.good G
    obtain ⟨h0, h1, h2, h3, h4, h5, h6⟩ := f
    rw [if_pos (show rI x 2 3 = 0 from G.1), Mo_good_g G, bind_s, if_neg one]
    obtain ⟨g1, g2, g3, g4, a, -, -, -, -, -, g7, g10, -⟩ := id G
    have e73 : rI y 298 10 = rI x 2 7 := g10.trans g7.symm
    rw [e73]
    by_cases t3 : rI x 2 7 = 3
    · rw [if_pos t3, if_pos t3]
      unfold Re_endLine_b20 Mo_readLine_b40
      rw [if_pos (show rI x 2 3 = 0 from G.1), Mo_good_g G, bind_s, if_neg one]
      have f1 := CFr.w (x := x) (a := 4) (by decide) (by decide) 4 (rI x 4 4 + 1)
      have G1 : GS L T lb (wI x 4 4 (rI x 4 4 + 1)) y := by
        have e : (wI x 4 4 (rI x 4 4 + 1)).1 2 = x.1 2 := wI_1 x (by decide) _
        unfold GS
        rw [e]
        exact G
      have t7 : (wI x 4 4 (rI x 4 4 + 1)).1 2 7 ≠ 0 := by
        rw [wI_o _ (by decide), show x.1 2 7 = 3 from t3]
        decide
      obtain ⟨x1, y1, r1, r2, k1, k2, k3, k4, k5⟩ := next3 hT (K.cf f1) M G1 t7
      have f2 := MFr.w (y := y1) 0 (y1.1 304 0 + 1)
      show Ok2 ((Re_next 2 (wI x 4 4 (rI x 4 4 + 1))).bind _) _ _
      rw [r1, bind_s, r2, bind_s, b51]
      refine Ok2_s ⟨k1, k2.mf f2, (c.trans f1).trans k4.f.c, (d.trans k5.f.m).trans f2, Or.inl ⟨?_, wu W 0 (W 0 + 1), o, ⟨W, q, rfl⟩, ol, ?_, fun i hi h20 => ?_, ?_, ?_⟩⟩
      · have e : (wI y1 304 0 (y1.1 304 0 + 1)).1 298 = y1.1 298 := wI_1 y1 (by decide) _
        unfold GS
        rw [e]
        exact k3
      · have e : ∀ b, 4 ≤ b → x1.1 b = (wI x 4 4 (rI x 4 4 + 1)).1 b := fun b hb => (k4.2 b (by omega)).1
        have w5 : wu W 0 (W 0 + 1) 5 = W 5 := wu_o W (by decide) _
        have w6 : wu W 0 (W 0 + 1) 6 = W 6 := wu_o W (by decide) _
        have w7 : wu W 0 (W 0 + 1) 7 = W 7 := wu_o W (by decide) _
        unfold FD
        rw [w5, w6, w7]
        refine ⟨fun j hj => ?_, ?_, ?_, ?_, fun i j z => ?_, fun i j z => ?_, fun i j z => ?_⟩
        · rw [e 4 (by omega), wI_at]
          by_cases z : j = 4
          · rw [if_pos z, z, show rI x 4 4 = nI (W 0) from h0 4 (by decide), nI_1]
            exact congrArg nI (wu_s W 0 _).symm
          · rw [if_neg z, h0 j hj]
            exact congrArg nI (wu_o W (i := 0) (fun w => z (fmap_i 4 (by decide) j hj w)) _).symm
        · rw [e 5 (by omega), wI_o _ (by decide), h1]
        · rw [e 14 (by omega), wI_o _ (by decide), h2]
        · rw [e 22 (by omega), wI_o _ (by decide), h3]
        · rw [e _ (by omega), wI_o _ (by omega), h4 i j z]
          exact congrArg nI (wu_o W (by omega) _).symm
        · rw [e _ (by omega), wI_o _ (by omega), h5 i j z]
          exact congrArg nI (wu_o W (by omega) _).symm
        · rw [e _ (by omega), wI_o _ (by omega), h6 i j z]
          exact congrArg nI (wu_o W (by omega) _).symm
      · have e : y1.1 304 = y.1 304 := (k5.2.2 304 (by omega)).1
        rw [e, wI_at]
        by_cases z : i = 0
        · rw [if_pos z, z, wu_s, g 0 (by decide) (by decide), nI_1]
        · rw [if_neg z, wu_o W z, e, g i hi h20]
      · rw [k4.1 9 (by omega), wI_o _ (by decide), o1]
      · rw [wI_at, if_neg (by decide), (k5.2.2 304 (by omega)).1, o2]
    · rw [if_neg t3, if_neg t3]
      obtain ⟨x1, y1, r1, r2, k1, k2, k3, k4, k5⟩ := fail2 K M G 1 (by decide)
      rw [r1, bind_s, r2, bind_s]
      exact bad k1 k2 (c.trans k4.c) (d.trans k5.m) k3
  · rw [if_neg (show ¬ rI x 2 3 = 0 from Bd.1), Mo_good_b Bd, bind_s, if_pos rfl]
    exact bad K M c d Bd
end ONCE
