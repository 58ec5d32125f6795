/-! lines: cells and rows of the three tables -/
section CELLS
theorem Ta_tell_e {m : Mem} {t n k c j : Nat} (a1 : al (t + 1) = n) (a2 : al (t + 2) = k) (n1 : n < 100) (k1 : k < 100) (hc : m.1 t 1 = nI c) (hn : c < n) (hj : j < k) (v : Int32) : Ta_tell t (nI j) v m = some (wI m (t + 2 + c) j v) := by
  unfold Ta_tell
  rw [show rI m t 1 = nI c from hc, if_neg (nI_pos (by omega)), a1, a2, if_neg (show ¬ Int32.ofNat n ≤ nI c from nI_ge hn (by omega)), if_neg (nI_pos (by omega)), gd_in hn (by omega), if_neg (show ¬ Int32.ofNat k ≤ nI j from nI_ge hj (by omega)), gd_in hn (by omega), gd_in hj (by omega), ix_nI (by omega), ix_nI (by omega), show t + 1 + (1 + c) = t + 2 + c by omega]
  rfl
theorem Ta_tell_a (m : Mem) {t n k : Nat} (a1 : al (t + 1) = n) (a2 : al (t + 2) = k) (n1 : n < 100) (k1 : k < 100) (w v : Int32) : Ok (Ta_tell t w v m) (fun x => Fp t (t + 2 + n) m x) := by
  unfold Ta_tell
  rw [a1, a2]
  rcases rng (rI m t 1) (n := n) (by omega) with ⟨p, -⟩ | ⟨p, q, -⟩ | ⟨c, hc, e⟩
  · exact Ok_it p (Ok_s Fp.refl)
  · exact Ok_if p (Ok_it q (Ok_s Fp.refl))
  · rw [e]
    refine Ok_if (nI_pos (by omega)) (Ok_if (show ¬ Int32.ofNat n ≤ nI c from nI_ge hc (by omega)) ?_)
    rcases rng w (n := k) (by omega) with ⟨p, -⟩ | ⟨p, q, -⟩ | ⟨j, hj, rfl⟩
    · exact Ok_it p (Ok_s Fp.refl)
    · exact Ok_if p (Ok_gd (in_nI hc (by omega)) (Ok_it q (Ok_s Fp.refl)))
    · refine Ok_if (nI_pos (by omega)) (Ok_gd (in_nI hc (by omega)) (Ok_if (show ¬ Int32.ofNat k ≤ nI j from nI_ge hj (by omega)) (Ok_gd (in_nI hc (by omega)) (Ok_gd (in_nI hj (by omega)) (Ok_lt (Ok_s (Fp.wI ?_ ?_ _ _)))))))
      · rw [ix_nI (by omega)]; omega
      · rw [ix_nI (by omega)]; omega
theorem Ta_add_e {m : Mem} {t n c : Nat} (a1 : al (t + 1) = n) (n1 : n < 100) (hc : m.1 t 1 = nI c) (hn : c < n) : Ta_add t m = some (wI m t 1 (nI (c + 1))) := by
  unfold Ta_add Ta_isFull
  rw [show rI m t 1 = nI c from hc, a1, if_pos (show nI c < Int32.ofNat n from nI_lt hn (by omega)), bind_s, if_pos rfl, nI_1]
  rfl
theorem Ta_add_a (m : Mem) (t : Nat) : Ok (Ta_add t m) (fun x => Fp t (t + 1) m x) := by
  unfold Ta_add Ta_isFull
  by_cases h : rI m t 1 < Int32.ofNat (al (t + 1))
  · rw [if_pos h, bind_s, if_pos rfl]
    exact Ok_lt (Ok_s (Fp.wI (by omega) (by omega) _ _))
  · rw [if_neg h, bind_s, if_neg (by decide)]
    exact Ok_s Fp.refl
theorem Fp.cf {lo hi : Nat} {x x' : Mem} (F : Fp lo hi x x') (h1 : 4 ≤ lo) (h2 : hi ≤ 28) : CFr x x' := ⟨fun a q => F a (by omega), by rw [(F 2 (by omega)).1]⟩
section CEL
variable {L lb : Nat} {T : Nat → Int32} {x y x0 y0 x' y' : Mem} {kc ks ko lo hi : Nat} {Q : Wd → Nat → Prop} {W : Wd} {u v : Int32 × Mem}
theorem BS.fp {lo hi b j : Nat} {q : Int32} (B : BS x y) (F : Fp lo hi x x') (h : 4 ≤ lo) (hb : b ≠ 298) : BS x' (wI y b j q) := by
  obtain ⟨b1, b2, b3⟩ := B
  have e : x'.1 2 = x.1 2 := (F 2 (by omega)).1
  refine ⟨?_, ?_, ?_⟩
  · rw [e]; exact b1
  · rw [e, wI_o _ (Ne.symm hb)]; exact b2
  · rw [e, wI_o _ (Ne.symm hb)]; exact b3
/-- a value that both have -/
theorem SW.con (S : SW L T lb x0 y0 kc ks ko Q x y) (n : Nat) (p q : Int32) (h : GS L T lb x y → p = nI n ∧ q = nI n) : SV L T lb x0 y0 kc ks ko Q n n (p, x) (q, y) := by
  obtain ⟨a, b, c, d, s⟩ := S
  refine ⟨a, b, c, d, s.imp (fun ⟨g, W, o, q, r1, r2, r3, r4, r5⟩ => ⟨g, W, o, n, q, r1, r2, r3, r4, r5, Nat.le_refl _, Nat.le_refl _, (h g).1, (h g).2⟩) id⟩
theorem SV.crk {A B : Type} {P : A → B → Prop} {k : Mem → Option A} {l : Mem → Option B} {c j : Nat} {vj vi : Int32} (V : SV L T lb x0 y0 j 0 0 Q lo hi u v) (hc : c < 7) (hj : j < 7) (hQ : ∀ W o, Q W o → W 5 = c ∧ W 5 ≤ 7 ∧ W 6 ≤ 6 ∧ W 7 ≤ 4) (ej : vj = nI j) (ei : vi = nI (24 + 8 * c + j))
    (h : ∀ x' y', SW L T lb x0 y0 (j + 1) 0 0 (fun W' o => ∃ W n, Q W o ∧ lo ≤ n ∧ n ≤ hi ∧ W' = wu W (24 + 8 * c + j) n) x' y' → Ok2 (k x') (l y') P) : Ok2 ((Ta_tell 5 vj u.1 u.2).bind k) (gd (inb vi 200) (lt (wI v.2 304 (ix vi) v.1) l)) P := by
  rw [ej, ei, gd_in (by omega) (by decide), ix_nI (by omega)]
  obtain ⟨K, M, cc, d, s⟩ := V
  have f2 := MFr.w (y := v.2) (24 + 8 * c + j) v.1
  rcases s with ⟨G, W, o, n, q, ol, f, g, e1, e2, n1, n2, n3, n4⟩ | b
  · obtain ⟨hc5, d5, d6, d7⟩ := hQ W o q
    obtain ⟨h0, h1, h2, h3, h4, h5, h6⟩ := f
    have f1 := CFr.w (x := u.2) (a := 7 + c) (by omega) (by omega) j u.1
    rw [show Ta_tell 5 (nI j) u.1 u.2 = some (wI u.2 (5 + 2 + c) j u.1) from Ta_tell_e (n := 7) (k := 7) (by decide +kernel) (by decide +kernel) (by decide) (by decide) (by rw [h1, hc5]) hc hj u.1, bind_s, show 5 + 2 + c = 7 + c by omega]
    refine h _ _ ⟨K.cf f1, M.mf f2, cc.trans f1, d.trans f2, Or.inl ⟨G.w (by omega) (by decide), wu W (24 + 8 * c + j) n, o, ⟨W, n, q, n1, n2, rfl⟩, ol, ?_, fun i hi h20 => ?_, ?_, ?_⟩⟩
    · have w5 : wu W (24 + 8 * c + j) n 5 = W 5 := wu_o W (by omega) n
      have w6 : wu W (24 + 8 * c + j) n 6 = W 6 := wu_o W (by omega) n
      have w7 : wu W (24 + 8 * c + j) n 7 = W 7 := wu_o W (by omega) n
      unfold FD
      rw [w5, w6, w7]
      refine ⟨fun k hk => ?_, ?_, ?_, ?_, fun i k z => ?_, fun i k z => ?_, fun i k z => ?_⟩
      · have := fmap_n k hk
        rw [wI_o _ (by omega), h0 k hk]
        exact congrArg nI (wu_o W (by omega) n).symm
      · rw [wI_o _ (by omega), h1]
      · rw [wI_o _ (by omega), h2]
      · rw [wI_o _ (by omega), h3]
      · by_cases z1 : i = c
        · rw [z1, wI_at]
          by_cases z2 : k = j
          · rw [if_pos z2, z2, n3]
            exact congrArg nI (wu_s W _ n).symm
          · rw [if_neg z2, h4 c k (by omega)]
            exact congrArg nI (wu_o W (by omega) n).symm
        · rw [wI_o _ (by omega), h4 i k (by omega)]
          exact congrArg nI (wu_o W (by omega) n).symm
      · rw [wI_o _ (by omega), h5 i k z]
        exact congrArg nI (wu_o W (by omega) n).symm
      · rw [wI_o _ (by omega), h6 i k z]
        exact congrArg nI (wu_o W (by omega) n).symm
    · rw [wI_at]
      by_cases z : i = 24 + 8 * c + j
      · rw [if_pos z, z, wu_s, n4]
      · rw [if_neg z, wu_o W z, g i hi h20]
    · rw [wI_o _ (by omega), e1]
    · rw [wI_at, if_neg (by omega), e2]
  · obtain ⟨x', ex, F⟩ := Ta_tell_a u.2 (t := 5) (n := 7) (k := 7) (by decide +kernel) (by decide +kernel) (by decide) (by decide) (nI j) u.1
    have f1 := F.cf (by decide) (by decide)
    rw [ex, bind_s]
    exact h _ _ ⟨K.cf f1, M.mf f2, cc.trans f1, d.trans f2, Or.inr (b.fp F (by decide) (by decide))⟩
theorem SW.crkA (S : SW L T lb x0 y0 7 0 0 Q x y) {c : Nat} (hc : c < 7) (hQ : ∀ W o, Q W o → W 5 = c ∧ W 5 ≤ 7 ∧ W 6 ≤ 6 ∧ W 7 ≤ 4) :
    Ok2 ((Ta_add 5 x).bind (fun m => some m)) (gd (inb 5 200) (gd (inb 5 200) (lt (wI y 304 (ix 5) (rI y 304 (ix 5) + 1)) (fun m => some m)))) (SW L T lb x0 y0 0 0 0 (fun W' o => ∃ W, Q W o ∧ W' = wu W 5 (c + 1))) := by
  rw [gd_t (by decide), gd_t (by decide)]
  show Ok2 _ (some (wI y 304 5 (rI y 304 5 + 1))) _
  obtain ⟨K, M, cc, d, s⟩ := S
  have f2 := MFr.w (y := y) 5 (rI y 304 5 + 1)
  rcases s with ⟨G, W, o, q, ol, f, g, e1, e2⟩ | b
  · obtain ⟨hc5, d5, d6, d7⟩ := hQ W o q
    obtain ⟨h0, h1, h2, h3, h4, h5, h6⟩ := f
    have f1 := CFr.w (x := x) (a := 5) (by decide) (by decide) 1 (nI (c + 1))
    rw [show Ta_add 5 x = _ from Ta_add_e (n := 7) (by decide +kernel) (by decide) (by rw [h1, hc5]) hc, bind_s]
    refine Ok2_s ⟨K.cf f1, M.mf f2, cc.trans f1, d.trans f2, Or.inl ⟨G.w (by decide) (by decide), wu W 5 (c + 1), o, ⟨W, q, rfl⟩, ol, ?_, fun i hi h20 => ?_, ?_, ?_⟩⟩
    · refine ⟨fun k hk => ?_, ?_, ?_, ?_, fun i k z => ?_, fun i k z => ?_, fun i k z => ?_⟩
      · have := fmap_n k hk
        rw [wI_o _ (by decide), h0 k hk]
        exact congrArg nI (wu_o W (by omega) _).symm
      · rw [wI_self]
        exact congrArg nI (wu_s W 5 _).symm
      · rw [wI_o _ (by decide), h2]
        exact congrArg nI (wu_o W (by decide) _).symm
      · rw [wI_o _ (by decide), h3]
        exact congrArg nI (wu_o W (by decide) _).symm
      · rw [wu_s] at z
        rw [wI_o _ (by omega), h4 i k (by omega)]
        exact congrArg nI (wu_o W (by omega) _).symm
      · rw [wu_o W (by decide)] at z
        rw [wI_o _ (by omega), h5 i k (by omega)]
        exact congrArg nI (wu_o W (by omega) _).symm
      · rw [wu_o W (by decide)] at z
        rw [wI_o _ (by omega), h6 i k (by omega)]
        exact congrArg nI (wu_o W (by omega) _).symm
    · rw [wI_at]
      by_cases z : i = 5
      · rw [if_pos z, z, wu_s, show rI y 304 5 = nI (W 5) from g 5 (by decide) (by decide), hc5, nI_1]
      · rw [if_neg z, wu_o W z, g i hi h20]
    · rw [wI_o _ (by decide), e1]
    · rw [wI_at, if_neg (by decide), e2]
  · obtain ⟨x', ex, F⟩ := Ta_add_a x 5
    have f1 := F.cf (by decide) (by decide)
    rw [ex, bind_s]
    exact Ok2_s ⟨K.cf f1, M.mf f2, cc.trans f1, d.trans f2, Or.inr (b.fp F (by decide) (by decide))⟩
theorem SV.srt {A B : Type} {P : A → B → Prop} {k : Mem → Option A} {l : Mem → Option B} {c j : Nat} {vj vi : Int32} (V : SV L T lb x0 y0 0 j 0 Q lo hi u v) (hc : c < 6) (hj : j < 4) (hQ : ∀ W o, Q W o → W 6 = c ∧ W 5 ≤ 7 ∧ W 6 ≤ 6 ∧ W 7 ≤ 4) (ej : vj = nI j) (ei : vi = nI (80 + 4 * c + j))
    (h : ∀ x' y', SW L T lb x0 y0 0 (j + 1) 0 (fun W' o => ∃ W n, Q W o ∧ lo ≤ n ∧ n ≤ hi ∧ W' = wu W (80 + 4 * c + j) n) x' y' → Ok2 (k x') (l y') P) : Ok2 ((Ta_tell 14 vj u.1 u.2).bind k) (gd (inb vi 200) (lt (wI v.2 304 (ix vi) v.1) l)) P := by
  rw [ej, ei, gd_in (by omega) (by decide), ix_nI (by omega)]
  obtain ⟨K, M, cc, d, s⟩ := V
  have f2 := MFr.w (y := v.2) (80 + 4 * c + j) v.1
  rcases s with ⟨G, W, o, n, q, ol, f, g, e1, e2, n1, n2, n3, n4⟩ | b
  · obtain ⟨hc5, d5, d6, d7⟩ := hQ W o q
    obtain ⟨h0, h1, h2, h3, h4, h5, h6⟩ := f
    have f1 := CFr.w (x := u.2) (a := 16 + c) (by omega) (by omega) j u.1
    rw [show Ta_tell 14 (nI j) u.1 u.2 = some (wI u.2 (14 + 2 + c) j u.1) from Ta_tell_e (n := 6) (k := 4) (by decide +kernel) (by decide +kernel) (by decide) (by decide) (by rw [h2, hc5]) hc hj u.1, bind_s, show 14 + 2 + c = 16 + c by omega]
    refine h _ _ ⟨K.cf f1, M.mf f2, cc.trans f1, d.trans f2, Or.inl ⟨G.w (by omega) (by decide), wu W (80 + 4 * c + j) n, o, ⟨W, n, q, n1, n2, rfl⟩, ol, ?_, fun i hi h20 => ?_, ?_, ?_⟩⟩
    · have w5 : wu W (80 + 4 * c + j) n 5 = W 5 := wu_o W (by omega) n
      have w6 : wu W (80 + 4 * c + j) n 6 = W 6 := wu_o W (by omega) n
      have w7 : wu W (80 + 4 * c + j) n 7 = W 7 := wu_o W (by omega) n
      unfold FD
      rw [w5, w6, w7]
      refine ⟨fun k hk => ?_, ?_, ?_, ?_, fun i k z => ?_, fun i k z => ?_, fun i k z => ?_⟩
      · have := fmap_n k hk
        rw [wI_o _ (by omega), h0 k hk]
        exact congrArg nI (wu_o W (by omega) n).symm
      · rw [wI_o _ (by omega), h1]
      · rw [wI_o _ (by omega), h2]
      · rw [wI_o _ (by omega), h3]
      · rw [wI_o _ (by omega), h4 i k z]
        exact congrArg nI (wu_o W (by omega) n).symm
      · by_cases z1 : i = c
        · rw [z1, wI_at]
          by_cases z2 : k = j
          · rw [if_pos z2, z2, n3]
            exact congrArg nI (wu_s W _ n).symm
          · rw [if_neg z2, h5 c k (by omega)]
            exact congrArg nI (wu_o W (by omega) n).symm
        · rw [wI_o _ (by omega), h5 i k (by omega)]
          exact congrArg nI (wu_o W (by omega) n).symm
      · rw [wI_o _ (by omega), h6 i k z]
        exact congrArg nI (wu_o W (by omega) n).symm
    · rw [wI_at]
      by_cases z : i = 80 + 4 * c + j
      · rw [if_pos z, z, wu_s, n4]
      · rw [if_neg z, wu_o W z, g i hi h20]
    · rw [wI_o _ (by omega), e1]
    · rw [wI_at, if_neg (by omega), e2]
  · obtain ⟨x', ex, F⟩ := Ta_tell_a u.2 (t := 14) (n := 6) (k := 4) (by decide +kernel) (by decide +kernel) (by decide) (by decide) (nI j) u.1
    have f1 := F.cf (by decide) (by decide)
    rw [ex, bind_s]
    exact h _ _ ⟨K.cf f1, M.mf f2, cc.trans f1, d.trans f2, Or.inr (b.fp F (by decide) (by decide))⟩
theorem SW.srtA (S : SW L T lb x0 y0 0 4 0 Q x y) {c : Nat} (hc : c < 6) (hQ : ∀ W o, Q W o → W 6 = c ∧ W 5 ≤ 7 ∧ W 6 ≤ 6 ∧ W 7 ≤ 4) :
    Ok2 ((Ta_add 14 x).bind (fun m => some m)) (gd (inb 6 200) (gd (inb 6 200) (lt (wI y 304 (ix 6) (rI y 304 (ix 6) + 1)) (fun m => some m)))) (SW L T lb x0 y0 0 0 0 (fun W' o => ∃ W, Q W o ∧ W' = wu W 6 (c + 1))) := by
  rw [gd_t (by decide), gd_t (by decide)]
  show Ok2 _ (some (wI y 304 6 (rI y 304 6 + 1))) _
  obtain ⟨K, M, cc, d, s⟩ := S
  have f2 := MFr.w (y := y) 6 (rI y 304 6 + 1)
  rcases s with ⟨G, W, o, q, ol, f, g, e1, e2⟩ | b
  · obtain ⟨hc5, d5, d6, d7⟩ := hQ W o q
    obtain ⟨h0, h1, h2, h3, h4, h5, h6⟩ := f
    have f1 := CFr.w (x := x) (a := 14) (by decide) (by decide) 1 (nI (c + 1))
    rw [show Ta_add 14 x = _ from Ta_add_e (n := 6) (by decide +kernel) (by decide) (by rw [h2, hc5]) hc, bind_s]
    refine Ok2_s ⟨K.cf f1, M.mf f2, cc.trans f1, d.trans f2, Or.inl ⟨G.w (by decide) (by decide), wu W 6 (c + 1), o, ⟨W, q, rfl⟩, ol, ?_, fun i hi h20 => ?_, ?_, ?_⟩⟩
    · refine ⟨fun k hk => ?_, ?_, ?_, ?_, fun i k z => ?_, fun i k z => ?_, fun i k z => ?_⟩
      · have := fmap_n k hk
        rw [wI_o _ (by decide), h0 k hk]
        exact congrArg nI (wu_o W (by omega) _).symm
      · rw [wI_o _ (by decide), h1]
        exact congrArg nI (wu_o W (by decide) _).symm
      · rw [wI_self]
        exact congrArg nI (wu_s W 6 _).symm
      · rw [wI_o _ (by decide), h3]
        exact congrArg nI (wu_o W (by decide) _).symm
      · rw [wu_o W (by decide)] at z
        rw [wI_o _ (by omega), h4 i k (by omega)]
        exact congrArg nI (wu_o W (by omega) _).symm
      · rw [wu_s] at z
        rw [wI_o _ (by omega), h5 i k (by omega)]
        exact congrArg nI (wu_o W (by omega) _).symm
      · rw [wu_o W (by decide)] at z
        rw [wI_o _ (by omega), h6 i k (by omega)]
        exact congrArg nI (wu_o W (by omega) _).symm
    · rw [wI_at]
      by_cases z : i = 6
      · rw [if_pos z, z, wu_s, show rI y 304 6 = nI (W 6) from g 6 (by decide) (by decide), hc5, nI_1]
      · rw [if_neg z, wu_o W z, g i hi h20]
    · rw [wI_o _ (by decide), e1]
    · rw [wI_at, if_neg (by decide), e2]
  · obtain ⟨x', ex, F⟩ := Ta_add_a x 14
    have f1 := F.cf (by decide) (by decide)
    rw [ex, bind_s]
    exact Ok2_s ⟨K.cf f1, M.mf f2, cc.trans f1, d.trans f2, Or.inr (b.fp F (by decide) (by decide))⟩
theorem SV.oth {A B : Type} {P : A → B → Prop} {k : Mem → Option A} {l : Mem → Option B} {c j : Nat} {vj vi : Int32} (V : SV L T lb x0 y0 0 0 j Q lo hi u v) (hc : c < 4) (hj : j < 3) (hQ : ∀ W o, Q W o → W 7 = c ∧ W 5 ≤ 7 ∧ W 6 ≤ 6 ∧ W 7 ≤ 4) (ej : vj = nI j) (ei : vi = nI (104 + 3 * c + j))
    (h : ∀ x' y', SW L T lb x0 y0 0 0 (j + 1) (fun W' o => ∃ W n, Q W o ∧ lo ≤ n ∧ n ≤ hi ∧ W' = wu W (104 + 3 * c + j) n) x' y' → Ok2 (k x') (l y') P) : Ok2 ((Ta_tell 22 vj u.1 u.2).bind k) (gd (inb vi 200) (lt (wI v.2 304 (ix vi) v.1) l)) P := by
  rw [ej, ei, gd_in (by omega) (by decide), ix_nI (by omega)]
  obtain ⟨K, M, cc, d, s⟩ := V
  have f2 := MFr.w (y := v.2) (104 + 3 * c + j) v.1
  rcases s with ⟨G, W, o, n, q, ol, f, g, e1, e2, n1, n2, n3, n4⟩ | b
  · obtain ⟨hc5, d5, d6, d7⟩ := hQ W o q
    obtain ⟨h0, h1, h2, h3, h4, h5, h6⟩ := f
    have f1 := CFr.w (x := u.2) (a := 24 + c) (by omega) (by omega) j u.1
    rw [show Ta_tell 22 (nI j) u.1 u.2 = some (wI u.2 (22 + 2 + c) j u.1) from Ta_tell_e (n := 4) (k := 3) (by decide +kernel) (by decide +kernel) (by decide) (by decide) (by rw [h3, hc5]) hc hj u.1, bind_s, show 22 + 2 + c = 24 + c by omega]
    refine h _ _ ⟨K.cf f1, M.mf f2, cc.trans f1, d.trans f2, Or.inl ⟨G.w (by omega) (by decide), wu W (104 + 3 * c + j) n, o, ⟨W, n, q, n1, n2, rfl⟩, ol, ?_, fun i hi h20 => ?_, ?_, ?_⟩⟩
    · have w5 : wu W (104 + 3 * c + j) n 5 = W 5 := wu_o W (by omega) n
      have w6 : wu W (104 + 3 * c + j) n 6 = W 6 := wu_o W (by omega) n
      have w7 : wu W (104 + 3 * c + j) n 7 = W 7 := wu_o W (by omega) n
      unfold FD
      rw [w5, w6, w7]
      refine ⟨fun k hk => ?_, ?_, ?_, ?_, fun i k z => ?_, fun i k z => ?_, fun i k z => ?_⟩
      · have := fmap_n k hk
        rw [wI_o _ (by omega), h0 k hk]
        exact congrArg nI (wu_o W (by omega) n).symm
      · rw [wI_o _ (by omega), h1]
      · rw [wI_o _ (by omega), h2]
      · rw [wI_o _ (by omega), h3]
      · rw [wI_o _ (by omega), h4 i k z]
        exact congrArg nI (wu_o W (by omega) n).symm
      · rw [wI_o _ (by omega), h5 i k z]
        exact congrArg nI (wu_o W (by omega) n).symm
      · by_cases z1 : i = c
        · rw [z1, wI_at]
          by_cases z2 : k = j
          · rw [if_pos z2, z2, n3]
            exact congrArg nI (wu_s W _ n).symm
          · rw [if_neg z2, h6 c k (by omega)]
            exact congrArg nI (wu_o W (by omega) n).symm
        · rw [wI_o _ (by omega), h6 i k (by omega)]
          exact congrArg nI (wu_o W (by omega) n).symm
    · rw [wI_at]
      by_cases z : i = 104 + 3 * c + j
      · rw [if_pos z, z, wu_s, n4]
      · rw [if_neg z, wu_o W z, g i hi h20]
    · rw [wI_o _ (by omega), e1]
    · rw [wI_at, if_neg (by omega), e2]
  · obtain ⟨x', ex, F⟩ := Ta_tell_a u.2 (t := 22) (n := 4) (k := 3) (by decide +kernel) (by decide +kernel) (by decide) (by decide) (nI j) u.1
    have f1 := F.cf (by decide) (by decide)
    rw [ex, bind_s]
    exact h _ _ ⟨K.cf f1, M.mf f2, cc.trans f1, d.trans f2, Or.inr (b.fp F (by decide) (by decide))⟩
theorem SW.othA (S : SW L T lb x0 y0 0 0 3 Q x y) {c : Nat} (hc : c < 4) (hQ : ∀ W o, Q W o → W 7 = c ∧ W 5 ≤ 7 ∧ W 6 ≤ 6 ∧ W 7 ≤ 4) :
    Ok2 ((Ta_add 22 x).bind (fun m => some m)) (gd (inb 7 200) (gd (inb 7 200) (lt (wI y 304 (ix 7) (rI y 304 (ix 7) + 1)) (fun m => some m)))) (SW L T lb x0 y0 0 0 0 (fun W' o => ∃ W, Q W o ∧ W' = wu W 7 (c + 1))) := by
  rw [gd_t (by decide), gd_t (by decide)]
  show Ok2 _ (some (wI y 304 7 (rI y 304 7 + 1))) _
  obtain ⟨K, M, cc, d, s⟩ := S
  have f2 := MFr.w (y := y) 7 (rI y 304 7 + 1)
  rcases s with ⟨G, W, o, q, ol, f, g, e1, e2⟩ | b
  · obtain ⟨hc5, d5, d6, d7⟩ := hQ W o q
    obtain ⟨h0, h1, h2, h3, h4, h5, h6⟩ := f
    have f1 := CFr.w (x := x) (a := 22) (by decide) (by decide) 1 (nI (c + 1))
    rw [show Ta_add 22 x = _ from Ta_add_e (n := 4) (by decide +kernel) (by decide) (by rw [h3, hc5]) hc, bind_s]
    refine Ok2_s ⟨K.cf f1, M.mf f2, cc.trans f1, d.trans f2, Or.inl ⟨G.w (by decide) (by decide), wu W 7 (c + 1), o, ⟨W, q, rfl⟩, ol, ?_, fun i hi h20 => ?_, ?_, ?_⟩⟩
    · refine ⟨fun k hk => ?_, ?_, ?_, ?_, fun i k z => ?_, fun i k z => ?_, fun i k z => ?_⟩
      · have := fmap_n k hk
        rw [wI_o _ (by decide), h0 k hk]
        exact congrArg nI (wu_o W (by omega) _).symm
      · rw [wI_o _ (by decide), h1]
        exact congrArg nI (wu_o W (by decide) _).symm
      · rw [wI_o _ (by decide), h2]
        exact congrArg nI (wu_o W (by decide) _).symm
      · rw [wI_self]
        exact congrArg nI (wu_s W 7 _).symm
      · rw [wu_o W (by decide)] at z
        rw [wI_o _ (by omega), h4 i k (by omega)]
        exact congrArg nI (wu_o W (by omega) _).symm
      · rw [wu_o W (by decide)] at z
        rw [wI_o _ (by omega), h5 i k (by omega)]
        exact congrArg nI (wu_o W (by omega) _).symm
      · rw [wu_s] at z
        rw [wI_o _ (by omega), h6 i k (by omega)]
        exact congrArg nI (wu_o W (by omega) _).symm
    · rw [wI_at]
      by_cases z : i = 7
      · rw [if_pos z, z, wu_s, show rI y 304 7 = nI (W 7) from g 7 (by decide) (by decide), hc5, nI_1]
      · rw [if_neg z, wu_o W z, g i hi h20]
    · rw [wI_o _ (by decide), e1]
    · rw [wI_at, if_neg (by decide), e2]
  · obtain ⟨x', ex, F⟩ := Ta_add_a x 22
    have f1 := F.cf (by decide) (by decide)
    rw [ex, bind_s]
    exact Ok2_s ⟨K.cf f1, M.mf f2, cc.trans f1, d.trans f2, Or.inr (b.fp F (by decide) (by decide))⟩
end CEL
end CELLS
