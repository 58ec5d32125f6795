/-! a sort's line and another floe's line -/
section ROWS
variable {L lb : Nat} {T : Nat → Int32} {x y x0 y0 x' y' : Mem} {kc ks ko lo hi : Nat} {Q : Wd → Nat → Prop} {W W' : Wd} {u v : Int32 × Mem}
theorem BW.srt (B : BW W) {c : Nat} (hc : W 6 = c) (h7 : c < 6) (e5 : W' 6 = c + 1) (eo : ∀ i, i ≠ 6 → i < 80 + 4 * c ∨ 80 + 4 * c + 4 ≤ i → W' i = W i) (h0 : wso W' c 0 ≤ 3) (h1 : 1 ≤ wso W' c 1) (h2 : wso W' c 1 ≤ 99) (h3 : 1 ≤ wso W' c 2) (h4 : wso W' c 2 ≤ 99) (h5 : wso W' c 3 ≤ 20) : BW W' ∧ W' 0 = W 0 := by
  obtain ⟨b1, b2, b3, b4, b5, b6⟩ := B
  have e1 := eo 1 (by omega) (by omega)
  have e2 := eo 2 (by omega) (by omega)
  refine ⟨⟨?_, ?_, fun i hi => ?_, fun s hs => ?_, fun o ho => ?_, fun i hi => ?_⟩, eo 0 (by omega) (by omega)⟩
  · rw [e1, e2, eo 3 (by omega) (by omega), eo 4 (by omega) (by omega), eo 5 (by omega) (by omega), e5, eo 7 (by omega) (by omega)]
    omega
  · rw [eo 8 (by omega) (by omega), eo 9 (by omega) (by omega), eo 10 (by omega) (by omega), eo 11 (by omega) (by omega), eo 12 (by omega) (by omega), eo 13 (by omega) (by omega), eo 14 (by omega) (by omega), eo 15 (by omega) (by omega), eo 16 (by omega) (by omega), eo 17 (by omega) (by omega)]
    exact b2
  · rw [eo 5 (by omega) (by omega)] at hi
    have ek : ∀ k, k < 8 → W' (24 + 8 * i + k) = W (24 + 8 * i + k) := fun k hk => eo _ (by omega) (by omega)
    unfold IvC
    rw [show wcr W' i 0 = _ from ek 0 (by decide), show wcr W' i 1 = _ from ek 1 (by decide), show wcr W' i 2 = _ from ek 2 (by decide), show wcr W' i 3 = _ from ek 3 (by decide), show wcr W' i 4 = _ from ek 4 (by decide), show wcr W' i 5 = _ from ek 5 (by decide), show wcr W' i 6 = _ from ek 6 (by decide), show wcr W' i 7 = _ from ek 7 (by decide), e1, e2]
    exact b3 i hi
  · rw [e5] at hs
    by_cases q : s = c
    · subst q
      exact ⟨h0, h1, h2, h3, h4, h5⟩
    · have ek : ∀ k, k < 4 → W' (80 + 4 * s + k) = W (80 + 4 * s + k) := fun k hk => eo _ (by omega) (by omega)
      rw [show wso W' s 0 = _ from ek 0 (by decide), show wso W' s 1 = _ from ek 1 (by decide), show wso W' s 2 = _ from ek 2 (by decide), show wso W' s 3 = _ from ek 3 (by decide)]
      exact b4 s (by omega)
  · rw [eo 7 (by omega) (by omega)] at ho
    have ek : ∀ k, k < 3 → W' (104 + 3 * o + k) = W (104 + 3 * o + k) := fun k hk => eo _ (by omega) (by omega)
    unfold IvO
    rw [show wot W' o 0 = _ from ek 0 (by decide), show wot W' o 1 = _ from ek 1 (by decide), show wot W' o 2 = _ from ek 2 (by decide)]
    exact b5 o ho
  · rw [eo i (by rcases hi with h | h | h | ⟨k, h, h'⟩ <;> omega) (by rcases hi with h | h | h | ⟨k, h, h'⟩ <;> omega)]
    exact b6 i hi
theorem BW.oth (B : BW W) {c : Nat} (hc : W 7 = c) (h7 : c < 4) (e5 : W' 7 = c + 1) (eo : ∀ i, i ≠ 7 → i < 104 + 3 * c ∨ 104 + 3 * c + 3 ≤ i → W' i = W i) (h0 : 1 ≤ wot W' c 0) (h1 : wot W' c 0 ≤ 60) (h2 : wot W' c 1 ≤ 100) (h3 : wot W' c 2 ≤ 9999) : BW W' ∧ W' 0 = W 0 := by
  obtain ⟨b1, b2, b3, b4, b5, b6⟩ := B
  have e1 := eo 1 (by omega) (by omega)
  have e2 := eo 2 (by omega) (by omega)
  refine ⟨⟨?_, ?_, fun i hi => ?_, fun s hs => ?_, fun o ho => ?_, fun i hi => ?_⟩, eo 0 (by omega) (by omega)⟩
  · rw [e1, e2, eo 3 (by omega) (by omega), eo 4 (by omega) (by omega), eo 5 (by omega) (by omega), eo 6 (by omega) (by omega), e5]
    omega
  · rw [eo 8 (by omega) (by omega), eo 9 (by omega) (by omega), eo 10 (by omega) (by omega), eo 11 (by omega) (by omega), eo 12 (by omega) (by omega), eo 13 (by omega) (by omega), eo 14 (by omega) (by omega), eo 15 (by omega) (by omega), eo 16 (by omega) (by omega), eo 17 (by omega) (by omega)]
    exact b2
  · rw [eo 5 (by omega) (by omega)] at hi
    have ek : ∀ k, k < 8 → W' (24 + 8 * i + k) = W (24 + 8 * i + k) := fun k hk => eo _ (by omega) (by omega)
    unfold IvC
    rw [show wcr W' i 0 = _ from ek 0 (by decide), show wcr W' i 1 = _ from ek 1 (by decide), show wcr W' i 2 = _ from ek 2 (by decide), show wcr W' i 3 = _ from ek 3 (by decide), show wcr W' i 4 = _ from ek 4 (by decide), show wcr W' i 5 = _ from ek 5 (by decide), show wcr W' i 6 = _ from ek 6 (by decide), show wcr W' i 7 = _ from ek 7 (by decide), e1, e2]
    exact b3 i hi
  · rw [eo 6 (by omega) (by omega)] at hs
    have ek : ∀ k, k < 4 → W' (80 + 4 * s + k) = W (80 + 4 * s + k) := fun k hk => eo _ (by omega) (by omega)
    rw [show wso W' s 0 = _ from ek 0 (by decide), show wso W' s 1 = _ from ek 1 (by decide), show wso W' s 2 = _ from ek 2 (by decide), show wso W' s 3 = _ from ek 3 (by decide)]
    exact b4 s hs
  · rw [e5] at ho
    by_cases q : o = c
    · subst q
      exact ⟨h0, h1, h2, h3⟩
    · have ek : ∀ k, k < 3 → W' (104 + 3 * o + k) = W (104 + 3 * o + k) := fun k hk => eo _ (by omega) (by omega)
      unfold IvO
      rw [show wot W' o 0 = _ from ek 0 (by decide), show wot W' o 1 = _ from ek 1 (by decide), show wot W' o 2 = _ from ek 2 (by decide)]
      exact b5 o (by omega)
  · rw [eo i (by rcases hi with h | h | h | ⟨k, h, h'⟩ <;> omega) (by rcases hi with h | h | h | ⟨k, h, h'⟩ <;> omega)]
    exact b6 i hi
theorem SV.wide {lo' hi' : Nat} (V : SV L T lb x0 y0 kc ks ko Q lo hi u v) (h1 : lo' ≤ lo) (h2 : hi ≤ hi') : SV L T lb x0 y0 kc ks ko Q lo' hi' u v := by
  obtain ⟨a, b, c, d, s⟩ := V
  refine ⟨a, b, c, d, s.imp (fun ⟨g, W, o, n, q, r1, r2, r3, r4, r5, r6, r7, r8⟩ => ⟨g, W, o, n, q, r1, r2, r3, r4, r5, Nat.le_trans h1 r6, Nat.le_trans r7 h2, r8⟩) id⟩
theorem kind2 (hT : TB L T) (S : SW L T lb x0 y0 kc ks ko Q x y) (G : GS L T lb x y) : Ok2 (Re_takeKind 2 x) (Mo_readKind 298 y) (SV L T lb x0 y0 kc ks ko Q 0 3) := by
  have K := S.1
  have M := S.2.1
  obtain ⟨wc, hw⟩ := word2 hT K M G
  have one : ¬ (1 : Int32) = 0 := by decide
  have yes : ∀ (n : Nat), n ≤ 3 → wc < 32 → ∃ x1 v1, Re_next 2 x = some x1 ∧ Mo_takes 298 (1000 + wc) y = some v1 ∧ v1.1 = 1 ∧ SV L T lb x0 y0 kc ks ko Q 0 3 (nI n, x1) (nI n, v1.2) := by
    intro n hn h32
    obtain ⟨x1, v1, f1, f2, k0, k1, k2, k3, k4, k5⟩ := hw.ty hT K M G h32
    exact ⟨x1, v1, f1, f2, k0, ((S.go k1 k2 k4.f k5.f (fun b => absurd G.1 b.1) (Or.inl k3)).con n (nI n) (nI n) (fun _ => ⟨rfl, rfl⟩)).wide (Nat.zero_le _) hn⟩
  unfold Re_takeKind Mo_readKind Re_takeKind_b40 Re_takeKind_b61
  rw [show Re_is 2 1013 x = _ from hw.c 13 (by decide), bind_s]
  by_cases z13 : 13 = wc
  · subst z13
    obtain ⟨x1, v1, f1, f2, k0, V⟩ := yes 1 (by decide) (by decide)
    rw [if_pos rfl, if_neg one, if_neg one, f1, bind_s, show Mo_takes 298 1012 y = _ from hw.tn (j := 12) (by decide) (by decide), bind_s, if_pos rfl, show Mo_takes 298 1013 y = _ from f2, bind_s, if_neg (by rw [k0]; decide)]
    exact Ok2_s V
  · rw [if_neg z13, if_pos (show (0 : Int32) = 0 from rfl), show Re_is 2 1014 x = _ from hw.c 14 (by decide), bind_s]
    by_cases z14 : 14 = wc
    · subst z14
      obtain ⟨x1, v1, f1, f2, k0, V⟩ := yes 2 (by decide) (by decide)
      rw [if_pos rfl, if_neg one, if_neg (show ¬ (2 : Int32) = 0 by decide), f1, bind_s, show Mo_takes 298 1012 y = _ from hw.tn (j := 12) (by decide) (by decide), bind_s, if_pos rfl, show Mo_takes 298 1013 y = _ from hw.tn (j := 13) (by decide) (by decide), bind_s, if_pos rfl, show Mo_takes 298 1014 y = _ from f2, bind_s, if_neg (by rw [k0]; decide)]
      exact Ok2_s V
    · rw [if_neg z14, if_pos (show (0 : Int32) = 0 from rfl), show Re_is 2 1015 x = _ from hw.c 15 (by decide), bind_s]
      by_cases z15 : 15 = wc
      · subst z15
        obtain ⟨x1, v1, f1, f2, k0, V⟩ := yes 3 (by decide) (by decide)
        unfold Mo_needs
        rw [if_pos rfl, if_neg one, if_neg (show ¬ (3 : Int32) = 0 by decide), f1, bind_s, show Mo_takes 298 1012 y = _ from hw.tn (j := 12) (by decide) (by decide), bind_s, if_pos rfl, show Mo_takes 298 1013 y = _ from hw.tn (j := 13) (by decide) (by decide), bind_s, if_pos rfl, show Mo_takes 298 1014 y = _ from hw.tn (j := 14) (by decide) (by decide), bind_s, if_pos rfl, show Mo_takes 298 1015 y = _ from f2, bind_s, if_neg (by rw [k0]; decide), bind_s]
        exact Ok2_s V
      · rw [if_neg z15, if_pos (show (0 : Int32) = 0 from rfl), if_pos (show (0 : Int32) = 0 from rfl), show Re_is 2 1012 x = _ from hw.c 12 (by decide), bind_s]
        by_cases z12 : 12 = wc
        · subst z12
          obtain ⟨x1, v1, f1, f2, k0, V⟩ := yes 0 (by decide) (by decide)
          rw [if_pos rfl, if_neg one, f1, bind_s, show Mo_takes 298 1012 y = _ from f2, bind_s, if_neg (by rw [k0]; decide)]
          exact Ok2_s V
        · obtain ⟨x1, y1, f1, f2, k1, k2, k3, k4, k5⟩ := fail2 K M G 1 (by decide)
          unfold Mo_needs
          rw [if_neg z12, if_pos (show (0 : Int32) = 0 from rfl), f1, bind_s, show Mo_takes 298 1012 y = _ from hw.tn (j := 12) (by decide) z12, bind_s, if_pos rfl, show Mo_takes 298 1013 y = _ from hw.tn (j := 13) (by decide) z13, bind_s, if_pos rfl, show Mo_takes 298 1014 y = _ from hw.tn (j := 14) (by decide) z14, bind_s, if_pos rfl, show Mo_takes 298 1015 y = _ from hw.tn (j := 15) (by decide) z15, bind_s, if_pos rfl, f2, bind_s, bind_s]
          exact Ok2_s ⟨k1, k2, S.2.2.1.trans k4.c, S.2.2.2.1.trans k5.m, Or.inr k3⟩
theorem sortBody (hT : TB L T) (S : SW L T lb x0 y0 0 0 0 (fun W' _ => W' = W) x y) (G : GS L T lb x y) (B : BW W) {c : Nat} (hc : W 6 = c) (h7 : c < 6) :
    Ok2 ((Re_takeKind 2 x).bind (fun r28 => (Ta_tell 14 0 r28.1 r28.2).bind (fun m31 => (Re_named 2 1016 1 99 m31).bind (fun r42 => (Ta_tell 14 1 r42.1 r42.2).bind (fun m45 => (Re_named 2 1017 1 99 m45).bind (fun r56 => (Ta_tell 14 2 r56.1 r56.2).bind (fun m59 => (Re_named 2 1018 0 20 m59).bind (fun r70 => (Ta_tell 14 3 r70.1 r70.2).bind (fun m73 => (Ta_add 14 m73).bind (fun m77 => some m77)))))))))) (Mo_readSort 298 y) (SW L T lb x0 y0 0 0 0 (fun W' _ => BW W' ∧ W' 0 = W 0)) := by
  obtain ⟨W1, o, rfl, ol, f, g, o1, o2⟩ := S.good G
  have b1 := B.1
  have e5 : (80 : Int32) + 4 * rI y (298 + 6) (ix 6) = nI (80 + 4 * c) := by
    rw [show rI y (298 + 6) (ix 6) = nI (W1 6) from g 6 (by decide) (by decide), hc, show (4 : Int32) = nI 4 from rfl, pk_mul, show (80 : Int32) = nI 80 from rfl, nI_add]
  have st : ∀ {R : Wd → Nat → Prop} {i lo hi : Nat}, 7 < i → (∀ W o, R W o → W 6 = c ∧ W 5 ≤ 7 ∧ W 6 ≤ 6 ∧ W 7 ≤ 4) → ∀ W' o, (∃ W n, R W o ∧ lo ≤ n ∧ n ≤ hi ∧ W' = wu W i n) → W' 6 = c ∧ W' 5 ≤ 7 ∧ W' 6 ≤ 6 ∧ W' 7 ≤ 4 := by
    rintro R i lo hi h7 hR W' o ⟨W, n, q, -, -, rfl⟩
    obtain ⟨w5, w6, w7⟩ := wu57 (W := W) (n := n) h7
    rw [w5, w6, w7]
    exact hR W o q
  have ad : ∀ k, nI (80 + 4 * c) + nI k = nI (80 + 4 * c + k) := fun k => nI_add _ _
  have q0 : ∀ (W : Wd) (o : Nat), W = W1 → W 6 = c ∧ W 5 ≤ 7 ∧ W 6 ≤ 6 ∧ W 7 ≤ 4 := by
    rintro W o rfl
    exact ⟨hc, by omega, by omega, by omega⟩
  unfold Mo_readSort
  rw [gd_t (by decide), e5]
  refine Ok2_bind (kind2 hT S G) (fun u0 v0 V0 => ?_)
  refine V0.srt (c := c) (j := 0) h7 (by decide) q0 rfl (ad 0) (fun x1 y1 S1 => ?_)
  have q1 := st (by omega) q0 (i := 80 + 4 * c + 0) (lo := 0) (hi := 3)
  refine Ok2_bind (S1.named hT 16 (by decide) 1 99 (by decide) (by decide)) (fun u1 v1 V1 => ?_)
  refine V1.srt (c := c) (j := 1) h7 (by decide) q1 rfl (ad 1) (fun x2 y2 S2 => ?_)
  have q2 := st (by omega) q1 (i := 80 + 4 * c + 1) (lo := 1) (hi := 99)
  refine Ok2_bind (S2.named hT 17 (by decide) 1 99 (by decide) (by decide)) (fun u2 v2 V2 => ?_)
  refine V2.srt (c := c) (j := 2) h7 (by decide) q2 rfl (ad 2) (fun x3 y3 S3 => ?_)
  have q3 := st (by omega) q2 (i := 80 + 4 * c + 2) (lo := 1) (hi := 99)
  refine Ok2_bind (S3.named hT 18 (by decide) 0 20 (by decide) (by decide)) (fun u3 v3 V3 => ?_)
  refine V3.srt (c := c) (j := 3) h7 (by decide) q3 rfl (ad 3) (fun x4 y4 S4 => ?_)
  have q4 := st (by omega) q3 (i := 80 + 4 * c + 3) (lo := 0) (hi := 20)
  refine Ok2_mono (S4.srtA h7 q4) (fun x9 y9 S9 => S9.mono ?_)
  rintro W' o' ⟨Z9, ⟨Z3, n3, ⟨Z2, n2, ⟨Z1, n1, ⟨W1', n0, rfl, a0, d0, rfl⟩, a1, d1, rfl⟩, a2, d2, rfl⟩, a3, d3, rfl⟩, rfl⟩
  have v0 : wso (wu (wu (wu (wu (wu W1' (80 + 4 * c + 0) n0) (80 + 4 * c + 1) n1) (80 + 4 * c + 2) n2) (80 + 4 * c + 3) n3) 6 (c + 1)) c 0 = n0 := by
    show wu _ 6 (c + 1) (80 + 4 * c + 0) = n0
    rw [wu_o _ (by omega), wu_o _ (by omega), wu_o _ (by omega), wu_o _ (by omega), wu_s]
  have v1 : wso (wu (wu (wu (wu (wu W1' (80 + 4 * c + 0) n0) (80 + 4 * c + 1) n1) (80 + 4 * c + 2) n2) (80 + 4 * c + 3) n3) 6 (c + 1)) c 1 = n1 := by
    show wu _ 6 (c + 1) (80 + 4 * c + 1) = n1
    rw [wu_o _ (by omega), wu_o _ (by omega), wu_o _ (by omega), wu_s]
  have v2 : wso (wu (wu (wu (wu (wu W1' (80 + 4 * c + 0) n0) (80 + 4 * c + 1) n1) (80 + 4 * c + 2) n2) (80 + 4 * c + 3) n3) 6 (c + 1)) c 2 = n2 := by
    show wu _ 6 (c + 1) (80 + 4 * c + 2) = n2
    rw [wu_o _ (by omega), wu_o _ (by omega), wu_s]
  have v3 : wso (wu (wu (wu (wu (wu W1' (80 + 4 * c + 0) n0) (80 + 4 * c + 1) n1) (80 + 4 * c + 2) n2) (80 + 4 * c + 3) n3) 6 (c + 1)) c 3 = n3 := by
    show wu _ 6 (c + 1) (80 + 4 * c + 3) = n3
    rw [wu_o _ (by omega), wu_s]
  refine B.srt hc h7 (wu_s _ _ _) (fun i h5 hi => ?_) (by rw [v0]; exact d0) (by rw [v1]; exact a1) (by rw [v1]; exact d1) (by rw [v2]; exact a2) (by rw [v2]; exact d2) (by rw [v3]; exact d3)
  rw [wu_o _ (by omega), wu_o _ (by omega), wu_o _ (by omega), wu_o _ (by omega), wu_o _ (by omega)]
theorem otherBody (hT : TB L T) (S : SW L T lb x0 y0 0 0 0 (fun W' _ => W' = W) x y) (G : GS L T lb x y) (B : BW W) {c : Nat} (hc : W 7 = c) (h7 : c < 4) :
    Ok2 ((Re_named 2 1019 1 60 x).bind (fun r33 => (Ta_tell 22 0 r33.1 r33.2).bind (fun m36 => (Re_named 2 1007 0 100 m36).bind (fun r47 => (Ta_tell 22 1 r47.1 r47.2).bind (fun m50 => (Re_named 2 1020 0 9999 m50).bind (fun r62 => (Ta_tell 22 2 r62.1 r62.2).bind (fun m65 => (Ta_add 22 m65).bind (fun m69 => some m69)))))))) (Mo_readOther 298 y) (SW L T lb x0 y0 0 0 0 (fun W' _ => BW W' ∧ W' 0 = W 0)) := by
  obtain ⟨W1, o, rfl, ol, f, g, o1, o2⟩ := S.good G
  have b1 := B.1
  have e5 : (104 : Int32) + 3 * rI y (298 + 6) (ix 7) = nI (104 + 3 * c) := by
    rw [show rI y (298 + 6) (ix 7) = nI (W1 7) from g 7 (by decide) (by decide), hc, show (3 : Int32) = nI 3 from rfl, pk_mul, show (104 : Int32) = nI 104 from rfl, nI_add]
  have st : ∀ {R : Wd → Nat → Prop} {i lo hi : Nat}, 7 < i → (∀ W o, R W o → W 7 = c ∧ W 5 ≤ 7 ∧ W 6 ≤ 6 ∧ W 7 ≤ 4) → ∀ W' o, (∃ W n, R W o ∧ lo ≤ n ∧ n ≤ hi ∧ W' = wu W i n) → W' 7 = c ∧ W' 5 ≤ 7 ∧ W' 6 ≤ 6 ∧ W' 7 ≤ 4 := by
    rintro R i lo hi h7 hR W' o ⟨W, n, q, -, -, rfl⟩
    obtain ⟨w5, w6, w7⟩ := wu57 (W := W) (n := n) h7
    rw [w5, w6, w7]
    exact hR W o q
  have ad : ∀ k, nI (104 + 3 * c) + nI k = nI (104 + 3 * c + k) := fun k => nI_add _ _
  have q0 : ∀ (W : Wd) (o : Nat), W = W1 → W 7 = c ∧ W 5 ≤ 7 ∧ W 6 ≤ 6 ∧ W 7 ≤ 4 := by
    rintro W o rfl
    exact ⟨hc, by omega, by omega, by omega⟩
  unfold Mo_readOther
  rw [gd_t (by decide), e5]
  refine Ok2_bind (S.named hT 19 (by decide) 1 60 (by decide) (by decide)) (fun u0 v0 V0 => ?_)
  refine V0.oth (c := c) (j := 0) h7 (by decide) q0 rfl (by rw [Nat.add_zero]) (fun x1 y1 S1 => ?_)
  have q1 := st (by omega) q0 (i := 104 + 3 * c + 0) (lo := 1) (hi := 60)
  refine Ok2_bind (S1.named hT 7 (by decide) 0 100 (by decide) (by decide)) (fun u1 v1 V1 => ?_)
  refine V1.oth (c := c) (j := 1) h7 (by decide) q1 rfl (ad 1) (fun x2 y2 S2 => ?_)
  have q2 := st (by omega) q1 (i := 104 + 3 * c + 1) (lo := 0) (hi := 100)
  refine Ok2_bind (S2.named hT 20 (by decide) 0 9999 (by decide) (by decide)) (fun u2 v2 V2 => ?_)
  refine V2.oth (c := c) (j := 2) h7 (by decide) q2 rfl (ad 2) (fun x3 y3 S3 => ?_)
  have q3 := st (by omega) q2 (i := 104 + 3 * c + 2) (lo := 0) (hi := 9999)
  refine Ok2_mono (S3.othA h7 q3) (fun x9 y9 S9 => S9.mono ?_)
  rintro W' o' ⟨Z9, ⟨Z2, n2, ⟨Z1, n1, ⟨W1', n0, rfl, a0, d0, rfl⟩, a1, d1, rfl⟩, a2, d2, rfl⟩, rfl⟩
  have v0 : wot (wu (wu (wu (wu W1' (104 + 3 * c + 0) n0) (104 + 3 * c + 1) n1) (104 + 3 * c + 2) n2) 7 (c + 1)) c 0 = n0 := by
    show wu _ 7 (c + 1) (104 + 3 * c + 0) = n0
    rw [wu_o _ (by omega), wu_o _ (by omega), wu_o _ (by omega), wu_s]
  have v1 : wot (wu (wu (wu (wu W1' (104 + 3 * c + 0) n0) (104 + 3 * c + 1) n1) (104 + 3 * c + 2) n2) 7 (c + 1)) c 1 = n1 := by
    show wu _ 7 (c + 1) (104 + 3 * c + 1) = n1
    rw [wu_o _ (by omega), wu_o _ (by omega), wu_s]
  have v2 : wot (wu (wu (wu (wu W1' (104 + 3 * c + 0) n0) (104 + 3 * c + 1) n1) (104 + 3 * c + 2) n2) 7 (c + 1)) c 2 = n2 := by
    show wu _ 7 (c + 1) (104 + 3 * c + 2) = n2
    rw [wu_o _ (by omega), wu_s]
  refine B.oth hc h7 (wu_s _ _ _) (fun i h5 hi => ?_) (by rw [v0]; exact a0) (by rw [v0]; exact d0) (by rw [v1]; exact d1) (by rw [v2]; exact d2)
  rw [wu_o _ (by omega), wu_o _ (by omega), wu_o _ (by omega), wu_o _ (by omega)]
theorem sortLine (hT : TB L T) (S : SW L T lb x0 y0 0 0 0 (fun W' _ => W' = W) x y) (G : GS L T lb x y) (B : BW W) (hw : WC x y 30) : Ok2 (Re_readSort 2 x) (Mo_readNext 298 y) (SW L T lb x0 y0 0 0 0 (fun W' _ => BW W' ∧ W' 0 = W 0)) := by
  obtain ⟨W1, o, rfl, ol, f, g, o1, o2⟩ := S.good G
  have K := S.1
  have M := S.2.1
  have b1 := B.1
  have one : ¬ (1 : Int32) = 0 := by decide
  have g5 : rI y (298 + 6) (ix 6) = nI (W1 6) := g 6 (by decide) (by decide)
  have i29 : Mo_is 298 1029 y = some 0 := hw.m 29 (by decide)
  have i30 : Mo_is 298 1030 y = some 1 := hw.m 30 (by decide)
  have i31 : Mo_is 298 1031 y = some 0 := hw.m 31 (by decide)
  have start : Mo_readNext 298 y = Mo_readNext_b66 298 (-1) y := by
    unfold Mo_readNext
    rw [once_e hw, bind_s, if_pos (show onI 30 = -1 from rfl), i29, bind_s, if_pos (show (0 : Int32) = 0 from rfl), i30, bind_s, if_neg one]
    unfold Mo_readNext_b42
    rw [if_pos (show onI 30 = -1 from rfl)]
    rfl
  rw [start]
  unfold Re_readSort Mo_readNext_b66 Mo_readNext_b86 Mo_readNext_b107
  rw [show Ta_isFull (2 + 12) x = _ from Ta_isFull_e (t := 14) (n := 6) (by decide +kernel) (by decide) f.2.2.1 (by omega), bind_s, i29, bind_s, if_pos (show (0 : Int32) = 0 from rfl), i30, bind_s, if_neg one, gd_t (by decide), g5]
  by_cases h7 : W1 6 = 6
  · rw [if_pos h7, if_neg one, if_pos (show nI (W1 6) = 6 by rw [h7]; rfl)]
    obtain ⟨x1, y1, f1, f2, k1, k2, k3, k4, k5⟩ := fail2 K M G 3 (by decide)
    unfold Mo_readNext_b127
    rw [f1, bind_s, f2, bind_s, b132_b k3]
    exact Ok2_s ⟨k1, k2, S.2.2.1.trans k4.c, S.2.2.2.1.trans k5.m, Or.inr k3⟩
  · rw [if_neg h7, if_pos (show (0 : Int32) = 0 from rfl), if_neg (show ¬ nI (W1 6) = 6 from fun z => h7 ((nI_eq (b := 6) (by omega) (by decide)).mp z))]
    unfold Mo_readNext_b132
    obtain ⟨x1, v1, f1, f2, k0, k1, k2, k3, k4, k5⟩ := hw.ty hT K M G (by decide)
    rw [i31, bind_s, if_pos (show (0 : Int32) = 0 from rfl), Mo_good_g G, bind_s, if_neg one, if_pos (show (-1 : Int32) = -1 from rfl), show Mo_takes 298 1029 y = _ from hw.tn (j := 29) (by decide) (by decide), bind_s, if_pos (show (0 : Int32) = 0 from rfl), show Mo_takes 298 1030 y = some v1 from f2, bind_s, if_neg (by rw [k0]; decide), f1, bind_s]
    have S1 := S.go k1 k2 k4.f k5.f (fun b => absurd G.1 b.1) (Or.inl k3)
    obtain ⟨u, v, r1, r2, r3⟩ := sortBody hT S1 k3 B rfl (show W1 6 < 6 by omega)
    rw [r2, bind_s]
    exact Ok2_e r1 rfl r3
theorem otherLine (hT : TB L T) (S : SW L T lb x0 y0 0 0 0 (fun W' _ => W' = W) x y) (G : GS L T lb x y) (B : BW W) (hw : WC x y 31) : Ok2 (Re_readOther 2 x) (Mo_readNext 298 y) (SW L T lb x0 y0 0 0 0 (fun W' _ => BW W' ∧ W' 0 = W 0)) := by
  obtain ⟨W1, o, rfl, ol, f, g, o1, o2⟩ := S.good G
  have K := S.1
  have M := S.2.1
  have b1 := B.1
  have one : ¬ (1 : Int32) = 0 := by decide
  have g5 : rI y (298 + 6) (ix 7) = nI (W1 7) := g 7 (by decide) (by decide)
  have i29 : Mo_is 298 1029 y = some 0 := hw.m 29 (by decide)
  have i30 : Mo_is 298 1030 y = some 0 := hw.m 30 (by decide)
  have i31 : Mo_is 298 1031 y = some 1 := hw.m 31 (by decide)
  have start : Mo_readNext 298 y = Mo_readNext_b66 298 (-1) y := by
    unfold Mo_readNext
    rw [once_e hw, bind_s, if_pos (show onI 31 = -1 from rfl), i29, bind_s, if_pos (show (0 : Int32) = 0 from rfl), i30, bind_s, if_pos (show (0 : Int32) = 0 from rfl), i31, bind_s, if_neg one]
    unfold Mo_readNext_b42
    rw [if_pos (show onI 31 = -1 from rfl)]
    rfl
  rw [start]
  unfold Re_readOther Mo_readNext_b66 Mo_readNext_b86 Mo_readNext_b107
  rw [show Ta_isFull (2 + 20) x = _ from Ta_isFull_e (t := 22) (n := 4) (by decide +kernel) (by decide) f.2.2.2.1 (by omega), bind_s, i29, bind_s, if_pos (show (0 : Int32) = 0 from rfl), i30, bind_s, if_pos (show (0 : Int32) = 0 from rfl), i31, bind_s, if_neg one, gd_t (by decide), g5]
  by_cases h7 : W1 7 = 4
  · rw [if_pos h7, if_neg one, if_pos (show nI (W1 7) = 4 by rw [h7]; rfl)]
    obtain ⟨x1, y1, f1, f2, k1, k2, k3, k4, k5⟩ := fail2 K M G 3 (by decide)
    unfold Mo_readNext_b127
    rw [f1, bind_s, f2, bind_s, b132_b k3]
    exact Ok2_s ⟨k1, k2, S.2.2.1.trans k4.c, S.2.2.2.1.trans k5.m, Or.inr k3⟩
  · rw [if_neg h7, if_pos (show (0 : Int32) = 0 from rfl), if_neg (show ¬ nI (W1 7) = 4 from fun z => h7 ((nI_eq (b := 4) (by omega) (by decide)).mp z))]
    unfold Mo_readNext_b132
    obtain ⟨x1, v1, f1, f2, k0, k1, k2, k3, k4, k5⟩ := hw.ty hT K M G (by decide)
    rw [Mo_good_g G, bind_s, if_neg one, if_pos (show (-1 : Int32) = -1 from rfl), show Mo_takes 298 1029 y = _ from hw.tn (j := 29) (by decide) (by decide), bind_s, if_pos (show (0 : Int32) = 0 from rfl), show Mo_takes 298 1030 y = _ from hw.tn (j := 30) (by decide) (by decide), bind_s, if_pos (show (0 : Int32) = 0 from rfl), show Mo_takes 298 1031 y = some v1 from f2, bind_s, if_neg (by rw [k0]; decide), f1, bind_s]
    have S1 := S.go k1 k2 k4.f k5.f (fun b => absurd G.1 b.1) (Or.inl k3)
    obtain ⟨u, v, r1, r2, r3⟩ := otherBody hT S1 k3 B rfl (show W1 7 < 4 by omega)
    rw [r2, bind_s]
    exact Ok2_e r1 rfl r3
end ROWS
