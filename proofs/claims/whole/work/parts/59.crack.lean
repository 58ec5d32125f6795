/-! lines: which word it is; a crack's line -/
section CRACK
variable {L lb : Nat} {T : Nat → Int32} {x y x0 y0 x' y' : Mem} {kc ks ko lo hi : Nat} {Q : Wd → Nat → Prop} {W : Wd}
theorem words_u : ∀ i, i < 32 → ∀ j, j < 32 → sLen (1000 + i) = sLen (1000 + j) → (∀ k, k < sLen (1000 + i) → sCh (1000 + i) k = sCh (1000 + j) k) → i = j := by decide +kernel
/-- the word at which both are: 32 if it is none of them -/
def WC (x y : Mem) (wc : Nat) : Prop := (∀ j, j < 32 → Re_is 2 (1000 + j) x = some (if j = wc then 1 else 0) ∧ Mo_is 298 (1000 + j) y = some (if j = wc then 1 else 0)) ∧ (wc < 32 → x.1 2 7 ≠ 0)
theorem word2 (hT : TB L T) (K : CK L T x) (M : MK L T y) (G : GS L T lb x y) : ∃ wc, WC x y wc := by
  obtain ⟨g1, g2, g3, g4, a, ⟨ha, hlb⟩, g5, g8, g6, g9, g7, g10, gn⟩ := G
  have e : ∀ j, j < 32 → Re_is 2 (1000 + j) x = some (wdB L T a (1000 + j)) ∧ Mo_is 298 (1000 + j) y = some (wdB L T a (1000 + j)) := fun j hj => ⟨Re_is_e hT K hj ha g5 g6 g7, Mo_is_e hT M hj ha g2 g8 g9 g10⟩
  by_cases h : ∃ j, j < 32 ∧ wdP L T a (1000 + j)
  · obtain ⟨w, hw, p⟩ := h
    refine ⟨w, fun j hj => ?_, fun _ => ?_⟩
    · have eq : wdB L T a (1000 + j) = if j = w then 1 else 0 := by
        by_cases z : j = w
        · rw [if_pos z, z]
          exact wdB_t p
        · rw [if_neg z]
          refine wdB_f (fun q => z (words_u j hj w hw (q.2.1.symm.trans p.2.1) (fun k hk => ?_)))
          rw [← q.2.2 k hk]
          exact p.2.2 k (by rw [← p.2.1, q.2.1]; exact hk)
      rw [← eq]
      exact e j hj
    · rw [g7, p.1]
      decide
  · refine ⟨32, fun j hj => ?_, fun z => absurd z (by decide)⟩
    have eq : wdB L T a (1000 + j) = if j = 32 then 1 else 0 := by
      rw [if_neg (by omega)]
      exact wdB_f (fun q => h ⟨j, hj, q⟩)
    rw [← eq]
    exact e j hj
theorem WC.c {wc : Nat} (h : WC x y wc) (j : Nat) (hj : j < 32) : Re_is 2 (1000 + j) x = some (if j = wc then 1 else 0) := (h.1 j hj).1
theorem WC.m {wc : Nat} (h : WC x y wc) (j : Nat) (hj : j < 32) : Mo_is 298 (1000 + j) y = some (if j = wc then 1 else 0) := (h.1 j hj).2
theorem WC.ty (hT : TB L T) (K : CK L T x) (M : MK L T y) (G : GS L T lb x y) {wc : Nat} (h : WC x y wc) (hw : wc < 32) : Ok2 (Re_next 2 x) (Mo_takes 298 (1000 + wc) y) (fun x' q => q.1 = 1 ∧ CK L T x' ∧ MK L T q.2 ∧ GS L T lb x' q.2 ∧ NX x x' ∧ AX y q.2) := by
  obtain ⟨x', y', f1, f2, p⟩ := next2 hT K M G
  refine Ok2_e (u := x') (v := (1, y')) f1 ?_ ⟨rfl, p⟩
  unfold Mo_takes
  rw [h.m wc hw, if_pos rfl, bind_s, if_neg (by decide), f2, bind_s, gd_t (by decide)]
theorem WC.tn {wc : Nat} (h : WC x y wc) {j : Nat} (hj : j < 32) (ne : j ≠ wc) : Mo_takes 298 (1000 + j) y = some (0, y) := by
  unfold Mo_takes
  rw [h.m j hj, if_neg ne, bind_s, if_pos rfl, gd_t (by decide)]
theorem Ta_isFull_e {m : Mem} {t n c : Nat} (a1 : al (t + 1) = n) (n1 : n < 100) (hc : m.1 t 1 = nI c) (hn : c ≤ n) : Ta_isFull t m = some (if c = n then 1 else 0) := by
  unfold Ta_isFull
  rw [show rI m t 1 = nI c from hc, a1]
  by_cases h : c = n
  · rw [if_neg (show ¬ nI c < Int32.ofNat n from nI_nlt (by omega) (by omega)), if_pos h]
  · rw [if_pos (show nI c < Int32.ofNat n from nI_lt (by omega) (by omega)), if_neg h]
theorem Re_byteAt_a (v : Int32) (x : Mem) : ∃ r, Re_byteAt 2 v x = some r := by
  unfold Re_byteAt
  by_cases h : v < 0
  · exact ⟨_, if_pos h⟩
  · rw [if_neg h]
    by_cases k : rI x 2 1 ≤ v
    · exact ⟨_, if_pos k⟩
    · rw [if_neg k]
      rcases rng v (n := 1600) (by decide) with ⟨p, -⟩ | ⟨p, q, -⟩ | ⟨j, hj, rfl⟩
      · exact absurd p h
      · exact ⟨_, if_pos q⟩
      · rw [if_neg (show ¬ Int32.ofNat 1600 ≤ nI j from nI_ge (b := 1600) hj (by decide)), gd_in hj (by decide)]
        exact ⟨_, rfl⟩
/-- the class asks for a word also behind a fault -/
theorem Re_is_a (x : Mem) {j : Nat} (hj : j < 32) : Ok (Re_is 2 (1000 + j) x) (fun _ => True) := by
  obtain ⟨w1, w2, w3⟩ := words j hj
  unfold Re_is S_length
  by_cases h : rI x 2 7 = 1
  · refine Ok_it h ?_
    rw [bind_s]
    by_cases k : rI x 2 5 - rI x 2 6 = nI (sLen (1000 + j))
    · refine Ok_it k ?_
      have key : ∀ k i, i + k = sLen (1000 + j) → Ok (loop (fun s : Int32 => Re_is_l28 2 (1000 + j) s x) (nI i)) (fun _ => True) := by
        intro k
        induction k with
        | zero =>
          intro i hi
          rw [show i = sLen (1000 + j) by omega]
          refine Ok_e (loop_out (r := (1 : Int32)) ?_) trivial
          unfold Re_is_l28 S_length
          rw [bind_s, if_pos (nI_le (Nat.le_refl _) (by omega)), up_some]
        | succ k ih =>
          intro i hi
          obtain ⟨r, hr⟩ := Re_byteAt_a (rI x 2 6 + nI i) x
          by_cases q : r = sCh (1000 + j) i
          · rw [show loop (fun s : Int32 => Re_is_l28 2 (1000 + j) s x) (nI i) = loop (fun s : Int32 => Re_is_l28 2 (1000 + j) s x) (nI (i + 1)) from loop_in (by
              unfold Re_is_l28 S_length S_charAt
              rw [bind_s, if_neg (nI_ge (by omega) (by omega)), hr, bind_s, gd_in (by omega) (by omega), bind_s, ix_nI (by omega), if_pos q, nI_1])]
            exact ih (i + 1) (by omega)
          · refine Ok_e (loop_out (r := (0 : Int32)) ?_) trivial
            unfold Re_is_l28 S_length S_charAt
            rw [bind_s, if_neg (nI_ge (by omega) (by omega)), hr, bind_s, gd_in (by omega) (by omega), bind_s, ix_nI (by omega), if_neg q, up_some]
      exact key (sLen (1000 + j)) 0 (by omega)
    · exact Ok_if k (Ok_s trivial)
  · exact Ok_if h (Ok_s trivial)
/-- a number whose bound hangs on the line -/
theorem SW.numg (hT : TB L T) (S : SW L T lb x0 y0 kc ks ko Q x y) {lo hi : Nat} {a b a' b' : Int32} (h1 : lo ≤ 9999) (h2 : hi ≤ 9999) (h : GS L T lb x y → a = nI lo ∧ b = nI hi ∧ a' = nI lo ∧ b' = nI hi) : Ok2 (Re_takeNumber 2 a b x) (Mo_number 298 a' b' y) (SV L T lb x0 y0 kc ks ko Q lo hi) := by
  rcases id S.2.2.2.2 with ⟨G, -⟩ | B
  · obtain ⟨rfl, rfl, rfl, rfl⟩ := h G
    exact S.num hT h1 h2
  · unfold Re_takeNumber Mo_number Mo_number_b20 Mo_number_b47
    rw [if_neg (show ¬ rI x 2 3 = 0 from B.1), Mo_good_b B, bind_s, if_pos rfl, bind_s, if_pos rfl, bind_s, if_pos rfl]
    exact Ok2_s ⟨S.1, S.2.1, S.2.2.1, S.2.2.2.1, Or.inr B⟩
/-- a crack's row, from its place on -/
def crQ (Q : Wd → Nat → Prop) (c H : Nat) (W' : Wd) (o : Nat) : Prop := ∃ W n1 n2 n3 n4 n5 n6, Q W o ∧ (1 ≤ n1 ∧ n1 ≤ H - 1) ∧ n2 ≤ 500 ∧ n3 ≤ 99 ∧ n4 ≤ 99 ∧ n5 ≤ 99 ∧ n6 ≤ 1 ∧ W' = wu (wu (wu (wu (wu (wu (wu W (24 + 8 * c + 1) n1) (24 + 8 * c + 2) n2) (24 + 8 * c + 3) n3) (24 + 8 * c + 4) n4) (24 + 8 * c + 5) n5) (24 + 8 * c + 6) n6) 5 (c + 1)
theorem wu57 {i n : Nat} (h : 7 < i) : wu W i n 5 = W 5 ∧ wu W i n 6 = W 6 ∧ wu W i n 7 = W 7 := ⟨wu_o W (by omega) n, wu_o W (by omega) n, wu_o W (by omega) n⟩
theorem crackEnd (hT : TB L T) (S5 : SW L T lb x0 y0 6 0 0 Q x y) {c : Nat} (hc : c < 7) (q5 : ∀ W o, Q W o → W 5 = c ∧ W 5 ≤ 7 ∧ W 6 ≤ 6 ∧ W 7 ≤ 4) :
    Ok2 ((Re_is 2 1011 x).bind (fun r156 => if r156 = 0 then Re_readCrack_b170 2 r156 x else (Re_take 2 1011 x).bind (fun m167 => Re_readCrack_b170 2 r156 m167))) ((Mo_takes 298 1011 y).bind (fun r156 => if r156.1 = 0 then Mo_readCrack_b167 298 (nI (24 + 8 * c) + 6) 0 r156.2 else Mo_readCrack_b167 298 (nI (24 + 8 * c) + 6) 1 r156.2)) (SW L T lb x0 y0 0 0 0 (fun W' o => ∃ W n, Q W o ∧ n ≤ 1 ∧ W' = wu (wu W (24 + 8 * c + 6) n) 5 (c + 1))) := by
  have fin : ∀ {n : Nat} {p q : Int32} {x6 y6 : Mem}, n ≤ 1 → SV L T lb x0 y0 6 0 0 Q n n (p, x6) (q, y6) → Ok2 (Re_readCrack_b182 2 6 p x6) (Mo_readCrack_b167 298 (nI (24 + 8 * c) + 6) q y6) (SW L T lb x0 y0 0 0 0 (fun W' o => ∃ W n, Q W o ∧ n ≤ 1 ∧ W' = wu (wu W (24 + 8 * c + 6) n) 5 (c + 1))) := by
    intro n p q x6 y6 hn V6
    unfold Re_readCrack_b182 Mo_readCrack_b167
    refine V6.crk (c := c) (j := 6) hc (by decide) q5 rfl (nI_add _ 6) (fun x7 y7 S7 => ?_)
    refine Ok2_mono (S7.crkA hc ?_) (fun x8 y8 S8 => S8.mono ?_)
    · rintro W' o ⟨W, n6, q, -, -, rfl⟩
      obtain ⟨w5, w6, w7⟩ := wu57 (W := W) (n := n6) (i := 24 + 8 * c + 6) (by omega)
      rw [w5, w6, w7]
      exact q5 W o q
    · rintro W' o ⟨W7, ⟨W6, n6, q, a6, b6, rfl⟩, rfl⟩
      exact ⟨W6, n6, q, by omega, rfl⟩
  unfold Re_readCrack_b170
  rcases id S5.2.2.2.2 with ⟨G, -⟩ | B
  · obtain ⟨wc, hw⟩ := word2 hT S5.1 S5.2.1 G
    by_cases z : 11 = wc
    · subst z
      rw [show Re_is 2 1011 x = _ from hw.c 11 (by decide), if_pos rfl, bind_s, if_neg (show ¬ (1 : Int32) = 0 by decide)]
      have tk : Re_take 2 1011 x = (Re_next 2 x).bind (fun m17 => some m17) := by
        unfold Re_take
        rw [if_pos (show rI x 2 3 = 0 from G.1), show Re_is 2 1011 x = _ from hw.c 11 (by decide), if_pos rfl, bind_s, if_neg (by decide)]
      obtain ⟨z6, v6, f1, f2, k0, k1, k2, k3, k4, k5⟩ := hw.ty hT S5.1 S5.2.1 G (by decide)
      have S6 := S5.go k1 k2 k4.f k5.f (fun b => absurd G.1 b.1) (Or.inl k3)
      rw [tk, f1, bind_s, bind_s, if_neg (show ¬ (1 : Int32) = 0 by decide), show Mo_takes 298 1011 y = some v6 from f2, bind_s, if_neg (by rw [k0]; decide)]
      exact fin (n := 1) (by decide) (S6.con 1 1 1 (fun _ => ⟨rfl, rfl⟩))
    · rw [show Re_is 2 1011 x = _ from hw.c 11 (by decide), if_neg z, bind_s, if_pos rfl, if_pos rfl, show Mo_takes 298 1011 y = _ from hw.tn (j := 11) (by decide) z, bind_s, if_pos rfl]
      exact fin (n := 0) (by decide) (S5.con 0 0 0 (fun _ => ⟨rfl, rfl⟩))
  · obtain ⟨r, er, -⟩ := Re_is_a x (j := 11) (by decide)
    have mt : Mo_takes 298 1011 y = some (0, y) := by
      unfold Mo_takes
      rw [Mo_is_b B, bind_s, if_pos rfl, gd_t (by decide)]
    have ct : Re_take 2 1011 x = some x := if_neg B.1
    rw [show Re_is 2 1011 x = some r from er, bind_s, mt, bind_s, if_pos rfl, ct]
    by_cases z : r = 0
    · rw [if_pos z, if_pos z]
      exact fin (n := 0) (by decide) (S5.con 0 0 0 (fun _ => ⟨rfl, rfl⟩))
    · rw [if_neg z, bind_s, if_neg z]
      exact fin (n := 0) (by decide) (S5.con 0 1 0 (fun G => absurd G.1 B.1))
theorem crackRest (hT : TB L T) (S : SW L T lb x0 y0 1 0 0 Q x y) {c H : Nat} (hc : c < 7) (hQ : ∀ W o, Q W o → W 5 = c ∧ W 5 ≤ 7 ∧ W 6 ≤ 6 ∧ W 7 ≤ 4) (hH : 1 ≤ H ∧ H ≤ 12) {k4 k5 : Int32} (g5 : inb k5 200) (h : GS L T lb x y → k4 = nI H ∧ rI y 304 (ix k5) = nI H) :
    Ok2 (Re_readCrack_b88 2 1 1 k4 x) (Mo_readCrack_b69 298 (nI (24 + 8 * c)) (nI (24 + 8 * c) + 1) 1 k5 y) (SW L T lb x0 y0 0 0 0 (crQ Q c H)) := by
  have st : ∀ {R : Wd → Nat → Prop} {i lo hi : Nat}, 7 < i → (∀ W o, R W o → W 5 = c ∧ W 5 ≤ 7 ∧ W 6 ≤ 6 ∧ W 7 ≤ 4) → ∀ W' o, (∃ W n, R W o ∧ lo ≤ n ∧ n ≤ hi ∧ W' = wu W i n) → W' 5 = c ∧ W' 5 ≤ 7 ∧ W' 6 ≤ 6 ∧ W' 7 ≤ 4 := by
    rintro R i lo hi h7 hR W' o ⟨W, n, q, -, -, rfl⟩
    obtain ⟨w5, w6, w7⟩ := wu57 (W := W) (n := n) h7
    rw [w5, w6, w7]
    exact hR W o q
  have ad : ∀ k, nI (24 + 8 * c) + nI k = nI (24 + 8 * c + k) := fun k => nI_add _ _
  unfold Re_readCrack_b88 Mo_readCrack_b69
  rw [gd_t g5]
  refine Ok2_bind (S.numg (lo := 1) (hi := H - 1) hT (by omega) (by omega) (fun G => ⟨rfl, ?_, rfl, ?_⟩)) (fun u1 v1 V1 => ?_)
  · rw [(h G).1, nI_p1 hH.1]
  · rw [show rI y (298 + 6) (ix k5) = nI H from (h G).2, nI_p1 hH.1]
  refine V1.crk (c := c) (j := 1) hc (by decide) hQ rfl (ad 1) (fun x1 y1 S1 => ?_)
  have q1 := st (by omega) hQ (i := 24 + 8 * c + 1) (lo := 1) (hi := H - 1)
  refine Ok2_bind (S1.named hT 7 (by decide) 0 500 (by decide) (by decide)) (fun u2 v2 V2 => ?_)
  refine V2.crk (c := c) (j := 2) hc (by decide) q1 rfl (ad 2) (fun x2 y2 S2 => ?_)
  have q2 := st (by omega) q1 (i := 24 + 8 * c + 2) (lo := 0) (hi := 500)
  refine Ok2_bind (S2.named hT 8 (by decide) 0 99 (by decide) (by decide)) (fun u3 v3 V3 => ?_)
  refine V3.crk (c := c) (j := 3) hc (by decide) q2 rfl (ad 3) (fun x3 y3 S3 => ?_)
  have q3 := st (by omega) q2 (i := 24 + 8 * c + 3) (lo := 0) (hi := 99)
  refine Ok2_bind (S3.named hT 9 (by decide) 0 99 (by decide) (by decide)) (fun u4 v4 V4 => ?_)
  refine V4.crk (c := c) (j := 4) hc (by decide) q3 rfl (ad 4) (fun x4 y4 S4 => ?_)
  have q4 := st (by omega) q3 (i := 24 + 8 * c + 4) (lo := 0) (hi := 99)
  refine Ok2_bind (S4.named hT 10 (by decide) 0 99 (by decide) (by decide)) (fun u5 v5 V5 => ?_)
  refine V5.crk (c := c) (j := 5) hc (by decide) q4 rfl (ad 5) (fun x5 y5 S5 => ?_)
  have q5 := st (by omega) q4 (i := 24 + 8 * c + 5) (lo := 0) (hi := 99)
  refine Ok2_mono (crackEnd hT S5 hc q5) (fun x8 y8 S8 => S8.mono ?_)
  rintro W' o ⟨W6, n6, ⟨W5, n5, ⟨W4, n4, ⟨W3, n3, ⟨W2, n2, ⟨W1, n1, q, a1, b1, rfl⟩, a2, b2, rfl⟩, a3, b3, rfl⟩, a4, b4, rfl⟩, a5, b5, rfl⟩, b6, rfl⟩
  exact ⟨W1, n1, n2, n3, n4, n5, n6, q, ⟨a1, b1⟩, b2, b3, b4, b5, b6, rfl⟩
end CRACK
