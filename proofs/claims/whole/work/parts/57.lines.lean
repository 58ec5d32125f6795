/-! lines: the class's draft and the reference's fresh floe -/
section LINES
def FD (x : Mem) (W : Wd) (kc ks ko : Nat) : Prop := (∀ j, j < 15 → x.1 4 j = nI (W (fmap j))) ∧ x.1 5 1 = nI (W 5) ∧ x.1 14 1 = nI (W 6) ∧ x.1 22 1 = nI (W 7) ∧
  (∀ i j, (i < W 5 ∧ j < 7) ∨ (i = W 5 ∧ j < kc) → x.1 (7 + i) j = nI (wcr W i j)) ∧ (∀ i j, (i < W 6 ∧ j < 4) ∨ (i = W 6 ∧ j < ks) → x.1 (16 + i) j = nI (wso W i j)) ∧ ∀ i j, (i < W 7 ∧ j < 3) ∨ (i = W 7 ∧ j < ko) → x.1 (24 + i) j = nI (wot W i j)
def FM (y : Mem) (W : Wd) : Prop := ∀ i, i < 200 → i ≠ 20 → y.1 304 i = nI (W i)
def CFr (x x' : Mem) : Prop := (∀ a, a < 2 ∨ a = 3 ∨ 28 ≤ a → x'.1 a = x.1 a ∧ x'.2 a = x.2 a) ∧ x'.1 2 1 = x.1 2 1
def MFr (y y' : Mem) : Prop := (∀ a, a ≠ 298 → a ≠ 304 → y'.1 a = y.1 a ∧ y'.2 a = y.2 a) ∧ (∀ j, j < 8 ∨ 13 < j → y'.1 298 j = y.1 298 j) ∧ y'.2 298 = y.2 298
theorem CFr.trans {x x' x'' : Mem} (h : CFr x x') (k : CFr x' x'') : CFr x x'' := ⟨fun a q => ⟨(k.1 a q).1.trans (h.1 a q).1, (k.1 a q).2.trans (h.1 a q).2⟩, k.2.trans h.2⟩
theorem MFr.trans {y y' y'' : Mem} (h : MFr y y') (k : MFr y' y'') : MFr y y'' := ⟨fun a q r => ⟨(k.1 a q r).1.trans (h.1 a q r).1, (k.1 a q r).2.trans (h.1 a q r).2⟩, fun j q => (k.2.1 j q).trans (h.2.1 j q), k.2.2.trans h.2.2⟩
theorem NF.c {x x' : Mem} (h : NF x x') : CFr x x' := ⟨fun a q => h.2 a (by omega), h.1 1 (by omega)⟩
theorem AF.m {y y' : Mem} (h : AF y y') : MFr y y' := ⟨fun a q _ => h.2.2 a (by omega), h.1, h.2.1⟩
theorem CFr.w {x : Mem} {a : Nat} (h1 : 4 ≤ a) (h2 : a < 28) (i : Nat) (v : Int32) : CFr x (wI x a i v) := ⟨fun b q => ⟨wI_1 x (by omega) v, rfl⟩, wI_o x (by omega) _ _⟩
theorem MFr.w {y : Mem} (i : Nat) (v : Int32) : MFr y (wI y 304 i v) := ⟨fun b _ q => ⟨wI_1 y q v, rfl⟩, fun j _ => wI_o y (by decide) _ _, rfl⟩
theorem Ok2_w {A B : Type} {c : Prop} [Decidable c] {a b : Mem} {k : Mem → Option A} {l : Mem → Option B} {P : A → B → Prop} (hc : c) (h : Ok2 (k a) (l b) P) : Ok2 (lt a k) (gd c (lt b l)) P := by
  rw [gd_t hc]
  exact h
section LNS
variable {L lb : Nat} {T : Nat → Int32} {x y x0 y0 x' y' : Mem} {kc ks ko : Nat} {Q : Wd → Nat → Prop} {W : Wd}
theorem CK.cf (K : CK L T x) (h : CFr x x') : CK L T x' := ⟨by rw [h.2, K.1], fun i hi => by rw [(h.1 3 (by omega)).1, K.2 i hi]⟩
theorem MK.mf (K : MK L T y) (h : MFr y y') : MK L T y' := ⟨by rw [h.2.1 7 (by omega), K.1], fun i hi => by rw [(h.1 302 (by omega) (by omega)).1, K.2 i hi]⟩
def SW (L : Nat) (T : Nat → Int32) (lb : Nat) (x0 y0 : Mem) (kc ks ko : Nat) (Q : Wd → Nat → Prop) (x y : Mem) : Prop :=
  CK L T x ∧ MK L T y ∧ CFr x0 x ∧ MFr y0 y ∧ ((GS L T lb x y ∧ ∃ W o, Q W o ∧ o < 64 ∧ FD x W kc ks ko ∧ FM y W ∧ x.1 2 9 = nI o ∧ y.1 304 20 = nI o) ∨ BS x y)
def SV (L : Nat) (T : Nat → Int32) (lb : Nat) (x0 y0 : Mem) (kc ks ko : Nat) (Q : Wd → Nat → Prop) (lo hi : Nat) (u v : Int32 × Mem) : Prop :=
  CK L T u.2 ∧ MK L T v.2 ∧ CFr x0 u.2 ∧ MFr y0 v.2 ∧ ((GS L T lb u.2 v.2 ∧ ∃ W o n, Q W o ∧ o < 64 ∧ FD u.2 W kc ks ko ∧ FM v.2 W ∧ u.2.1 2 9 = nI o ∧ v.2.1 304 20 = nI o ∧ lo ≤ n ∧ n ≤ hi ∧ u.1 = nI n ∧ v.1 = nI n) ∨ BS u.2 v.2)
theorem FD.nf (h : FD x W kc ks ko) (n : NF x x') : FD x' W kc ks ko := by
  have e : ∀ a, 4 ≤ a → x'.1 a = x.1 a := fun a ha => (n.2 a (by omega)).1
  obtain ⟨h0, h1, h2, h3, h4, h5, h6⟩ := h
  exact ⟨fun j hj => by rw [e 4 (by omega), h0 j hj], by rw [e 5 (by omega), h1], by rw [e 14 (by omega), h2], by rw [e 22 (by omega), h3], fun i j q => by rw [e _ (by omega), h4 i j q], fun i j q => by rw [e _ (by omega), h5 i j q], fun i j q => by rw [e _ (by omega), h6 i j q]⟩
theorem FM.af (h : FM y W) (n : AF y y') : FM y' W := fun i hi q => by rw [(n.2.2 304 (by omega)).1, h i hi q]
theorem SW.rx (S : SW L T lb x0 y0 kc ks ko Q x y) : RX L T lb x y := ⟨S.1, S.2.1, S.2.2.2.2.imp (fun z => z.1) id⟩
theorem SW.go (S : SW L T lb x0 y0 kc ks ko Q x y) (K : CK L T x') (M : MK L T y') (n : NF x x') (a : AF y y') (hb : BS x y → BS x' y') (h : GS L T lb x' y' ∨ BS x' y') : SW L T lb x0 y0 kc ks ko Q x' y' := by
  obtain ⟨-, -, c, d, s⟩ := S
  refine ⟨K, M, c.trans n.c, d.trans a.m, ?_⟩
  rcases s with ⟨-, W, o, q, ol, f, g, e1, e2⟩ | b
  · rcases h with h | h
    · exact Or.inl ⟨h, W, o, q, ol, f.nf n, g.af a, by rw [n.1 9 (by omega), e1], by rw [(a.2.2 304 (by omega)).1, e2]⟩
    · exact Or.inr h
  · exact Or.inr (hb b)
theorem SW.take (hT : TB L T) (S : SW L T lb x0 y0 kc ks ko Q x y) {j : Nat} (hj : j < 32) : Ok2 (Re_take 2 (1000 + j) x) (Mo_needs 298 (1000 + j) y) (SW L T lb x0 y0 kc ks ko Q) :=
  Ok2_mono (take2 hT S.rx hj) (fun x' y' ⟨K, M, n, a, hb, h⟩ => S.go K M n a hb (h.imp (fun z => z.1) id))
theorem SW.val (S : SW L T lb x0 y0 kc ks ko Q x y) {lo hi : Nat} {u v : Int32 × Mem} (R : R3 L T lb lo hi x y u v) : SV L T lb x0 y0 kc ks ko Q lo hi u v := by
  obtain ⟨K, M, n, a, hb, h⟩ := R
  obtain ⟨-, -, c, d, s⟩ := S
  refine ⟨K, M, c.trans n.c, d.trans a.m, ?_⟩
  rcases s with ⟨-, W, o, q, ol, f, g, e1, e2⟩ | b
  · rcases h with ⟨h, k, k1, k2, k3, k4⟩ | h
    · exact Or.inl ⟨h, W, o, k, q, ol, f.nf n, g.af a, by rw [n.1 9 (by omega), e1], by rw [(a.2.2 304 (by omega)).1, e2], k1, k2, k3, k4⟩
    · exact Or.inr h
  · exact Or.inr (hb b)
theorem SW.num (hT : TB L T) (S : SW L T lb x0 y0 kc ks ko Q x y) {lo hi : Nat} (h1 : lo ≤ 9999) (h2 : hi ≤ 9999) : Ok2 (Re_takeNumber 2 (nI lo) (nI hi) x) (Mo_number 298 (nI lo) (nI hi) y) (SV L T lb x0 y0 kc ks ko Q lo hi) :=
  Ok2_mono (num2 hT S.rx h1 h2) (fun _ _ R => S.val R)
theorem SW.named (hT : TB L T) (S : SW L T lb x0 y0 kc ks ko Q x y) (j : Nat) (hj : j < 32) (lo hi : Nat) (h1 : lo ≤ 9999) (h2 : hi ≤ 9999) : Ok2 (Re_named 2 (1000 + j) (nI lo) (nI hi) x) (Mo_told 298 (1000 + j) (nI lo) (nI hi) y) (SV L T lb x0 y0 kc ks ko Q lo hi) :=
  Ok2_mono (named2 hT S.rx hj h1 h2) (fun _ _ R => S.val R)
theorem BS.w {a b i j : Nat} {p q : Int32} (B : BS x y) (ha : a ≠ 2) (hb : b ≠ 298) : BS (wI x a i p) (wI y b j q) := by
  obtain ⟨b1, b2, b3⟩ := B
  refine ⟨?_, ?_, ?_⟩
  · rw [wI_o _ (Ne.symm ha)]; exact b1
  · rw [wI_o _ (Ne.symm ha), wI_o _ (Ne.symm hb)]; exact b2
  · rw [wI_o _ (Ne.symm ha), wI_o _ (Ne.symm hb)]; exact b3
theorem GS.w {a b i j : Nat} {p q : Int32} (G : GS L T lb x y) (ha : a ≠ 2) (hb : b ≠ 298) : GS L T lb (wI x a i p) (wI y b j q) := by
  have e1 : (wI x a i p).1 2 = x.1 2 := wI_1 x (Ne.symm ha) p
  have e2 : (wI y b j q).1 298 = y.1 298 := wI_1 y (Ne.symm hb) q
  unfold GS
  rw [e1, e2]
  exact G
theorem fmap_i : ∀ j, j < 15 → ∀ k, k < 15 → fmap k = fmap j → k = j := by decide
theorem fmap_n : ∀ j, j < 15 → fmap j ≠ 5 ∧ fmap j ≠ 6 ∧ fmap j ≠ 7 ∧ fmap j < 18 := by decide
/-- a plain field is told -/
theorem SV.fld {lo hi : Nat} {u v : Int32 × Mem} (V : SV L T lb x0 y0 kc ks ko Q lo hi u v) (j : Nat) (hj : j < 15) : SW L T lb x0 y0 kc ks ko (fun W' o => ∃ W n, Q W o ∧ lo ≤ n ∧ n ≤ hi ∧ W' = wu W (fmap j) n) (wI u.2 4 j u.1) (wI v.2 304 (fmap j) v.1) := by
  obtain ⟨K, M, c, d, s⟩ := V
  have f1 := CFr.w (x := u.2) (a := 4) (by decide) (by decide) j u.1
  have f2 := MFr.w (y := v.2) (fmap j) v.1
  refine ⟨K.cf f1, M.mf f2, c.trans f1, d.trans f2, ?_⟩
  rcases s with ⟨G, W, o, n, q, ol, f, g, e1, e2, n1, n2, n3, n4⟩ | b
  · obtain ⟨p5, p6, p7, p18⟩ := fmap_n j hj
    refine Or.inl ⟨G.w (by decide) (by decide), wu W (fmap j) n, o, ⟨W, n, q, n1, n2, rfl⟩, ol, ?_, fun i hi h20 => ?_, ?_, ?_⟩
    · obtain ⟨h0, h1, h2, h3, h4, h5, h6⟩ := f
      have w5 : wu W (fmap j) n 5 = W 5 := wu_o W (Ne.symm p5) n
      have w6 : wu W (fmap j) n 6 = W 6 := wu_o W (Ne.symm p6) n
      have w7 : wu W (fmap j) n 7 = W 7 := wu_o W (Ne.symm p7) n
      unfold FD
      rw [w5, w6, w7]
      refine ⟨fun k hk => ?_, ?_, ?_, ?_, fun i k z => ?_, fun i k z => ?_, fun i k z => ?_⟩
      · rw [wI_at]
        by_cases z : k = j
        · rw [if_pos z, z, wu_s, n3]
        · rw [if_neg z, wu_o W (fun w => z (fmap_i j hj k hk w)), h0 k hk]
      · rw [wI_o _ (by decide), h1]
      · rw [wI_o _ (by decide), h2]
      · rw [wI_o _ (by decide), h3]
      · rw [wI_o _ (by omega), h4 i k z]
        exact congrArg nI (wu_o W (by omega) n).symm
      · rw [wI_o _ (by omega), h5 i k z]
        exact congrArg nI (wu_o W (by omega) n).symm
      · rw [wI_o _ (by omega), h6 i k z]
        exact congrArg nI (wu_o W (by omega) n).symm
    · rw [wI_at]
      by_cases z : i = fmap j
      · rw [if_pos z, z, wu_s, n4]
      · rw [if_neg z, wu_o W z, g i hi h20]
    · rw [wI_o _ (by decide), e1]
    · rw [wI_at, if_neg (by omega), e2]
  · exact Or.inr (b.w (by decide) (by decide))
theorem SW.mono {R : Wd → Nat → Prop} (S : SW L T lb x0 y0 kc ks ko Q x y) (h : ∀ W o, Q W o → R W o) : SW L T lb x0 y0 kc ks ko R x y := by
  obtain ⟨a, b, c, d, s⟩ := S
  refine ⟨a, b, c, d, s.imp (fun ⟨g, W, o, q, r⟩ => ⟨g, W, o, h W o q, r⟩) id⟩
/-- the first line -/
theorem readFloe2 (hT : TB L T) (S : SW L T lb x0 y0 kc ks ko Q x y) : Ok2 (Re_readFloe 2 x) (Mo_readFloe 298 y) (SW L T lb x0 y0 kc ks ko (fun W' o => ∃ W a b c d, Q W o ∧ (2 ≤ a ∧ a ≤ 12) ∧ (2 ≤ b ∧ b ≤ 12) ∧ (1 ≤ c ∧ c ≤ 28) ∧ (1 ≤ d ∧ d ≤ 60) ∧ W' = wu (wu (wu (wu W 1 a) 2 b) 3 c) 4 d)) := by
  unfold Re_readFloe Mo_readFloe
  refine Ok2_bind (S.take hT (j := 0) (by decide)) (fun x1 y1 S1 => ?_)
  refine Ok2_bind (S1.named hT 1 (by decide) 2 12 (by decide) (by decide)) (fun u1 v1 V1 => Ok2_w (by decide) ?_)
  refine Ok2_bind ((V1.fld 0 (by decide)).named hT 2 (by decide) 2 12 (by decide) (by decide)) (fun u2 v2 V2 => Ok2_w (by decide) ?_)
  refine Ok2_bind ((V2.fld 1 (by decide)).named hT 3 (by decide) 1 28 (by decide) (by decide)) (fun u3 v3 V3 => Ok2_w (by decide) ?_)
  refine Ok2_bind ((V3.fld 2 (by decide)).named hT 4 (by decide) 1 60 (by decide) (by decide)) (fun u4 v4 V4 => Ok2_w (by decide) ?_)
  refine Ok2_s ((V4.fld 3 (by decide)).mono ?_)
  rintro W' o ⟨W4, d, ⟨W3, c, ⟨W2, b, ⟨W1, a, q, a1, a2, rfl⟩, b1, b2, rfl⟩, c1, c2, rfl⟩, d1, d2, rfl⟩
  exact ⟨W1, a, b, c, d, q, ⟨a1, a2⟩, ⟨b1, b2⟩, ⟨c1, c2⟩, ⟨d1, d2⟩, rfl⟩
end LNS
end LINES
