/-! a camp is copied into another -/
def cpk (t v : Nat) (m : Mem) : Nat → Mem
  | 0 => m
  | k + 1 => wI (cpk t v m k) t k (rI (cpk t v m k) v k)
theorem cpk_e {t v : Nat} (m : Mem) (h : t ≠ v) : ∀ k, (∀ a, a ≠ t → (cpk t v m k).1 a = m.1 a) ∧ (cpk t v m k).2 = m.2 ∧ ∀ j, j < k → (cpk t v m k).1 t j = m.1 v j
  | 0 => ⟨fun _ _ => rfl, rfl, fun j hj => by omega⟩
  | k + 1 => by
    obtain ⟨a, b, c⟩ := cpk_e m h k
    refine ⟨fun z hz => ?_, b, fun j hj => ?_⟩
    · show (wI (cpk t v m k) t k (rI (cpk t v m k) v k)).1 z = _
      rw [wI_1 _ hz, a z hz]
    · show (wI (cpk t v m k) t k (rI (cpk t v m k) v k)).1 t j = _
      rw [wI_at]
      by_cases e : j = k
      · rw [if_pos e, e, show rI (cpk t v m k) v k = m.1 v k by rw [← a v (fun q => h q.symm)]]
      · rw [if_neg e, c j (by omega)]
section COPY
variable {m : Mem} {W : Wd}
theorem Ta_copyFrom_e {t v n k N : Nat} (a1 : al (t + 1) = n) (a2 : al (t + 2) = k) (b1 : al (v + 1) = n) (b2 : al (v + 2) = k) (hn : n < 100) (hk : k < 100) (hv : m.1 v 1 = nI N) (hN : N ≤ n) (hd : t + 2 + n ≤ v ∨ v + 2 + n ≤ t) :
    Ok (Ta_copyFrom t v m) (fun x => x.1 t 1 = nI N ∧ (∀ i j, i < N → j < k → x.1 (t + 2 + i) j = m.1 (v + 2 + i) j) ∧ Fp t (t + 2 + n) m x) := by
  unfold Ta_copyFrom
  have e0 : jmin (rI m v 1) (Int32.ofNat (al (t + 1))) = nI N := by
    rw [show rI m v 1 = nI N from hv, a1, show Int32.ofNat n = nI n from rfl, jmin_nI (by omega) (by omega), show min N n = N by omega]
  refine Ok_lt ?_
  rw [e0]
  refine Ok_for N (fun i x => x.1 t 1 = nI N ∧ (∀ r j, r < i → j < k → x.1 (t + 2 + r) j = m.1 (v + 2 + r) j) ∧ Fp t (t + 2 + n) m x) ⟨wI_self _ _ _ _, fun r j hr => by omega, Fp.wI (by omega) (by omega) _ _⟩ (fun i x hi ⟨p, q, F⟩ => ?_) (fun x hx => ?_)
  · show Ok (Ta_copyFrom_l18 t v (nI i) x) _
    unfold Ta_copyFrom_l18
    rw [show rI x t 1 = nI N from p, if_neg (nI_ge hi (by omega))]
    refine Ok_for k (fun j y => y.1 t 1 = nI N ∧ (∀ r s, r < i → s < k → y.1 (t + 2 + r) s = m.1 (v + 2 + r) s) ∧ (∀ s, s < j → y.1 (t + 2 + i) s = m.1 (v + 2 + i) s) ∧ Fp t (t + 2 + n) m y) ⟨p, q, fun s hs => by omega, F⟩ (fun j y hj ⟨p2, q2, r2, F2⟩ => ?_) (fun y ⟨p2, q2, r2, F2⟩ => ?_)
    · show Ok (Ta_copyFrom_l28 t v (nI i) (nI j) y) _
      unfold Ta_copyFrom_l28
      rw [a1, a2, show Int32.ofNat k = nI k from rfl]
      refine Ok_gd (in_nI (by omega) (by omega)) (Ok_if (nI_ge hj (by omega)) (Ok_gd (in_nI (by omega) (by omega)) (Ok_b (Ta_at_e y b1 b2 hn hk (by omega) hj) (Ok_gd (in_nI hj (by omega)) (Ok_lt ?_)))))
      rw [ix_nI (by omega), ix_nI (by omega), show t + 1 + (1 + i) = t + 2 + i by omega]
      refine Ok_s ⟨wI y (t + 2 + i) j (y.1 (v + 2 + i) j), by rw [nI_1], ?_, fun r s hr hs => ?_, fun s hs => ?_, F2.trans (Fp.wI (by omega) (by omega) _ _)⟩
      · rw [wI_o _ (by omega)]; exact p2
      · rw [wI_o _ (by omega)]; exact q2 r s hr hs
      · rw [wI_at]
        by_cases e : s = j
        · rw [if_pos e, e, F2.a (by omega)]
        · rw [if_neg e]; exact r2 s (by omega)
    · show Ok (Ta_copyFrom_l28 t v (nI i) (nI k) y) _
      unfold Ta_copyFrom_l28
      rw [a1, a2, show Int32.ofNat k = nI k from rfl]
      refine Ok_gd (in_nI (by omega) (by omega)) (Ok_it (nI_le (Nat.le_refl _) (by omega)) ?_)
      rw [up_some]
      refine Ok_s ⟨_, rfl, y, by rw [nI_1], p2, fun r s hr hs => ?_, F2⟩
      by_cases e : r = i
      · rw [e]; exact r2 s hs
      · exact q2 r s (by omega) hs
  · show Ok (Ta_copyFrom_l18 t v (nI N) x) _
    unfold Ta_copyFrom_l18
    rw [show rI x t 1 = nI N from hx.1, if_pos (nI_le (Nat.le_refl _) (by omega)), up_some]
    exact Ok_s ⟨_, rfl, hx⟩
/-- what a floe at f tells -/
def FlR (m : Mem) (f : Nat) (W : Wd) : Prop := (∀ j, j < 15 → m.1 f j = nI (W (fmap j))) ∧ m.1 (f + 1) 1 = nI (W 5) ∧ m.1 (f + 10) 1 = nI (W 6) ∧ m.1 (f + 18) 1 = nI (W 7) ∧
  (∀ i j, i < W 5 → j < 7 → m.1 (f + 3 + i) j = nI (wcr W i j)) ∧ (∀ i j, i < W 6 → j < 4 → m.1 (f + 12 + i) j = nI (wso W i j)) ∧ (∀ i j, i < W 7 → j < 3 → m.1 (f + 20 + i) j = nI (wot W i j))
def FlA (f : Nat) : Prop := al (f + 2) = 7 ∧ al (f + 3) = 7 ∧ al (f + 11) = 6 ∧ al (f + 12) = 4 ∧ al (f + 19) = 4 ∧ al (f + 20) = 3
theorem FlA.camp {c : Nat} (h : kd c = 1) : FlA (c + 1) := camp_al h
theorem FlA.draft : FlA 4 := by unfold FlA; decide +kernel
theorem Fl_copyFrom_e {f g : Nat} (hA : FlA f) (hB : FlA g) (h : FlR m g W) (d5 : W 5 ≤ 7) (d6 : W 6 ≤ 6) (d7 : W 7 ≤ 4) (hd : f + 24 ≤ g ∨ g + 24 ≤ f) : Ok (Fl_copyFrom f g m) (fun x => FlR x f W ∧ Fp f (f + 24) m x) := by
  obtain ⟨a1, a2, a3, a4, a5, a6⟩ := hA
  obtain ⟨b1, b2, b3, b4, b5, b6⟩ := hB
  obtain ⟨h0, h1, h2, h3, h4, h5, h6⟩ := h
  obtain ⟨c1, c2, c3⟩ := cpk_e m (t := f) (v := g) (by omega) 15
  have F0 : Fp f (f + 1) m (cpk f g m 15) := fun a ha => ⟨c1 a (by omega), by rw [c2]⟩
  show Ok ((Ta_copyFrom (f + 1) (g + 1) (cpk f g m 15)).bind (fun m128 => (Ta_copyFrom (f + 10) (g + 10) m128).bind (fun m139 => (Ta_copyFrom (f + 18) (g + 18) m139).bind (fun m150 => some m150)))) _
  refine Ok_bind (Ta_copyFrom_e (N := W 5) (t := f + 1) (v := g + 1) a1 a2 b1 b2 (by omega) (by omega) (by rw [F0.a (by omega), h1]) d5 (by omega)) (fun x ⟨x1, x2, F1⟩ => ?_)
  refine Ok_bind (Ta_copyFrom_e (N := W 6) (t := f + 10) (v := g + 10) a3 a4 b3 b4 (by omega) (by omega) (by rw [F1.a (by omega), F0.a (by omega), h2]) d6 (by omega)) (fun y ⟨y1, y2, F2⟩ => ?_)
  refine Ok_bind (Ta_copyFrom_e (N := W 7) (t := f + 18) (v := g + 18) a5 a6 b5 b6 (by omega) (by omega) (by rw [F2.a (by omega), F1.a (by omega), F0.a (by omega), h3]) d7 (by omega)) (fun z ⟨z1, z2, F3⟩ => ?_)
  refine Ok_s ⟨⟨fun j hj => ?_, ?_, ?_, z1, fun i j hi hj => ?_, fun i j hi hj => ?_, fun i j hi hj => ?_⟩, ((F0.wide (by omega) (by omega)).trans (F1.wide (by omega) (by omega))).trans ((F2.wide (by omega) (by omega)).trans (F3.wide (by omega) (by omega)))⟩
  · rw [F3.a (by omega), F2.a (by omega), F1.a (by omega), c3 j hj, h0 j hj]
  · rw [F3.a (by omega), F2.a (by omega), x1]
  · rw [F3.a (by omega), y1]
  · rw [F3.a (by omega), F2.a (by omega), show f + 3 + i = f + 1 + 2 + i by omega, x2 i j hi hj, show g + 1 + 2 + i = g + 3 + i by omega, F0.a (by omega), h4 i j hi hj]
  · rw [F3.a (by omega), show f + 12 + i = f + 10 + 2 + i by omega, y2 i j hi hj, show g + 10 + 2 + i = g + 12 + i by omega, F1.a (by omega), F0.a (by omega), h5 i j hi hj]
  · rw [show f + 20 + i = f + 18 + 2 + i by omega, z2 i j hi hj, show g + 18 + 2 + i = g + 20 + i by omega, F2.a (by omega), F1.a (by omega), F0.a (by omega), h6 i j hi hj]
/-- all but some places stay -/
def Bt (P : Nat → Prop) (m m' : Mem) : Prop := (∀ a, ¬ P a → m'.1 a = m.1 a) ∧ m'.2 = m.2
theorem Bt.refl {P : Nat → Prop} {m : Mem} : Bt P m m := ⟨fun _ _ => rfl, rfl⟩
theorem Bt.trans {P : Nat → Prop} {m m' m'' : Mem} (h : Bt P m m') (k : Bt P m' m'') : Bt P m m'' := ⟨fun a q => (k.1 a q).trans (h.1 a q), k.2.trans h.2⟩
theorem Bt.w {P : Nat → Prop} {m : Mem} {a : Nat} (h : P a) (i : Nat) (v : Int32) : Bt P m (wI m a i v) := ⟨fun b q => wI_1 m (fun e => q (by rw [e]; exact h)) v, rfl⟩
theorem Bt.mono {P Q : Nat → Prop} {m m' : Mem} (h : Bt P m m') (k : ∀ a, P a → Q a) : Bt Q m m' := ⟨fun a q => h.1 a (fun z => q (k a z)), h.2⟩
theorem Bt.a {P : Nat → Prop} {m m' : Mem} (h : Bt P m m') {a : Nat} (q : ¬ P a) (i : Nat) : m'.1 a i = m.1 a i := by rw [h.1 a q]
section CC
variable {c d : Nat} (hd : c + 41 ≤ d ∨ d + 41 ≤ c)
theorem cc4 (hd : c + 41 ≤ d ∨ d + 41 ≤ c) : Ok (loop (fun s : Int32 × Mem => Ca_copyFrom_l124 c d s.1 s.2) (0, m)) (fun x => Bt (fun a => a = c ∨ a = c + 39) m x ∧ x.1 c 7 = m.1 c 7 ∧ x.1 c 9 = m.1 d 9 ∧ ∀ i, i < 7 → x.1 (c + 39) i = m.1 (d + 39) i) := by
  refine Ok_for 7 (fun i x => Bt (fun a => a = c + 39) m x ∧ ∀ k, k < i → x.1 (c + 39) k = m.1 (d + 39) k) ⟨Bt.refl, fun k hk => by omega⟩ (fun i x hi ⟨F, p⟩ => ?_) (fun x ⟨F, p⟩ => ?_)
  · show Ok (Ca_copyFrom_l124 c d (nI i) x) _
    unfold Ca_copyFrom_l124
    refine Ok_if (show ¬ (7 : Int32) ≤ nI i from nI_ge (b := 7) hi (by decide)) (Ok_gd (in_nI hi (by decide)) (Ok_gd (in_nI hi (by decide)) (Ok_lt ?_)))
    rw [ix_nI (by omega)]
    refine Ok_s ⟨wI x (c + 39) i (rI x (d + 39) i), by rw [nI_1], F.trans (Bt.w (P := fun a => a = c + 39) rfl _ _), fun k hk => ?_⟩
    rw [wI_at]
    by_cases e : k = i
    · rw [if_pos e, e]; exact F.a (by omega) _
    · rw [if_neg e]; exact p k (by omega)
  · show Ok (Ca_copyFrom_l124 c d (nI 7) x) _
    unfold Ca_copyFrom_l124
    refine Ok_it (show (7 : Int32) ≤ nI 7 by decide) (Ok_up (P := fun y => Bt (fun a => a = c ∨ a = c + 39) m y ∧ y.1 c 7 = m.1 c 7 ∧ y.1 c 9 = m.1 d 9 ∧ ∀ i, i < 7 → y.1 (c + 39) i = m.1 (d + 39) i) (Ok_lt (Ok_s ⟨(F.mono (fun a h => Or.inr h)).trans (Bt.w (Or.inl rfl) _ _), ?_, ?_, fun i hi => ?_⟩)) (fun y hy => ⟨y, rfl, hy⟩))
    · rw [wI_at, if_neg (by decide)]; exact F.a (by omega) _
    · rw [wI_self]; exact F.a (by omega) _
    · rw [wI_o _ (by omega)]; exact p i hi
theorem cc3 (hd : c + 41 ≤ d ∨ d + 41 ≤ c) : Ok (loop (fun s : Int32 × Mem => Ca_copyFrom_l74 c d s.1 s.2) (0, m)) (fun x => Bt (fun a => a = c ∨ (c + 36 ≤ a ∧ a ≤ c + 39)) m x ∧ x.1 c 7 = m.1 d 7 ∧ x.1 c 9 = m.1 d 9 ∧ (∀ i, i < 7 → x.1 (c + 39) i = m.1 (d + 39) i) ∧
    ∀ g, g < 4 → x.1 (c + 36) g = m.1 (d + 36) g ∧ x.1 (c + 37) g = m.1 (d + 37) g ∧ x.1 (c + 38) g = m.1 (d + 38) g) := by
  refine Ok_for 4 (fun i x => Bt (fun a => c + 36 ≤ a ∧ a ≤ c + 38) m x ∧ ∀ g, g < i → x.1 (c + 36) g = m.1 (d + 36) g ∧ x.1 (c + 37) g = m.1 (d + 37) g ∧ x.1 (c + 38) g = m.1 (d + 38) g) ⟨Bt.refl, fun k hk => by omega⟩ (fun i x hi ⟨F, p⟩ => ?_) (fun x ⟨F, p⟩ => ?_)
  · show Ok (Ca_copyFrom_l74 c d (nI i) x) _
    unfold Ca_copyFrom_l74
    refine Ok_if (show ¬ (4 : Int32) ≤ nI i from nI_ge (b := 4) hi (by decide)) (Ok_gd (in_nI hi (by decide)) (Ok_gd (in_nI hi (by decide)) (Ok_b (Ca_placeGroup_e hi _ _) (Ok_gd (in_nI hi (by decide)) (Ok_gd (in_nI hi (by decide)) (Ok_lt ?_))))))
    rw [ix_nI (by omega)]
    refine Ok_s ⟨_, by rw [nI_1], F.trans (((Bt.w (by omega) _ _).trans (Bt.w (by omega) _ _)).trans (Bt.w (by omega) _ _)), fun g hg => ?_⟩
    by_cases e : g = i
    · subst e
      rw [wI_o _ (by omega), wI_o _ (by omega), wI_self, wI_o _ (by omega), wI_self, wI_self]
      refine ⟨F.a (by omega) _, F.a (by omega) _, ?_⟩
      show (wI (wI x (c + 36) g (rI x (d + 36) g)) (c + 37) g (rI x (d + 37) g)).1 (d + 38) g = _
      rw [wI_o _ (by omega), wI_o _ (by omega), F.a (by omega)]
    · rw [wI_o _ (by omega), wI_o _ (by omega), wI_at, if_neg e, wI_o _ (by omega), wI_at, if_neg e, wI_o _ (by omega), wI_at, if_neg e, wI_o _ (by omega), wI_o _ (by omega)]
      exact p g (by omega)
  · show Ok (Ca_copyFrom_l74 c d (nI 4) x) _
    unfold Ca_copyFrom_l74
    refine Ok_it (show (4 : Int32) ≤ nI 4 by decide) (Ok_up (Ok_lt (cc4 hd)) (fun y ⟨B, y7, y9, yi⟩ => ⟨y, rfl, ?_, ?_, ?_, fun i hi => ?_, fun g hg => ?_⟩))
    · exact (F.mono (fun a h => by omega)).trans (((Bt.w (Or.inl rfl) _ _)).trans (B.mono (fun a h => by omega)))
    · rw [y7, wI_self]; exact F.a (by omega) _
    · rw [y9, wI_o _ (by omega), F.a (by omega)]
    · rw [yi i hi, wI_o _ (by omega), F.a (by omega)]
    · rw [B.a (by omega), B.a (by omega), B.a (by omega), wI_o _ (by omega), wI_o _ (by omega), wI_o _ (by omega)]
      exact p g hg
theorem Ca_copyFrom_e (hd : c + 41 ≤ d ∨ d + 41 ≤ c) (hc : kd c = 1) (R : CR m d W) (I : Inv W) : Ok (Ca_copyFrom c d m) (fun x => CR x c W ∧ Fp c (c + 40) m x) := by
  have dd := I.d
  obtain ⟨k, r1, r2, r3, r4, r5, r6, r7, r8, r9, r10, r11, r12, r13⟩ := R
  unfold Ca_copyFrom
  refine Ok_bind (Fl_copyFrom_e (W := W) (FlA.camp hc) (FlA.camp k) ⟨r1, r2, r3, r4, fun i j hi hj => ?_, fun i j hi hj => ?_, fun i j hi hj => ?_⟩ (by omega) (by omega) (by omega) (by omega)) (fun x ⟨fr, F0⟩ => ?_)
  · rw [show d + 1 + 3 + i = d + 4 + i by omega, r5 i j hi hj]
  · rw [show d + 1 + 12 + i = d + 13 + i by omega, r6 i j hi hj]
  · rw [show d + 1 + 20 + i = d + 21 + i by omega, r7 i j hi hj]
  refine Ok_for 8 (fun i y => Bt (fun a => c + 25 ≤ a ∧ a ≤ c + 35) x y ∧ (∀ h, h < i → y.1 (c + 25) h = x.1 (d + 25) h ∧ y.1 (c + 26) h = x.1 (d + 26) h) ∧ ∀ h s, h < i → s < 6 → y.1 (c + 28 + h) s = x.1 (d + 28 + h) s) ⟨Bt.refl, fun k hk => by omega, fun h s hh => by omega⟩ (fun i y hi ⟨B, p, q⟩ => ?_) (fun y ⟨B, p, q⟩ => ?_)
  · show Ok (Ca_copyFrom_l13 c d (nI i) y) _
    unfold Ca_copyFrom_l13
    refine Ok_if (show ¬ (8 : Int32) ≤ nI i from nI_ge (b := 8) hi (by decide)) (Ok_gd (in_nI hi (by decide)) (Ok_gd (in_nI hi (by decide)) (Ok_b (Ca_placeHeap_e hi _ _) ?_)))
    rw [ix_nI (by omega)]
    have B1 : Bt (fun a => c + 25 ≤ a ∧ a ≤ c + 35) y (wI (wI y (c + 25) i (rI y (d + 25) i)) (c + 26) i (rI y (d + 26) i)) := (Bt.w (by omega) _ _).trans (Bt.w (by omega) _ _)
    refine Ok_for 6 (fun j z => Bt (fun a => a = c + 28 + i) (wI (wI y (c + 25) i (rI y (d + 25) i)) (c + 26) i (rI y (d + 26) i)) z ∧ ∀ s, s < j → z.1 (c + 28 + i) s = x.1 (d + 28 + i) s) ⟨Bt.refl, fun s hs => by omega⟩ (fun j z hj ⟨B2, p2⟩ => ?_) (fun z ⟨B2, p2⟩ => ?_)
    · show Ok (Ca_copyFrom_l38 c d (nI i) (nI j) z) _
      unfold Ca_copyFrom_l38
      refine Ok_if (show ¬ (6 : Int32) ≤ nI j from nI_ge (b := 6) hj (by decide)) (Ok_gd (in_nI hi (by decide)) (Ok_gd (in_nI hi (by decide)) (Ok_gd (in_nI hj (by decide)) (Ok_gd (in_nI hj (by decide)) (Ok_lt ?_)))))
      rw [ix_nI (by omega), ix_nI (by omega), show c + 27 + (1 + i) = c + 28 + i by omega, show d + 27 + (1 + i) = d + 28 + i by omega]
      refine Ok_s ⟨_, by rw [nI_1], B2.trans (Bt.w (P := fun a => a = c + 28 + i) rfl _ _), fun s hs => ?_⟩
      rw [wI_at]
      by_cases e : s = j
      · rw [if_pos e, e]
        show z.1 (d + 28 + i) j = _
        rw [B2.a (by omega), B1.a (by omega), B.a (by omega)]
      · rw [if_neg e]; exact p2 s (by omega)
    · show Ok (Ca_copyFrom_l38 c d (nI i) (nI 6) z) _
      unfold Ca_copyFrom_l38
      refine Ok_it (show (6 : Int32) ≤ nI 6 by decide) ?_
      rw [up_some]
      refine Ok_s ⟨_, rfl, z, by rw [nI_1], B.trans (B1.trans (B2.mono (fun a h => by omega))), fun h hh => ?_, fun h s hh hs => ?_⟩
      · rw [B2.a (by omega), B2.a (by omega)]
        by_cases e : h = i
        · subst e
          rw [wI_o _ (by omega), wI_self, wI_self]
          exact ⟨B.a (by omega) _, B.a (by omega) _⟩
        · rw [wI_o _ (by omega), wI_at, if_neg e, wI_at, if_neg e, wI_o _ (by omega)]
          exact p h (by omega)
      · by_cases e : h = i
        · rw [e]; exact p2 s hs
        · rw [B2.a (by omega), wI_o _ (by omega), wI_o _ (by omega)]
          exact q h s (by omega) hs
  · show Ok (Ca_copyFrom_l13 c d (nI 8) y) _
    unfold Ca_copyFrom_l13
    have y0 : ∀ a i, (a < c + 25 ∨ c + 35 < a) → y.1 a i = x.1 a i := fun a i ha => B.a (by omega) _
    have x0 : ∀ a i, (a ≤ c ∨ c + 25 ≤ a) → x.1 a i = m.1 a i := fun a i ha => F0.a (by omega) _
    refine Ok_it (show (8 : Int32) ≤ nI 8 by decide) (Ok_up (cc3 hd) (fun z ⟨B3, z7, z9, zi, zg⟩ => ⟨z, rfl, ⟨hc, fun j hj => ?_, ?_, ?_, ?_, fun i j hi hj => ?_, fun i j hi hj => ?_, fun i j hi hj => ?_, fun h hh => ?_, fun h s hh hs => ?_, fun g hg => ?_, ?_, ?_, fun i hi => ?_⟩, ?_⟩))
    · rw [B3.a (by omega), y0 _ _ (by omega), fr.1 j hj]
    · rw [B3.a (by omega), y0 _ _ (by omega)]; exact fr.2.1
    · rw [B3.a (by omega), y0 _ _ (by omega)]; exact fr.2.2.1
    · rw [B3.a (by omega), y0 _ _ (by omega)]; exact fr.2.2.2.1
    · rw [B3.a (by omega), y0 _ _ (by omega), show c + 4 + i = c + 1 + 3 + i by omega, fr.2.2.2.2.1 i j hi hj]
    · rw [B3.a (by omega), y0 _ _ (by omega), show c + 13 + i = c + 1 + 12 + i by omega, fr.2.2.2.2.2.1 i j hi hj]
    · rw [B3.a (by omega), y0 _ _ (by omega), show c + 21 + i = c + 1 + 20 + i by omega, fr.2.2.2.2.2.2 i j hi hj]
    · rw [B3.a (by omega), B3.a (by omega), (p h hh).1, (p h hh).2, x0 _ _ (by omega), x0 _ _ (by omega)]
      exact r8 h hh
    · rw [B3.a (by omega), q h s hh hs, x0 _ _ (by omega), r9 h s hh hs]
    · rw [(zg g hg).1, (zg g hg).2.1, (zg g hg).2.2, y0 _ _ (by omega), y0 _ _ (by omega), y0 _ _ (by omega), x0 _ _ (by omega), x0 _ _ (by omega), x0 _ _ (by omega)]
      exact r10 g hg
    · rw [z7, y0 _ _ (by omega), x0 _ _ (by omega), r11]
    · rw [z9, y0 _ _ (by omega), x0 _ _ (by omega), r12]
    · rw [zi i hi, y0 _ _ (by omega), x0 _ _ (by omega), r13 i hi]
    · intro a ha
      rw [B3.1 a (by omega), B.1 a (by omega), B3.2, B.2]
      exact F0 a (by omega)
end CC
end COPY
