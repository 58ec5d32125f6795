/-! what a call changes on both sides: the world and the camp, told anew -/
def wu (W : Wd) (i v : Nat) : Wd := fun j => if j = i then v else W j
theorem wu_s (W : Wd) (i v : Nat) : wu W i v i = v := if_pos rfl
theorem wu_o (W : Wd) {i j : Nat} (h : j ≠ i) (v : Nat) : wu W i v j = W j := if_neg h
def FpC (m m' : Mem) : Prop := ∀ a, a < 28 ∨ (69 ≤ a ∧ a < 203) ∨ 298 ≤ a → m'.1 a = m.1 a ∧ m'.2 a = m.2 a
def FpM (m m' : Mem) : Prop := ∀ a, a < 299 ∨ (300 ≤ a ∧ a < 303) ∨ (314 ≤ a ∧ a < 317) → m'.1 a = m.1 a ∧ m'.2 a = m.2 a
theorem FpC.refl {m : Mem} : FpC m m := fun _ _ => ⟨rfl, rfl⟩
theorem FpM.refl {m : Mem} : FpM m m := fun _ _ => ⟨rfl, rfl⟩
theorem FpC.trans {m m' m'' : Mem} (h : FpC m m') (k : FpC m' m'') : FpC m m'' := fun a q => ⟨(k a q).1.trans (h a q).1, (k a q).2.trans (h a q).2⟩
theorem FpM.trans {m m' m'' : Mem} (h : FpM m m') (k : FpM m' m'') : FpM m m'' := fun a q => ⟨(k a q).1.trans (h a q).1, (k a q).2.trans (h a q).2⟩
theorem Fp.C {lo hi : Nat} {m m' : Mem} (F : Fp lo hi m m') (h : (28 ≤ lo ∧ hi ≤ 69) ∨ (203 ≤ lo ∧ hi ≤ 298)) : FpC m m' := fun a q => F a (by omega)
theorem Fp.M {lo hi : Nat} {m m' : Mem} (F : Fp lo hi m m') (h : (299 ≤ lo ∧ hi ≤ 300) ∨ (303 ≤ lo ∧ hi ≤ 314)) : FpM m m' := fun a q => F a (by omega)
section WR
variable {m m' : Mem} {c : Nat} {W W' : Wd}
theorem CR.eq (R : CR m c W) (I : Inv W) (e : ∀ a, c ≤ a → a < c + 40 → m'.1 a = m.1 a) : CR m' c W := by
  have d := I.d
  obtain ⟨k, r1, r2, r3, r4, r5, r6, r7, r8, r9, r10, r11, r12, r13⟩ := R
  refine ⟨k, fun j hj => ?_, ?_, ?_, ?_, fun i j hi hj => ?_, fun i j hi hj => ?_, fun i j hi hj => ?_, fun h hh => ⟨?_, ?_⟩, fun h s hh hs => ?_, fun g hg => ⟨?_, ?_, ?_⟩, ?_, ?_, fun i hi => ?_⟩
  · rw [e _ (by omega) (by omega), r1 j hj]
  · rw [e _ (by omega) (by omega), r2]
  · rw [e _ (by omega) (by omega), r3]
  · rw [e _ (by omega) (by omega), r4]
  · rw [e _ (by omega) (by omega), r5 i j hi hj]
  · rw [e _ (by omega) (by omega), r6 i j hi hj]
  · rw [e _ (by omega) (by omega), r7 i j hi hj]
  · rw [e _ (by omega) (by omega), (r8 h hh).1]
  · rw [e _ (by omega) (by omega), (r8 h hh).2]
  · rw [e _ (by omega) (by omega), r9 h s hh hs]
  · rw [e _ (by omega) (by omega), (r10 g hg).1]
  · rw [e _ (by omega) (by omega), (r10 g hg).2.1]
  · rw [e _ (by omega) (by omega), (r10 g hg).2.2]
  · rw [e _ (by omega) (by omega), r11]
  · rw [e _ (by omega) (by omega), r12]
  · rw [e _ (by omega) (by omega), r13 i hi]
theorem hxI_eq {W W' : Wd} {h : Nat} (e0 : whe W' h 0 = whe W h 0) (e1 : whe W' h 1 = whe W h 1) : hxI W' h = hxI W h := by
  unfold hxI
  rw [e0, e1]
theorem fm_lt {j : Nat} (hj : j < 15) : fmap j < 18 := by
  have : ∀ j, j < 15 → fmap j < 18 := by decide
  exact this j hj
/-- heaps told anew -/
theorem CR.hs (R : CR m c W) (I : Inv W) (E : ∀ i, i < 116 ∨ 188 ≤ i → W' i = W i) (e : ∀ a, c ≤ a → a < c + 40 → a < c + 25 ∨ c + 36 ≤ a → m'.1 a = m.1 a)
    (h8 : ∀ h, h < 8 → m'.1 (c + 25) h = hxI W' h ∧ m'.1 (c + 26) h = nI (whe W' h 2)) (h9 : ∀ h s, h < 8 → s < 6 → m'.1 (c + 28 + h) s = nI (whe W' h (3 + s))) : CR m' c W' := by
  have d := I.d
  obtain ⟨k, r1, r2, r3, r4, r5, r6, r7, r8, r9, r10, r11, r12, r13⟩ := R
  refine ⟨k, fun j hj => ?_, ?_, ?_, ?_, fun i j hi hj => ?_, fun i j hi hj => ?_, fun i j hi hj => ?_, h8, h9, fun g hg => ⟨?_, ?_, ?_⟩, ?_, ?_, fun i hi => ?_⟩
  · have := fm_lt hj
    rw [e _ (by omega) (by omega) (by omega), r1 j hj]
    exact congrArg nI (E _ (by omega)).symm
  · rw [e _ (by omega) (by omega) (by omega), r2, E 5 (by omega)]
  · rw [e _ (by omega) (by omega) (by omega), r3, E 6 (by omega)]
  · rw [e _ (by omega) (by omega) (by omega), r4, E 7 (by omega)]
  · rw [E 5 (by omega)] at hi
    rw [e _ (by omega) (by omega) (by omega), r5 i j hi hj]
    exact congrArg nI (E _ (by omega)).symm
  · rw [E 6 (by omega)] at hi
    rw [e _ (by omega) (by omega) (by omega), r6 i j hi hj]
    exact congrArg nI (E _ (by omega)).symm
  · rw [E 7 (by omega)] at hi
    rw [e _ (by omega) (by omega) (by omega), r7 i j hi hj]
    exact congrArg nI (E _ (by omega)).symm
  · rw [e _ (by omega) (by omega) (by omega), (r10 g hg).1]
    exact congrArg nI (E _ (by omega)).symm
  · rw [e _ (by omega) (by omega) (by omega), (r10 g hg).2.1]
    exact congrArg nI (E _ (by omega)).symm
  · rw [e _ (by omega) (by omega) (by omega), (r10 g hg).2.2]
    exact congrArg nI (E _ (by omega)).symm
  · rw [e _ (by omega) (by omega) (by omega), r11, E 18 (by omega)]
  · rw [e _ (by omega) (by omega) (by omega), r12, E 19 (by omega)]
  · rw [e _ (by omega) (by omega) (by omega), r13 i hi]
    exact congrArg nI (E _ (by omega)).symm
/-- groups told anew -/
theorem CR.gs (R : CR m c W) (I : Inv W) (E : ∀ i, i < 188 → W' i = W i) (e : ∀ a, c ≤ a → a < c + 40 → a < c + 36 ∨ c + 39 ≤ a → m'.1 a = m.1 a)
    (h10 : ∀ g, g < 4 → m'.1 (c + 36) g = nI (wgr W' g 0) ∧ m'.1 (c + 37) g = nI (wgr W' g 1) ∧ m'.1 (c + 38) g = nI (wgr W' g 2)) : CR m' c W' := by
  have d := I.d
  obtain ⟨k, r1, r2, r3, r4, r5, r6, r7, r8, r9, r10, r11, r12, r13⟩ := R
  refine ⟨k, fun j hj => ?_, ?_, ?_, ?_, fun i j hi hj => ?_, fun i j hi hj => ?_, fun i j hi hj => ?_, fun h hh => ⟨?_, ?_⟩, fun h s hh hs => ?_, h10, ?_, ?_, fun i hi => ?_⟩
  · have := fm_lt hj
    rw [e _ (by omega) (by omega) (by omega), r1 j hj]
    exact congrArg nI (E _ (by omega)).symm
  · rw [e _ (by omega) (by omega) (by omega), r2, E 5 (by omega)]
  · rw [e _ (by omega) (by omega) (by omega), r3, E 6 (by omega)]
  · rw [e _ (by omega) (by omega) (by omega), r4, E 7 (by omega)]
  · rw [E 5 (by omega)] at hi
    rw [e _ (by omega) (by omega) (by omega), r5 i j hi hj]
    exact congrArg nI (E _ (by omega)).symm
  · rw [E 6 (by omega)] at hi
    rw [e _ (by omega) (by omega) (by omega), r6 i j hi hj]
    exact congrArg nI (E _ (by omega)).symm
  · rw [E 7 (by omega)] at hi
    rw [e _ (by omega) (by omega) (by omega), r7 i j hi hj]
    exact congrArg nI (E _ (by omega)).symm
  · rw [e _ (by omega) (by omega) (by omega), (r8 h hh).1]
    exact (hxI_eq (E _ (by omega)) (E _ (by omega))).symm
  · rw [e _ (by omega) (by omega) (by omega), (r8 h hh).2]
    exact congrArg nI (E _ (by omega)).symm
  · rw [e _ (by omega) (by omega) (by omega), r9 h s hh hs]
    exact congrArg nI (E _ (by omega)).symm
  · rw [e _ (by omega) (by omega) (by omega), r11, E 18 (by omega)]
  · rw [e _ (by omega) (by omega) (by omega), r12, E 19 (by omega)]
  · rw [e _ (by omega) (by omega) (by omega), r13 i hi]
    exact congrArg nI (E _ (by omega)).symm
theorem MW.w (hW : MW m W) (i v : Nat) : MW (wI m 299 i (nI v)) (wu W i v) := by
  intro j hj
  rw [wI_at]
  unfold wu
  by_cases h : j = i
  · rw [if_pos h, if_pos h]
  · rw [if_neg h, if_neg h, hW j hj]
theorem Same_w {X : Type} {e f : Mem → Option (X × Mem)} (v : Wd → X) (u : Wd → Wd) (hi : ∀ W, Inv W → Inv (u W)) (hc : ∀ m W, CR m 28 W → Inv W → Ok (e m) (fun r => r.1 = v W ∧ CR r.2 28 (u W) ∧ FpC m r.2))
    (hm : ∀ m W, MW m W → Inv W → Ok (f m) (fun r => r.1 = v W ∧ MW r.2 (u W) ∧ FpM m r.2)) : Same e f := by
  rintro m ⟨W, p, w, c, i⟩
  obtain ⟨⟨r, m1⟩, e1, a1, R1, F1⟩ := hc m W c i
  simp only at a1 R1 F1
  have p1 : PR m1 := p.e (fun a ha => F1 a (by omega))
  have w1 : MW m1 W := fun j hj => by rw [(F1 299 (by omega)).1, w j hj]
  obtain ⟨⟨r2, m2⟩, e2, a2, w2, F2⟩ := hm m1 W w1 i
  simp only at a2 w2 F2
  refine ⟨r, m1, m2, e1, ?_, u W, p1.e (fun a ha => F2 a (by omega)), w2, R1.eq (hi W i) (fun a h1 h2 => (F2 a (by omega)).1), hi W i⟩
  rw [e2, a1, a2]
theorem IvH.al {h : Nat} (H : IvH W h) (e1 : W' 1 = W 1) (e2 : W' 2 = W 2) (e6 : W' 6 = W 6) (E : ∀ k, k < 9 → whe W' h k = whe W h k) : IvH W' h := by
  obtain ⟨a, b, c, d⟩ := H
  refine ⟨?_, fun q => ?_, fun q => ⟨?_, ?_, fun s hs => ?_⟩, fun s h1 h2 => ?_⟩
  · rw [E 0 (by omega)]; exact a
  · rw [E 0 (by omega)] at q
    rw [E 1 (by omega), E 2 (by omega), e1, e2]
    exact b q
  · rw [E 0 (by omega)] at q
    rw [E 1 (by omega)]
    exact (c q).1
  · rw [E 0 (by omega)] at q
    rw [E 2 (by omega)]
    exact (c q).2.1
  · rw [E 0 (by omega)] at q
    rw [E _ (by omega)]
    exact (c q).2.2 s hs
  · rw [e6] at h1
    rw [E _ (by omega)]
    exact d s h1 h2
theorem IvG.al {g : Nat} (G : IvG W g) (e1 : W' 1 = W 1) (e2 : W' 2 = W 2) (E : ∀ k, k < 3 → wgr W' g k = wgr W g k) : IvG W' g := by
  obtain ⟨a, b, c, d⟩ := G
  refine ⟨fun q => ?_, ?_, ?_, ?_⟩
  · rw [e1] at q
    rw [E 0 (by omega), E 1 (by omega), e1, e2]
    exact a q
  · rw [E 0 (by omega)]; exact b
  · rw [E 1 (by omega)]; exact c
  · rw [E 2 (by omega)]; exact d
/-- what lasts of a world that is told anew in places -/
theorem Inv.of (I : Inv W) (E : ∀ i, i < 116 → i ≠ 18 → i ≠ 19 → (∀ c, c < 7 → i ≠ 31 + 8 * c) → W' i = W i) (h18 : W' 18 < 2 ^ W 5) (h19 : W' 19 ≤ 9999) (h7 : ∀ c, c < W 5 → wcr W' c 7 ≤ 99)
    (hS : ∀ s, s < W 6 → sN (fun h => whe W' h (3 + s)) 8 ≤ wso W s 3) (hH : ∀ h, h < 8 → IvH W' h) (hG : ∀ g, g < 4 → IvG W' g) (hs : sN (fun g => wgr W' g 2) 4 ≤ W 3) : Inv W' := by
  have d := I.d
  obtain ⟨A, B, C, S, O, -, -, -⟩ := I
  have e : ∀ i, i < 18 → W' i = W i := fun i hi => E i (by omega) (by omega) (by omega) (fun c _ => by omega)
  refine ⟨?_, ?_, fun c hc => ?_, fun s hq => ?_, fun o ho => ?_, hH, hG, by rw [e 3 (by omega)]; exact hs⟩
  · unfold IvA
    rw [e 1 (by omega), e 2 (by omega), e 3 (by omega), e 4 (by omega), e 5 (by omega), e 6 (by omega), e 7 (by omega)]
    exact A
  · obtain ⟨b0, b8, b9, b10, b11, b12, b13, b14, b15, b16, b17, -, -⟩ := B
    unfold IvB
    rw [e 0 (by omega), e 8 (by omega), e 9 (by omega), e 10 (by omega), e 11 (by omega), e 12 (by omega), e 13 (by omega), e 14 (by omega), e 15 (by omega), e 16 (by omega), e 17 (by omega), e 5 (by omega)]
    exact ⟨b0, b8, b9, b10, b11, b12, b13, b14, b15, b16, b17, h18, h19⟩
  · rw [e 5 (by omega)] at hc
    have q : ∀ k, k < 7 → wcr W' c k = wcr W c k := fun k hk => E _ (by omega) (by omega) (by omega) (fun c' _ => by omega)
    obtain ⟨c0, c1, c2, c3, c4, c5, c6, c7, c8, -⟩ := C c hc
    unfold IvC
    rw [q 0 (by omega), q 1 (by omega), q 2 (by omega), q 3 (by omega), q 4 (by omega), q 5 (by omega), q 6 (by omega), e 1 (by omega), e 2 (by omega)]
    exact ⟨c0, c1, c2, c3, c4, c5, c6, c7, c8, h7 c hc⟩
  · rw [e 6 (by omega)] at hq
    have q : ∀ k, k < 4 → wso W' s k = wso W s k := fun k hk => E _ (by omega) (by omega) (by omega) (fun c' _ => by omega)
    obtain ⟨s0, s1, s2, s3, s4, s5, -⟩ := S s hq
    unfold IvS
    rw [q 0 (by omega), q 1 (by omega), q 2 (by omega), q 3 (by omega)]
    exact ⟨s0, s1, s2, s3, s4, s5, hS s hq⟩
  · rw [e 7 (by omega)] at ho
    have q : ∀ k, k < 3 → wot W' o k = wot W o k := fun k hk => E _ (by omega) (by omega) (by omega) (fun c' _ => by omega)
    have := O o ho
    unfold IvO at this ⊢
    rw [q 0 (by omega), q 1 (by omega), q 2 (by omega)]
    exact this
theorem Inv.sum (I : Inv W) {s : Nat} (h : s < W 6) : sN (fun h => whe W h (3 + s)) 8 ≤ wso W s 3 := (I.S h).2.2.2.2.2.2
theorem Inv.al (I : Inv W) (E : ∀ i, i < 200 → i ≠ 18 → i ≠ 19 → (∀ c, c < 7 → i ≠ 31 + 8 * c) → W' i = W i) (h18 : W' 18 < 2 ^ W 5) (h19 : W' 19 ≤ 9999) (h7 : ∀ c, c < W 5 → wcr W' c 7 ≤ 99) : Inv W' := by
  have d := I.d
  have e : ∀ i, i < 18 ∨ (80 ≤ i ∧ i < 200) → W' i = W i := fun i hi => E i (by omega) (by omega) (by omega) (fun c _ => by omega)
  refine I.of (fun i hi => E i (by omega)) h18 h19 h7 (fun s hs => ?_) (fun h hh => (I.H hh).al (e 1 (by omega)) (e 2 (by omega)) (e 6 (by omega)) (fun k hk => e _ (by omega))) (fun g hg => (I.G hg).al (e 1 (by omega)) (e 2 (by omega)) (fun k hk => e _ (by omega))) ?_
  · rw [sN_cong (f := fun h => whe W' h (3 + s)) (g := fun h => whe W h (3 + s)) (fun h hh => e _ (by omega))]
    exact I.sum hs
  · rw [sN_cong (f := fun g => wgr W' g 2) (g := fun g => wgr W g 2) (fun h hh => e _ (by omega))]
    exact I.2.2.2.2.2.2.2
theorem Inv.hs (I : Inv W) (E : ∀ i, i < 116 ∨ 188 ≤ i → W' i = W i) (hS : ∀ s, s < W 6 → sN (fun h => whe W' h (3 + s)) 8 ≤ wso W s 3) (hH : ∀ h, h < 8 → IvH W' h) : Inv W' := by
  have d := I.d
  obtain ⟨-, -, -, -, -, -, -, -, -, -, -, b18, b19⟩ := I.2.1
  refine I.of (fun i hi _ _ _ => E i (by omega)) (by rw [E 18 (by omega)]; exact b18) (by rw [E 19 (by omega)]; exact b19) (fun c hc => ?_) hS hH (fun g hg => (I.G hg).al (E 1 (by omega)) (E 2 (by omega)) (fun k hk => E _ (by omega))) ?_
  · exact Nat.le_trans (Nat.le_of_eq (E _ (by omega))) (I.C hc).2.2.2.2.2.2.2.2.2
  · rw [sN_cong (f := fun g => wgr W' g 2) (g := fun g => wgr W g 2) (fun h hh => E _ (by omega))]
    exact I.2.2.2.2.2.2.2
theorem Inv.gs (I : Inv W) (E : ∀ i, i < 188 → W' i = W i) (hG : ∀ g, g < 4 → IvG W' g) (hs : sN (fun g => wgr W' g 2) 4 ≤ W 3) : Inv W' := by
  have d := I.d
  obtain ⟨-, -, -, -, -, -, -, -, -, -, -, b18, b19⟩ := I.2.1
  refine I.of (fun i hi _ _ _ => E i (by omega)) (by rw [E 18 (by omega)]; exact b18) (by rw [E 19 (by omega)]; exact b19) (fun c hc => ?_) (fun s hq => ?_) (fun h hh => (I.H hh).al (E 1 (by omega)) (E 2 (by omega)) (E 6 (by omega)) (fun k hk => E _ (by omega))) hG hs
  · exact Nat.le_trans (Nat.le_of_eq (E _ (by omega))) (I.C hc).2.2.2.2.2.2.2.2.2
  · rw [sN_cong (f := fun h => whe W' h (3 + s)) (g := fun h => whe W h (3 + s)) (fun h hh => E _ (by omega))]
    exact I.sum hq
end WR
/-! open, saw, pass -/
section QE
variable {m : Mem} {W : Wd}
theorem st_open (x : Int32) : Same (PL_open 1 x) (Mo_open 298 x) := by
  refine Same_w (fun W => if 0 < W 1 ∧ inb x (2 ^ W 5) then nI (W 18) else -2) (fun W => if 0 < W 1 ∧ inb x (2 ^ W 5) then wu W 18 (ix x) else W) (fun W I => ?_) (fun m W R I => ?_) (fun m W hW I => ?_)
  · have h7 := p2le (k := W 5) (n := 7) I.d.2.2.2.2.1
    have h128 : (2 : Nat) ^ 7 = 128 := by decide
    have d := I.d
    obtain ⟨-, -, -, -, -, -, -, -, -, -, -, b18, b19⟩ := I.2.1
    by_cases h : 0 < W 1 ∧ inb x (2 ^ W 5)
    · obtain ⟨s, hs, rfl⟩ := in_of h.2 (by omega)
      rw [if_pos h, ix_nI (by omega)]
      refine I.al (fun i _ h1 _ _ => wu_o W h1 s) (by rw [wu_s]; exact hs) (by rw [wu_o W (by omega)]; exact b19) (fun c hc => ?_)
      exact Nat.le_trans (Nat.le_of_eq (wu_o W (by omega) _)) (I.C hc).2.2.2.2.2.2.2.2.2
    · rw [if_neg h]; exact I
  · have h7 := p2le (k := W 5) (n := 7) I.d.2.2.2.2.1
    have h128 : (2 : Nat) ^ 7 = 128 := by decide
    have d := I.d
    unfold PL_open
    refine Ok_b (fl_hasSet R I x) ?_
    rw [ite_b2]
    by_cases h : 0 < W 1 ∧ inb x (2 ^ W 5)
    · obtain ⟨s, hs, rfl⟩ := in_of h.2 (by omega)
      simp only [if_pos h, ix_nI (show s < 2147483648 by omega)]
      refine Ok_lt (Ok_s ⟨R.op, ?_, (Fp.wI (lo := 28) (hi := 29) (by omega) (by omega) _ _).C (by omega)⟩)
      obtain ⟨k, r1, r2, r3, r4, r5, r6, r7, r8, r9, r10, r11, r12, r13⟩ := R
      have o : ∀ a i, a ≠ 28 → (wI m 28 7 (nI s)).1 a i = m.1 a i := fun a i ha => wI_o m ha i _
      have w : ∀ i, i ≠ 18 → wu W 18 s i = W i := fun i hi => wu_o W hi s
      refine ⟨k, fun j hj => ?_, ?_, ?_, ?_, fun i j hi hj => ?_, fun i j hi hj => ?_, fun i j hi hj => ?_, fun h hh => ⟨?_, ?_⟩, fun h s hh hs => ?_, fun g hg => ⟨?_, ?_, ?_⟩, ?_, ?_, fun i hi => ?_⟩
      · have := fm_lt hj
        rw [o _ _ (by omega), r1 j hj]
        exact congrArg nI (w _ (by omega)).symm
      · rw [o _ _ (by omega), r2]
        exact congrArg nI (w _ (by omega)).symm
      · rw [o _ _ (by omega), r3]
        exact congrArg nI (w _ (by omega)).symm
      · rw [o _ _ (by omega), r4]
        exact congrArg nI (w _ (by omega)).symm
      · rw [w 5 (by omega)] at hi
        rw [o _ _ (by omega), r5 i j hi hj]
        exact congrArg nI (w _ (by omega)).symm
      · rw [w 6 (by omega)] at hi
        rw [o _ _ (by omega), r6 i j hi hj]
        exact congrArg nI (w _ (by omega)).symm
      · rw [w 7 (by omega)] at hi
        rw [o _ _ (by omega), r7 i j hi hj]
        exact congrArg nI (w _ (by omega)).symm
      · rw [o _ _ (by omega), (r8 h hh).1]
        exact (hxI_eq (w _ (by omega)) (w _ (by omega))).symm
      · rw [o _ _ (by omega), (r8 h hh).2]
        exact congrArg nI (w _ (by omega)).symm
      · rw [o _ _ (by omega), r9 h _ hh hs]
        exact congrArg nI (w _ (by omega)).symm
      · rw [o _ _ (by omega), (r10 g hg).1]
        exact congrArg nI (w _ (by omega)).symm
      · rw [o _ _ (by omega), (r10 g hg).2.1]
        exact congrArg nI (w _ (by omega)).symm
      · rw [o _ _ (by omega), (r10 g hg).2.2]
        exact congrArg nI (w _ (by omega)).symm
      · rw [wI_self, wu_s]
      · rw [wI_at, if_neg (by decide), r12]
        exact congrArg nI (w _ (by omega)).symm
      · rw [o _ _ (by omega), r13 i hi]
        exact congrArg nI (w _ (by omega)).symm
    · simp only [if_neg h]
      exact Ok_s ⟨rfl, R, FpC.refl⟩
  · have h7 := p2le (k := W 5) (n := 7) I.d.2.2.2.2.1
    have h128 : (2 : Nat) ^ 7 = 128 := by decide
    have d := I.d
    unfold Mo_open
    refine Ok_b (Mo_isSet_e hW (by omega) (by omega) x) ?_
    rw [ite_b2]
    by_cases h : 0 < W 1 ∧ inb x (2 ^ W 5)
    · obtain ⟨s, hs, rfl⟩ := in_of h.2 (by omega)
      simp only [if_pos h, ix_nI (show s < 2147483648 by omega)]
      refine Ok_gd (by decide) (Ok_gd (by decide) (Ok_lt (Ok_s ⟨qW18 hW, hW.w 18 s, (Fp.wI (lo := 299) (hi := 300) (by omega) (by omega) _ _).M (by omega)⟩)))
    · simp only [if_neg h]
      exact Ok_s ⟨rfl, hW, FpM.refl⟩
theorem CR.wa_w (R : CR m 28 W) (I : Inv W) (v : Nat) : CR (wI m 28 9 (nI v)) 28 (wu W 19 v) := by
  have d := I.d
  obtain ⟨k, r1, r2, r3, r4, r5, r6, r7, r8, r9, r10, r11, r12, r13⟩ := R
  have o : ∀ a i, a ≠ 28 → (wI m 28 9 (nI v)).1 a i = m.1 a i := fun a i ha => wI_o m ha i _
  have w : ∀ i, i ≠ 19 → wu W 19 v i = W i := fun i hi => wu_o W hi v
  refine ⟨k, fun j hj => ?_, ?_, ?_, ?_, fun i j hi hj => ?_, fun i j hi hj => ?_, fun i j hi hj => ?_, fun h hh => ⟨?_, ?_⟩, fun h s hh hs => ?_, fun g hg => ⟨?_, ?_, ?_⟩, ?_, ?_, fun i hi => ?_⟩
  · have := fm_lt hj
    rw [o _ _ (by omega), r1 j hj]
    exact congrArg nI (w _ (by omega)).symm
  · rw [o _ _ (by omega), r2]
    exact congrArg nI (w _ (by omega)).symm
  · rw [o _ _ (by omega), r3]
    exact congrArg nI (w _ (by omega)).symm
  · rw [o _ _ (by omega), r4]
    exact congrArg nI (w _ (by omega)).symm
  · rw [w 5 (by omega)] at hi
    rw [o _ _ (by omega), r5 i j hi hj]
    exact congrArg nI (w _ (by omega)).symm
  · rw [w 6 (by omega)] at hi
    rw [o _ _ (by omega), r6 i j hi hj]
    exact congrArg nI (w _ (by omega)).symm
  · rw [w 7 (by omega)] at hi
    rw [o _ _ (by omega), r7 i j hi hj]
    exact congrArg nI (w _ (by omega)).symm
  · rw [o _ _ (by omega), (r8 h hh).1]
    exact (hxI_eq (w _ (by omega)) (w _ (by omega))).symm
  · rw [o _ _ (by omega), (r8 h hh).2]
    exact congrArg nI (w _ (by omega)).symm
  · rw [o _ _ (by omega), r9 h _ hh hs]
    exact congrArg nI (w _ (by omega)).symm
  · rw [o _ _ (by omega), (r10 g hg).1]
    exact congrArg nI (w _ (by omega)).symm
  · rw [o _ _ (by omega), (r10 g hg).2.1]
    exact congrArg nI (w _ (by omega)).symm
  · rw [o _ _ (by omega), (r10 g hg).2.2]
    exact congrArg nI (w _ (by omega)).symm
  · rw [wI_at, if_neg (by decide), r11]
    exact congrArg nI (w _ (by omega)).symm
  · rw [wI_self, wu_s]
  · rw [o _ _ (by omega), r13 i hi]
    exact congrArg nI (w _ (by omega)).symm
def vPass (W : Wd) (x : Int32) : Int32 := if 0 < W 1 then if inb x 100 then if W 19 + ix x ≤ 9999 then nI (W 19 + ix x) else -2 else -2 else -2
def uPass (x : Int32) (W : Wd) : Wd := if 0 < W 1 then if inb x 100 then if W 19 + ix x ≤ 9999 then wu W 19 (W 19 + ix x) else W else W else W
theorem st_pass (x : Int32) : Same (PL_pass 1 x) (Mo_pass 298 x) := by
  refine Same_w (fun W => vPass W x) (uPass x) (fun W I => ?_) (fun m W R I => ?_) (fun m W hW I => ?_)
  · obtain ⟨-, -, -, -, -, -, -, -, -, -, -, b18, b19⟩ := I.2.1
    have d := I.d
    unfold uPass
    by_cases h : 0 < W 1
    · rw [if_pos h]
      by_cases h2 : inb x 100
      · rw [if_pos h2]
        by_cases h3 : W 19 + ix x ≤ 9999
        · rw [if_pos h3]
          refine I.al (fun i _ _ h1 _ => wu_o W h1 _) (by rw [wu_o W (by omega)]; exact b18) (by rw [wu_s]; exact h3) (fun c hc => ?_)
          exact Nat.le_trans (Nat.le_of_eq (wu_o W (by omega) _)) (I.C hc).2.2.2.2.2.2.2.2.2
        · rw [if_neg h3]; exact I
      · rw [if_neg h2]; exact I
    · rw [if_neg h]; exact I
  · obtain ⟨-, -, -, -, -, -, -, -, -, -, -, b18, b19⟩ := I.2.1
    unfold PL_pass vPass uPass
    refine Ok_b (fl_there R I) ?_
    rw [ite_b2]
    by_cases h : 0 < W 1
    · simp only [if_pos h]
      rw [show (99 : Int32) = nI 99 from rfl, ite_rgt (by decide)]
      by_cases h2 : inb x 100
      · obtain ⟨j, hj, rfl⟩ := in_of h2 (by omega)
        simp only [if_pos h2, ix_nI (show j < 2147483648 by omega)]
        rw [show rI m (1 + 27) 9 = nI (W 19) from R.wa, nI_add]
        by_cases h3 : W 19 + j ≤ 9999
        · simp only [if_pos h3]
          refine Ok_it (show nI (W 19 + j) ≤ 9999 from nI_le (b := 9999) h3 (by decide)) (Ok_lt (Ok_s ⟨show rI (wI m (1 + 27) 9 (nI (W 19 + j))) (1 + 27) 9 = nI (W 19 + j) from wI_self _ _ _ _, R.wa_w I _, (Fp.wI (lo := 28) (hi := 29) (by omega) (by omega) _ _).C (by omega)⟩))
        · simp only [if_neg h3]
          refine Ok_if (show ¬ nI (W 19 + j) ≤ 9999 from nI_ge (a := 9999) (by omega) (by omega)) (Ok_s ⟨rfl, R, FpC.refl⟩)
      · simp only [if_neg h2]
        exact Ok_s ⟨rfl, R, FpC.refl⟩
    · simp only [if_neg h]
      exact Ok_s ⟨rfl, R, FpC.refl⟩
  · obtain ⟨-, -, -, -, -, -, -, -, -, -, -, b18, b19⟩ := I.2.1
    have d := I.d
    unfold Mo_pass vPass uPass
    refine Ok_b (Mo_isFloe_e hW (by omega)) ?_
    rw [ite_b2]
    by_cases h : 0 < W 1
    · simp only [if_pos h]
      refine Ok_b (in0 m x (n := 100) (by decide) (by decide)) ?_
      rw [ite_b2]
      by_cases h2 : inb x 100
      · obtain ⟨j, hj, rfl⟩ := in_of h2 (by omega)
        simp only [if_pos h2, ix_nI (show j < 2147483648 by omega)]
        refine Ok_gd (by decide) ?_
        rw [qW19 hW, nI_add]
        by_cases h3 : W 19 + j ≤ 9999
        · simp only [if_pos h3]
          refine Ok_it (show nI (W 19 + j) ≤ 9999 from nI_le (b := 9999) h3 (by decide)) (Ok_gd (by decide) (Ok_gd (by decide) (Ok_lt (Ok_gd (by decide) (Ok_s ⟨show rI (wI m (298 + 1) (ix 19) (nI (W 19 + j))) (298 + 1) (ix 19) = nI (W 19 + j) from wI_self _ _ _ _, hW.w _ _, (Fp.wI (lo := 299) (hi := 300) (by omega) (by omega) _ _).M (by omega)⟩)))))
        · simp only [if_neg h3]
          refine Ok_if (show ¬ nI (W 19 + j) ≤ 9999 from nI_ge (a := 9999) (by omega) (by omega)) (Ok_s ⟨rfl, hW, FpM.refl⟩)
      · simp only [if_neg h2]
        exact Ok_s ⟨rfl, hW, FpM.refl⟩
    · simp only [if_neg h]
      exact Ok_s ⟨rfl, hW, FpM.refl⟩
theorem CR.se_w (R : CR m 28 W) (I : Inv W) {k0 : Nat} (hk : k0 < 7) (v : Nat) : CR (wI m 67 k0 (nI v)) 28 (wu W (24 + 8 * k0 + 7) v) := by
  have d := I.d
  obtain ⟨k, r1, r2, r3, r4, r5, r6, r7, r8, r9, r10, r11, r12, r13⟩ := R
  have o : ∀ a i, a ≠ 67 → (wI m 67 k0 (nI v)).1 a i = m.1 a i := fun a i ha => wI_o m ha i _
  have w : ∀ i, i ≠ 24 + 8 * k0 + 7 → wu W (24 + 8 * k0 + 7) v i = W i := fun i hi => wu_o W hi v
  refine ⟨k, fun j hj => ?_, ?_, ?_, ?_, fun i j hi hj => ?_, fun i j hi hj => ?_, fun i j hi hj => ?_, fun h hh => ⟨?_, ?_⟩, fun h s hh hs => ?_, fun g hg => ⟨?_, ?_, ?_⟩, ?_, ?_, fun i hi => ?_⟩
  · have := fm_lt hj
    rw [o _ _ (by omega), r1 j hj]
    exact congrArg nI (w _ (by omega)).symm
  · rw [o _ _ (by omega), r2]
    exact congrArg nI (w _ (by omega)).symm
  · rw [o _ _ (by omega), r3]
    exact congrArg nI (w _ (by omega)).symm
  · rw [o _ _ (by omega), r4]
    exact congrArg nI (w _ (by omega)).symm
  · rw [w 5 (by omega)] at hi
    rw [o _ _ (by omega), r5 i j hi hj]
    exact congrArg nI (w _ (by omega)).symm
  · rw [w 6 (by omega)] at hi
    rw [o _ _ (by omega), r6 i j hi hj]
    exact congrArg nI (w _ (by omega)).symm
  · rw [w 7 (by omega)] at hi
    rw [o _ _ (by omega), r7 i j hi hj]
    exact congrArg nI (w _ (by omega)).symm
  · rw [o _ _ (by omega), (r8 h hh).1]
    exact (hxI_eq (w _ (by omega)) (w _ (by omega))).symm
  · rw [o _ _ (by omega), (r8 h hh).2]
    exact congrArg nI (w _ (by omega)).symm
  · rw [o _ _ (by omega), r9 h _ hh hs]
    exact congrArg nI (w _ (by omega)).symm
  · rw [o _ _ (by omega), (r10 g hg).1]
    exact congrArg nI (w _ (by omega)).symm
  · rw [o _ _ (by omega), (r10 g hg).2.1]
    exact congrArg nI (w _ (by omega)).symm
  · rw [o _ _ (by omega), (r10 g hg).2.2]
    exact congrArg nI (w _ (by omega)).symm
  · rw [o _ _ (by omega), r11]
    exact congrArg nI (w _ (by omega)).symm
  · rw [o _ _ (by omega), r12]
    exact congrArg nI (w _ (by omega)).symm
  · by_cases e : i = k0
    · subst e
      rw [wI_self]
      exact congrArg nI (wu_s W _ v).symm
    · rw [wI_at, if_neg e, r13 i hi]
      exact congrArg nI (w _ (by omega)).symm
def vSaw (W : Wd) (x : Int32) : Int32 := if inb x (W 5) then if wcr W (ix x) 7 = 99 then -3 else nI (wcr W (ix x) 7 + 1) else -2
def uSaw (x : Int32) (W : Wd) : Wd := if inb x (W 5) then if wcr W (ix x) 7 = 99 then W else wu W (24 + 8 * ix x + 7) (wcr W (ix x) 7 + 1) else W
theorem st_saw (x : Int32) : Same (PL_saw 1 x) (Mo_saw 298 x) := by
  refine Same_w (fun W => vSaw W x) (uSaw x) (fun W I => ?_) (fun m W R I => ?_) (fun m W hW I => ?_)
  · obtain ⟨-, -, -, -, -, -, -, -, -, -, -, b18, b19⟩ := I.2.1
    have d := I.d
    unfold uSaw
    by_cases h : inb x (W 5)
    · obtain ⟨k, hk, rfl⟩ := in_of h (by omega)
      rw [if_pos h, ix_nI (by omega)]
      have c9 := (I.C hk).2.2.2.2.2.2.2.2.2
      by_cases h2 : wcr W k 7 = 99
      · rw [if_pos h2]; exact I
      · rw [if_neg h2]
        refine I.al (fun i _ _ _ h1 => wu_o W (by have := h1 k (by omega); omega) _) (by rw [wu_o W (by omega)]; exact b18) (by rw [wu_o W (by omega)]; exact b19) (fun c hc => ?_)
        by_cases e : c = k
        · subst e
          exact Nat.le_trans (Nat.le_of_eq (wu_s W _ _)) (by omega)
        · exact Nat.le_trans (Nat.le_of_eq (wu_o W (by omega) _)) (I.C hc).2.2.2.2.2.2.2.2.2
    · rw [if_neg h]; exact I
  · have d := I.d
    unfold PL_saw vSaw uSaw
    refine Ok_b (show Ta_has (1 + 29) x m = _ from Ta_has_e m R.nC (by omega) x) ?_
    rw [ite_b2]
    by_cases h : inb x (W 5)
    · obtain ⟨k, hk, rfl⟩ := in_of h (by omega)
      simp only [if_pos h, ix_nI (show k < 2147483648 by omega)]
      have c9 := (I.C hk).2.2.2.2.2.2.2.2.2
      refine Ok_gd (in_nI (n := 7) (by omega) (by decide)) ?_
      rw [show rI m (1 + 66) k = nI (wcr W k 7) from R.se (by omega)]
      by_cases h2 : wcr W k 7 = 99
      · simp only [if_pos h2]
        rw [h2]
        exact Ok_if (by decide) (Ok_s ⟨rfl, R, FpC.refl⟩)
      · simp only [if_neg h2]
        refine Ok_it (show nI (wcr W k 7) < 99 from nI_lt (b := 99) (by omega) (by decide)) (Ok_gd (in_nI (n := 7) (by omega) (by decide)) (Ok_gd (in_nI (n := 7) (by omega) (by decide)) (Ok_lt (Ok_gd (in_nI (n := 7) (by omega) (by decide)) ?_))))
        rw [nI_1]
        exact Ok_s ⟨wI_self _ _ _ _, R.se_w I (by omega) _, (Fp.wI (lo := 67) (hi := 68) (by omega) (by omega) _ _).C (by omega)⟩
    · simp only [if_neg h]
      exact Ok_s ⟨rfl, R, FpC.refl⟩
  · have d := I.d
    unfold Mo_saw vSaw uSaw
    refine Ok_b (Mo_isCrack_e hW (by omega) x) ?_
    rw [ite_b2]
    by_cases h : inb x (W 5)
    · obtain ⟨k, hk, rfl⟩ := in_of h (by omega)
      simp only [if_pos h, ix_nI (show k < 2147483648 by omega)]
      have c9 := (I.C hk).2.2.2.2.2.2.2.2.2
      refine Ok_b (qC7 hW (by omega)) ?_
      by_cases h2 : wcr W k 7 = 99
      · simp only [if_pos h2]
        rw [h2]
        exact Ok_it (by decide) (Ok_s ⟨rfl, hW, FpM.refl⟩)
      · simp only [if_neg h2]
        have e : (24 + 8 * nI k + 7 : Int32) = nI (24 + 8 * k + 7) := by
          rw [li 24, li 8, li 7, pk_mul, nI_add, nI_add]
        refine Ok_if (fun z => h2 ((nI_eq (b := 99) (by omega) (by decide)).mp z)) ?_
        rw [e]
        refine Ok_gd (in_nI (n := 200) (by omega) (by decide)) (Ok_gd (in_nI (n := 200) (by omega) (by decide)) (Ok_lt ?_))
        rw [ix_nI (by omega), show rI m (298 + 1) (24 + 8 * k + 7) = nI (wcr W k 7) from hW _ (by omega), nI_1]
        refine Ok_b (Mo_ofCrack_e _ (k := 7) (by omega) (by decide)) ?_
        exact Ok_s ⟨wI_self _ _ _ _, hW.w _ _, (Fp.wI (lo := 299) (hi := 300) (by omega) (by omega) _ _).M (by omega)⟩
    · simp only [if_neg h]
      exact Ok_s ⟨rfl, hW, FpM.refl⟩
end QE
