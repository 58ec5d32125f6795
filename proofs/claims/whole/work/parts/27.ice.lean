/-! the class's ice: what it holds when it has looked at a camp -/
section ICE
variable {m m' : Mem} {c t : Nat} {W : Wd}
theorem fillI {a i : Nat} {f : Nat → Int32} {v : Int32} (h : ∀ j, j < i → m.1 a j = f j) (hv : v = f i) : ∀ j, j < i + 1 → (wI m a i v).1 a j = f j := by
  intro j hj
  rw [wI_at]
  by_cases q : j = i
  · rw [if_pos q, hv, q]
  · rw [if_neg q, h j (by omega)]
theorem fillL {a i : Nat} {f : Nat → Int64} {v : Int64} (h : ∀ j, j < i → m.2 a j = f j) (hv : v = f i) : ∀ j, j < i + 1 → (wL m a i v).2 a j = f j := by
  intro j hj
  rw [wL_at]
  by_cases q : j = i
  · rw [if_pos q, hv, q]
  · rw [if_neg q, h j (by omega)]
theorem keepI {a b i k : Nat} {f : Nat → Int32} {v : Int32} (h : ∀ j, j < k → m.1 b j = f j) (hb : b ≠ a) : ∀ j, j < k → (wI m a i v).1 b j = f j := fun j hj => by rw [wI_o m hb, h j hj]
theorem CR.fp (R : CR m c W) (I : Inv W) {lo hi : Nat} (F : Fp lo hi m m') (q : c + 40 ≤ lo ∨ hi ≤ c) : CR m' c W := by
  have d := I.d
  have e : ∀ a, c ≤ a → a < c + 40 → ∀ i, m'.1 a i = m.1 a i := fun a h1 h2 i => F.a (by omega) i
  obtain ⟨k, r1, r2, r3, r4, r5, r6, r7, r8, r9, r10, r11, r12, r13⟩ := R
  refine ⟨k, fun j hj => ?_, ?_, ?_, ?_, fun i j hi hj => ?_, fun i j hi hj => ?_, fun i j hi hj => ?_, fun h hh => ⟨?_, ?_⟩, fun h s hh hs => ?_, fun g hg => ⟨?_, ?_, ?_⟩, ?_, ?_, fun i hi => ?_⟩
  · rw [e _ (by omega) (by omega), r1 j hj]
  · rw [e _ (by omega) (by omega), r2]
  · rw [e _ (by omega) (by omega), r3]
  · rw [e _ (by omega) (by omega), r4]
  · rw [e _ (by omega) (by omega), r5 i j hi hj]
  · rw [e _ (by omega) (by omega), r6 i j hi hj]
  · rw [e _ (by omega) (by omega), r7 i j hi hj]
  · rw [e _ (by omega) (by omega), (r8 h hh).1]
  · rw [e _ (by omega) (by omega), (r8 h hh).2]
  · rw [e _ (by omega) (by omega), r9 h s hh hs]
  · rw [e _ (by omega) (by omega), (r10 g hg).1]
  · rw [e _ (by omega) (by omega), (r10 g hg).2.1]
  · rw [e _ (by omega) (by omega), (r10 g hg).2.2]
  · rw [e _ (by omega) (by omega), r11]
  · rw [e _ (by omega) (by omega), r12]
  · rw [e _ (by omega) (by omega), r13 i hi]
def ndN (W : Wd) (k : Nat) : Nat := if toldN W k then needN (W 4) 1 k else 0
abbrev gbN (W : Wd) (g : Nat) : Nat := byN W (nI (wgr W g 0)) (nI (wgr W g 1))
def hbN (W : Wd) (h : Nat) : Nat := byN W (hxI W h) (nI (whe W h 2))
def openL (W : Wd) (s : Nat) : Int64 := if s = W 18 then 1000000000000 else 0
theorem PL_neededOf_e (m : Mem) {k p d : Nat} (hk : k ≤ 3) : PL_neededOf (nI k) (nI p) (nI d) m = some (nI (needN d p k)) := by
  unfold PL_neededOf needN
  by_cases h : k = 0
  · rw [h, if_pos (by decide), pk_mul, if_pos rfl]
  · rw [if_neg (nI_ne0 (by omega) (by omega)), if_neg h]
theorem look5 (R : CR m c W) (I : Inv W) (ht : c + 40 ≤ t ∨ t + 17 ≤ c) : Ok (loop (fun s : Int32 × Mem => Ic_look_l240 t c s.1 s.2) (0, m)) (fun m' => Fp (t + 16) (t + 17) m m' ∧ ∀ k, k < 4 → m'.1 (t + 16) k = nI (ndN W k)) := by
  refine Ok_for 4 (fun i x => Fp (t + 16) (t + 17) m x ∧ ∀ k, k < i → x.1 (t + 16) k = nI (ndN W k)) ⟨Fp.refl, fun k hk => by omega⟩ (fun i x hi ⟨F, p⟩ => ?_) (fun x ⟨F, p⟩ => ?_)
  · have R2 := R.fp I F (by omega)
    show Ok (Ic_look_l240 t c (nI i) x) _
    unfold Ic_look_l240 Ic_look_b271
    rw [if_neg (show ¬ (4 : Int32) ≤ nI i from nI_ge (b := 4) hi (by decide)), Fl_tells_e R2 I (by omega), bind_s, ite_b2]
    by_cases h : toldN W i
    · rw [if_pos h, cf3 R2, show PL_neededOf (nI i) 1 (nI (W 4)) x = some (nI (needN (W 4) 1 i)) from PL_neededOf_e x (p := 1) (by omega), bind_s]
      refine Ok_gd (in_nI hi (by decide)) (Ok_lt (Ok_s ⟨_, by rw [nI_1], F.trans (Fp.wI (by omega) (by omega) _ _), ?_⟩))
      rw [ix_nI (by omega)]
      refine fillI p ?_
      unfold ndN
      rw [if_pos h]
    · rw [if_neg h]
      refine Ok_gd (in_nI hi (by decide)) (Ok_lt (Ok_s ⟨_, by rw [nI_1], F.trans (Fp.wI (by omega) (by omega) _ _), ?_⟩))
      rw [ix_nI (by omega)]
      refine fillI p ?_
      unfold ndN
      rw [if_neg h]
      rfl
  · show Ok (Ic_look_l240 t c (nI 4) x) _
    unfold Ic_look_l240
    rw [if_pos (show (4 : Int32) ≤ nI 4 from by decide), up_some]
    exact Ok_s ⟨_, rfl, F, p⟩
theorem look4 (R : CR m c W) (I : Inv W) (ht : c + 40 ≤ t ∨ t + 17 ≤ c) : Ok (loop (fun s : Int32 × Mem => Ic_look_l193 t c s.1 s.2) (0, m)) (fun m' => (∀ a, a < t + 4 ∨ (t + 6 ≤ a ∧ a < t + 16) ∨ t + 17 ≤ a → m'.1 a = m.1 a ∧ m'.2 a = m.2 a) ∧ (∀ g, g < 4 → m'.1 (t + 4) g = nI (wgr W g 2)) ∧ (∀ g, g < 4 → m'.1 (t + 5) g = nI (gbN W g)) ∧ ∀ k, k < 4 → m'.1 (t + 16) k = nI (ndN W k)) := by
  refine Ok_for 4 (fun i x => Fp (t + 4) (t + 6) m x ∧ (∀ g, g < i → x.1 (t + 4) g = nI (wgr W g 2)) ∧ (∀ g, g < i → x.1 (t + 5) g = nI (gbN W g))) ⟨Fp.refl, fun k hk => by omega, fun k hk => by omega⟩ (fun i x hi ⟨F, p, q⟩ => ?_) (fun x ⟨F, p, q⟩ => ?_)
  · have R2 := R.fp I F (by omega)
    have F3 : Fp (t + 4) (t + 6) x (wI x (t + 4) i (nI (wgr W i 2))) := Fp.wI (by omega) (by omega) _ _
    have R3 := R2.fp I F3 (by omega)
    show Ok (Ic_look_l193 t c (nI i) x) _
    unfold Ic_look_l193
    rw [if_neg (show ¬ (4 : Int32) ≤ nI i from nI_ge (b := 4) hi (by decide)), ix_nI (by omega), show rI x (c + 38) i = nI (wgr W i 2) from R2.g2 hi]
    refine Ok_gd (in_nI hi (by decide)) (Ok_gd (in_nI hi (by decide)) (Ok_lt (Ok_gd (in_nI hi (by decide)) (Ok_gd (in_nI hi (by decide)) ?_))))
    rw [Fl_beyond_e R3 I, bind_s, show rI (wI x (t + 4) i (nI (wgr W i 2))) (c + 36) i = nI (wgr W i 0) from R3.g0 hi, show rI (wI x (t + 4) i (nI (wgr W i 2))) (c + 37) i = nI (wgr W i 1) from R3.g1 hi]
    refine Ok_gd (in_nI hi (by decide)) (Ok_lt (Ok_s ⟨_, by rw [nI_1], (F.trans F3).trans (Fp.wI (by omega) (by omega) _ _), keepI (fillI p rfl) (by omega), ?_⟩))
    exact fillI (keepI q (by omega)) rfl
  · have R2 := R.fp I F (by omega)
    show Ok (Ic_look_l193 t c (nI 4) x) _
    unfold Ic_look_l193
    rw [if_pos (show (4 : Int32) ≤ nI 4 from by decide)]
    refine Ok_up (look5 R2 I ht) (fun y ⟨F2, z⟩ => ⟨y, rfl, fun a ha => ?_, fun g hg => ?_, fun g hg => ?_, z⟩)
    · exact ⟨(F2 a (by omega)).1.trans (F a (by omega)).1, (F2 a (by omega)).2.trans (F a (by omega)).2⟩
    · rw [F2.a (by omega), p g hg]
    · rw [F2.a (by omega), q g hg]
theorem look3b (R : CR m c W) (I : Inv W) (ht : c + 40 ≤ t ∨ t + 17 ≤ c) {h : Nat} (hh : h < 8) {Q : (Int32 × Mem) ⊕ Mem → Prop} (k : ∀ x, Fp (t + 8 + h) (t + 9 + h) m x → (∀ k, k < 4 → x.1 (t + 8 + h) k = nI (givesN W h k)) → Q (.inl (nI (h + 1), x))) : Ok (loop (fun s : Int32 × Mem => Ic_look_l157 t c (nI h) s.1 s.2) (0, m)) Q := by
  refine Ok_for 4 (fun i x => Fp (t + 8 + h) (t + 9 + h) m x ∧ ∀ k, k < i → x.1 (t + 8 + h) k = nI (givesN W h k)) ⟨Fp.refl, fun k hk => by omega⟩ (fun i x hi ⟨F, p⟩ => ?_) (fun x ⟨F, p⟩ => ?_)
  · have R2 := R.fp I F (by omega)
    show Ok (Ic_look_l157 t c (nI h) (nI i) x) _
    unfold Ic_look_l157
    rw [if_neg (show ¬ (4 : Int32) ≤ nI i from nI_ge (b := 4) hi (by decide)), Ca_givenBy_e R2 I hh (by omega), bind_s, ix_nI (by omega), ix_nI (by omega), show t + 7 + (1 + h) = t + 8 + h by omega]
    exact Ok_gd (in_nI hh (by decide)) (Ok_gd (in_nI hi (by decide)) (Ok_lt (Ok_s ⟨_, by rw [nI_1], F.trans (Fp.wI (by omega) (by omega) _ _), fillI p rfl⟩)))
  · show Ok (Ic_look_l157 t c (nI h) (nI 4) x) _
    unfold Ic_look_l157
    rw [if_pos (show (4 : Int32) ≤ nI 4 from by decide), nI_1]
    exact Ok_up (Ok_s rfl) (fun r hr => ⟨_, rfl, by rw [← hr]; exact k x F p⟩)
/-- what does not change by the hours -/
def IcA (m : Mem) (t : Nat) (W : Wd) : Prop :=
  m.1 t 0 = nI (2 ^ W 5) ∧ m.1 t 2 = nI (W 18) ∧ m.1 t 3 = nI (W 10) ∧ (∀ k, k < W 5 → m.1 (t + 3) k = nI (oddsN W k)) ∧ (∀ g, g < 4 → m.1 (t + 4) g = nI (wgr W g 2)) ∧ (∀ g, g < 4 → m.1 (t + 5) g = nI (gbN W g)) ∧
  (∀ h, h < 8 → m.1 (t + 6) h = nI (hbN W h)) ∧ (∀ h k, h < 8 → k < 4 → m.1 (t + 8 + h) k = nI (givesN W h k)) ∧ ∀ k, k < 4 → m.1 (t + 16) k = nI (ndN W k)
theorem look3 (R : CR m c W) (I : Inv W) (ht : c + 40 ≤ t ∨ t + 17 ≤ c) : Ok (Ic_look_b124 t c m) (fun m' => (∀ a, a < t + 4 ∨ a = t + 7 ∨ t + 17 ≤ a → m'.1 a = m.1 a ∧ m'.2 a = m.2 a) ∧ (∀ g, g < 4 → m'.1 (t + 4) g = nI (wgr W g 2)) ∧ (∀ g, g < 4 → m'.1 (t + 5) g = nI (gbN W g)) ∧
  (∀ h, h < 8 → m'.1 (t + 6) h = nI (hbN W h)) ∧ (∀ h k, h < 8 → k < 4 → m'.1 (t + 8 + h) k = nI (givesN W h k)) ∧ ∀ k, k < 4 → m'.1 (t + 16) k = nI (ndN W k)) := by
  unfold Ic_look_b124
  refine Ok_for 8 (fun i x => (∀ a, a < t + 6 ∨ a = t + 7 ∨ t + 16 ≤ a → x.1 a = m.1 a ∧ x.2 a = m.2 a) ∧ (∀ h, h < i → x.1 (t + 6) h = nI (hbN W h)) ∧ (∀ h k, h < i → k < 4 → x.1 (t + 8 + h) k = nI (givesN W h k))) ⟨fun a _ => ⟨rfl, rfl⟩, fun k hk => by omega, fun k _ hk => by omega⟩ (fun i x hi ⟨F, p, q⟩ => ?_) (fun x ⟨F, p, q⟩ => ?_)
  · have F0 : Fp (t + 6) (t + 16) m x := fun a ha => F a (by omega)
    have R2 := R.fp I F0 (by omega)
    have F3 : Fp (t + 6) (t + 7) x (wI x (t + 6) i (nI (hbN W i))) := Fp.wI (by omega) (by omega) _ _
    have R3 := R2.fp I F3 (by omega)
    show Ok (Ic_look_l126 t c (nI i) x) _
    unfold Ic_look_l126
    rw [if_neg (show ¬ (8 : Int32) ≤ nI i from nI_ge (b := 8) hi (by decide)), ix_nI (by omega), show rI x (c + 25) i = hxI W i from R2.hx hi, show rI x (c + 26) i = nI (whe W i 2) from R2.hy hi, Fl_beyond_e R2 I, bind_s]
    refine Ok_gd (in_nI hi (by decide)) (Ok_gd (in_nI hi (by decide)) (Ok_gd (in_nI hi (by decide)) (Ok_lt ?_)))
    refine look3b R3 I ht hi (fun y F4 z => ⟨y, rfl, fun a ha => ?_, fun h hh => ?_, fun h k hh hk => ?_⟩)
    · exact ⟨((F4 a (by omega)).1.trans (F3 a (by omega)).1).trans (F a (by omega)).1, ((F4 a (by omega)).2.trans (F3 a (by omega)).2).trans (F a (by omega)).2⟩
    · rw [F4.a (by omega)]
      exact fillI p rfl h hh
    · rcases Nat.lt_or_ge h i with w | w
      · rw [F4.a (by omega), F3.a (by omega), q h k w hk]
      · rw [show h = i by omega]
        exact z k hk
  · have F0 : Fp (t + 6) (t + 16) m x := fun a ha => F a (by omega)
    have R2 := R.fp I F0 (by omega)
    show Ok (Ic_look_l126 t c (nI 8) x) _
    unfold Ic_look_l126
    rw [if_pos (show (8 : Int32) ≤ nI 8 from by decide)]
    refine Ok_up (look4 R2 I ht) (fun y ⟨F2, a1, a2, a3⟩ => ⟨y, rfl, fun a ha => ?_, a1, a2, fun h hh => ?_, fun h k hh hk => ?_, a3⟩)
    · exact ⟨(F2 a (by omega)).1.trans (F a (by omega)).1, (F2 a (by omega)).2.trans (F a (by omega)).2⟩
    · rw [(F2 _ (by omega)).1, p h hh]
    · rw [(F2 _ (by omega)).1, q h k hh hk]
theorem look2 (R : CR m c W) (I : Inv W) (ht : c + 40 ≤ t ∨ t + 17 ≤ c) : Ok (loop (fun s : Int32 × Mem => Ic_look_l85 t c s.1 s.2) (0, m)) (fun m' => (∀ a, a < t + 3 ∨ a = t + 7 ∨ t + 17 ≤ a → m'.1 a = m.1 a ∧ m'.2 a = m.2 a) ∧ (∀ k, k < W 5 → m'.1 (t + 3) k = nI (oddsN W k)) ∧ (∀ g, g < 4 → m'.1 (t + 4) g = nI (wgr W g 2)) ∧ (∀ g, g < 4 → m'.1 (t + 5) g = nI (gbN W g)) ∧
  (∀ h, h < 8 → m'.1 (t + 6) h = nI (hbN W h)) ∧ (∀ h k, h < 8 → k < 4 → m'.1 (t + 8 + h) k = nI (givesN W h k)) ∧ ∀ k, k < 4 → m'.1 (t + 16) k = nI (ndN W k)) := by
  have d := I.d
  refine Ok_for (W 5) (fun i x => Fp (t + 3) (t + 4) m x ∧ (∀ k, k < i → x.1 (t + 3) k = nI (oddsN W k))) ⟨Fp.refl, fun k hk => by omega⟩ (fun i x hi ⟨F, p⟩ => ?_) (fun x ⟨F, p⟩ => ?_)
  · have R2 := R.fp I F (by omega)
    show Ok (Ic_look_l85 t c (nI i) x) _
    unfold Ic_look_l85
    rw [show rI x (c + 2) 1 = nI (W 5) from R2.nC, if_neg (nI_ge hi (by omega)), if_neg (show ¬ (7 : Int32) ≤ nI i from nI_ge (b := 7) (by omega) (by decide)), Ca_tonsNear_e R2 I hi, bind_s, Fl_oddsUnder_e R2 I hi (near_le I i), bind_s, ix_nI (by omega), show oddsByN W i (nearN W i) = oddsN W i from rfl]
    exact Ok_gd (in_nI (n := 7) (by omega) (by decide)) (Ok_lt (Ok_s ⟨_, by rw [nI_1], F.trans (Fp.wI (by omega) (by omega) _ _), fillI p rfl⟩))
  · have R2 := R.fp I F (by omega)
    show Ok (Ic_look_l85 t c (nI (W 5)) x) _
    unfold Ic_look_l85
    rw [show rI x (c + 2) 1 = nI (W 5) from R2.nC, if_pos (nI_le (Nat.le_refl _) (by omega))]
    refine Ok_up (look3 R2 I ht) (fun y ⟨F2, a1, a2, a3, a4, a5⟩ => ⟨y, rfl, fun a ha => ?_, fun k hk => ?_, a1, a2, a3, a4, a5⟩)
    · exact ⟨(F2 a (by omega)).1.trans (F a (by omega)).1, (F2 a (by omega)).2.trans (F a (by omega)).2⟩
    · rw [(F2 _ (by omega)).1, p k hk]
theorem look1 (R : CR m c W) (I : Inv W) (ht : c + 40 ≤ t ∨ t + 17 ≤ c) (h0 : m.1 t 0 = nI (2 ^ W 5)) (h2 : m.1 t 2 = nI (W 18)) (h3 : m.1 t 3 = nI (W 10)) : Ok (loop (fun s : Int32 × Mem => Ic_look_l41 t c s.1 s.2) (0, m)) (fun m' => Fp t (t + 17) m m' ∧ IcA m' t W ∧ (∀ s, s < 2 ^ W 5 → m'.2 (t + 1) s = openL W s) ∧ ∀ s, s < 2 ^ W 5 → m'.1 (t + 2) s = 0) := by
  have d := I.d
  obtain ⟨-, -, -, -, -, -, -, -, -, -, -, b18, -⟩ := I.2.1
  have hp := p2le (k := W 5) (n := 7) (by omega)
  refine Ok_for (2 ^ W 5) (fun i x => Fp (t + 1) (t + 3) m x ∧ (∀ s, s < i → x.2 (t + 1) s = openL W s) ∧ (∀ s, s < i → x.1 (t + 2) s = 0)) ⟨Fp.refl, fun k hk => by omega, fun k hk => by omega⟩ (fun i x hi ⟨F, p, q⟩ => ?_) (fun x ⟨F, p, q⟩ => ?_)
  · have R2 := R.fp I F (by omega)
    have key : ∀ v : Int64, v = openL W i → Ok (Ic_look_b69 t c (nI i) (nI i) v x) (fun r => ∃ x', r = Sum.inl (nI (i + 1), x') ∧ Fp (t + 1) (t + 3) m x' ∧ (∀ s, s < i + 1 → x'.2 (t + 1) s = openL W s) ∧ (∀ s, s < i + 1 → x'.1 (t + 2) s = 0)) := by
      intro v hv
      unfold Ic_look_b69
      rw [ix_nI (by omega)]
      refine Ok_gd (in_nI (n := 128) (by omega) (by decide)) (Ok_lt (Ok_gd (in_nI (n := 128) (by omega) (by decide)) (Ok_lt (Ok_s ⟨_, by rw [nI_1], (F.trans (Fp.wL (by omega) (by omega) _ _)).trans (Fp.wI (by omega) (by omega) _ _), ?_, ?_⟩))))
      · exact fillL p hv
      · exact fillI (m := wL x (t + 1) i v) (f := fun _ => 0) q rfl
    show Ok (Ic_look_l41 t c (nI i) x) _
    unfold Ic_look_l41
    rw [show rI x t 0 = nI (2 ^ W 5) by rw [← h0]; exact F.a (by omega) 0, if_neg (nI_ge hi (by omega)), show rI x t 2 = nI (W 18) by rw [← h2]; exact F.a (by omega) 2]
    unfold openL at key
    by_cases e : i = W 18
    · rw [if_pos (congrArg nI e)]
      exact key _ (by rw [if_pos e])
    · rw [if_neg (fun w => e ((nI_eq (by omega) (by omega)).mp w))]
      exact key _ (by rw [if_neg e])
  · have R2 := R.fp I F (by omega)
    show Ok (Ic_look_l41 t c (nI (2 ^ W 5)) x) _
    unfold Ic_look_l41
    rw [show rI x t 0 = nI (2 ^ W 5) by rw [← h0]; exact F.a (by omega) 0, if_pos (nI_le (Nat.le_refl _) (by omega))]
    refine Ok_up (look2 R2 I ht) (fun y ⟨F2, a0, a1, a2, a3, a4, a5⟩ => ⟨y, rfl, fun a ha => ?_, ⟨?_, ?_, ?_, a0, a1, a2, a3, a4, a5⟩, fun s hs => ?_, fun s hs => ?_⟩)
    · exact ⟨(F2 a (by omega)).1.trans (F a (by omega)).1, (F2 a (by omega)).2.trans (F a (by omega)).2⟩
    · rw [(F2 t (by omega)).1, F.a (by omega), h0]
    · rw [(F2 t (by omega)).1, F.a (by omega), h2]
    · rw [(F2 t (by omega)).1, F.a (by omega), h3]
    · rw [(F2 _ (by omega)).2, p s hs]
    · rw [(F2 _ (by omega)).1, q s hs]
theorem Ic_look_e (R : CR m c W) (I : Inv W) (ht : c + 40 ≤ t ∨ t + 17 ≤ c) : Ok (Ic_look t c m) (fun m' => Fp t (t + 17) m m' ∧ IcA m' t W ∧ (∀ s, s < 2 ^ W 5 → m'.2 (t + 1) s = openL W s) ∧ ∀ s, s < 2 ^ W 5 → m'.1 (t + 2) s = 0) := by
  have d := I.d
  unfold Ic_look
  have e0 : (1 : Int32) <<< (jmin (rI m (c + 2) 1) 7 &&& 31) = nI (2 ^ W 5) := by
    rw [show rI m (c + 2) 1 = nI (W 5) from R.nC, show (7 : Int32) = nI 7 from rfl, jmin_nI (by omega) (by decide), show min (W 5) 7 = W 5 by omega, shl1 (by omega)]
  have F1 : Fp t (t + 17) m (wI m t 0 (nI (2 ^ W 5))) := Fp.wI (by omega) (by omega) _ _
  have R1 := R.fp I F1 (by omega)
  have F2 : Fp t (t + 17) (wI m t 0 (nI (2 ^ W 5))) (wI (wI m t 0 (nI (2 ^ W 5))) t 2 (nI (W 18))) := Fp.wI (by omega) (by omega) _ _
  have R2 := R1.fp I F2 (by omega)
  have F3 : Fp t (t + 17) (wI (wI m t 0 (nI (2 ^ W 5))) t 2 (nI (W 18))) (wI (wI (wI m t 0 (nI (2 ^ W 5))) t 2 (nI (W 18))) t 3 (nI (W 10))) := Fp.wI (by omega) (by omega) _ _
  have R3 := R2.fp I F3 (by omega)
  refine Ok_lt (Ok_lt ?_)
  rw [e0, show rI (wI m t 0 (nI (2 ^ W 5))) c 7 = nI (W 18) from R1.op]
  refine Ok_lt ?_
  rw [show rI (wI (wI m t 0 (nI (2 ^ W 5))) t 2 (nI (W 18))) (c + 1) 7 = nI (W 10) from cf7 R2]
  refine Ok_mono (look1 R3 I ht ?_ ?_ ?_) (fun y ⟨G, a⟩ => ⟨((F1.trans F2).trans F3).trans G, a⟩)
  · rw [wI_at, if_neg (by decide), wI_at, if_neg (by decide), wI_self]
  · rw [wI_at, if_neg (by decide), wI_self]
  · rw [wI_self]
end ICE
