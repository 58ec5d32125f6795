/-! all is laid by a laying: lay, trial -/
theorem rg_t1 : ∀ S, S < 256 → S ≠ 0 → ((rgS S).take 1).length = 1 ∧ ((rgS S).take 1).getD 0 0 = (rgS S).getD 0 0 ∧ blN ((rgS S).take 1) ≠ 0 := by decide +kernel
theorem rg_z : rgS 0 = [] := by decide +kernel
theorem rg_all : ∀ S, S < 256 → (rgS S).take 8 = rgS S := by decide +kernel
section LAYS
variable {m : Mem} {c : Nat} {W : Wd}
def t1S (T l : Nat) : Nat := if l = 0 then blN ((rgS T).take 1) else T
theorem t1_ok {T : Nat} (hT : T < 256) (h0 : T ≠ 0) (l : Nat) : t1S T l < 256 ∧ t1S T l ≠ 0 ∧ (rgS (t1S T l)).getD 0 0 = (rgS T).getD 0 0 := by
  obtain ⟨a, b, e⟩ := rg_t1 T hT h0
  obtain ⟨f, g⟩ := rg_take T hT 1 (by omega)
  unfold t1S
  by_cases q : l = 0
  · rw [if_pos q, f]
    exact ⟨g, e, b⟩
  · rw [if_neg q]
    exact ⟨hT, h0, rfl⟩
theorem t1_rg {T : Nat} (hT : T < 256) (h0 : T ≠ 0) (hL : RgO W (rgS T)) (l : Nat) : RgO W (rgS (t1S T l)) := by
  obtain ⟨a, b, e⟩ := rg_t1 T hT h0
  obtain ⟨f, g⟩ := rg_take T hT 1 (by omega)
  unfold t1S
  by_cases q : l = 0
  · rw [if_pos q, f]
    refine ⟨by omega, by omega, fun p hp => ?_⟩
    rw [show p = 0 by omega, b]
    exact hL.2.2 0 hL.1
  · rw [if_neg q]
    exact hL
def lay1 (W : Wd) (T : Nat) : Wd := (lyG (rgS T) (fun s => decide (wso W s 0 = 2)) false (tkW W) (W 6)).1
def layW (W : Wd) (T l : Nat) : Wd := if l = 3 then (lyG (rgS (stS (lay1 W T))) (fun s => !decide (wso W s 0 = 2)) false (lay1 W T) (W 6)).1 else (lyG (rgS (t1S T l)) (fun _ => true) (decide (l = 2)) (tkW W) (W 6)).1
theorem tk_0 (I : Inv W) {f : Nat → Bool} : ∀ s, s < (tkW W) 6 → f s = true → unN (tkW W) s = 0 := fun s hs _ => by
  have d := I.d
  rw [(tk_al W).1 6 (by omega)] at hs
  exact tk_un W (by omega)
theorem lay1_ok (I : Inv W) {T : Nat} (hL : RgO W (rgS T)) : Inv (lay1 W T) ∧ AlU W (lay1 W T) ∧ ∀ s, s < W 6 → ¬ wso W s 0 = 2 → unN (lay1 W T) s = 0 := by
  have d := I.d
  have e6 : tkW W 6 = W 6 := (tk_al W).1 6 (by omega)
  obtain ⟨a, b, e, f⟩ := lyG_ok (f := fun s => decide (wso W s 0 = 2)) (r := false) I.tk (hL.al (tk_al W)) (tk_0 I) (W 6) (by omega)
  refine ⟨a, (tk_al W).trans b, fun s hs hk => ?_⟩
  refine sN_0 (fun h hh => ?_)
  rw [show whe (lay1 W T) h (3 + s) = whe (tkW W) h (3 + s) from f s h (Or.inr (decide_eq_false hk)) (by omega) hh]
  exact tk_u W hh (by omega)
theorem st_rg (I : Inv W) (h0 : thS W ≠ 0) : RgO W (rgS (stS W)) ∧ stS W < 256 ∧ stS W ≠ 0 := by
  have tl := th_lt W
  have sl := se_lt W
  unfold stS
  by_cases q : seS W = 0
  · rw [if_pos q]
    obtain ⟨-, a, b⟩ := rg_first _ tl h0
    refine ⟨⟨a, b, fun p hp => ?_⟩, tl, h0⟩
    obtain ⟨e, f⟩ := rg_lt _ tl p (by omega) hp
    rw [th_bit W e] at f
    exact ⟨e, of_decide_eq_true f⟩
  · rw [if_neg q]
    obtain ⟨-, a, b⟩ := rg_first _ sl q
    refine ⟨⟨a, b, fun p hp => ?_⟩, sl, q⟩
    obtain ⟨e, f⟩ := rg_lt _ sl p (by omega) hp
    rw [se_bit W e] at f
    refine ⟨e, ?_⟩
    apply Classical.byContradiction
    intro z
    have := of_decide_eq_true f
    rw [gives_0 I e 2 z] at this
    omega
theorem th_al {W' : Wd} (h : AlU W W') : thS W' = thS W := by
  apply Nat.eq_of_testBit_eq
  intro i
  by_cases q : i < 8
  · rw [th_bit W' q, th_bit W q, h.2 i 0 q (by omega)]
  · rw [Nat.testBit_lt_two_pow (Nat.lt_of_lt_of_le (th_lt W') (p2le (n := i) (k := 8) (by omega))), Nat.testBit_lt_two_pow (Nat.lt_of_lt_of_le (th_lt W) (p2le (n := i) (k := 8) (by omega)))]
theorem layW_ok (I : Inv W) (h0 : thS W ≠ 0) {T : Nat} (hT : T < 256) (hT0 : T ≠ 0) (hL : RgO W (rgS T)) (l : Nat) : Inv (layW W T l) ∧ AlU W (layW W T l) := by
  have d := I.d
  have e6 : tkW W 6 = W 6 := (tk_al W).1 6 (by omega)
  unfold layW
  by_cases q : l = 3
  · rw [if_pos q]
    obtain ⟨a, b, e⟩ := lay1_ok I hL
    have e6b : lay1 W T 6 = W 6 := b.1 6 (by omega)
    obtain ⟨f, g, h⟩ := st_rg a (by rw [th_al b]; exact h0)
    obtain ⟨x, y, -⟩ := lyG_ok (f := fun s => !decide (wso W s 0 = 2)) (r := false) a f (fun s hs hf => e s (by omega) (by simpa using hf)) (W 6) (by omega)
    exact ⟨x, b.trans y⟩
  · rw [if_neg q]
    obtain ⟨x, y, -⟩ := lyG_ok (f := fun _ => true) (r := decide (l = 2)) I.tk ((t1_rg hT hT0 hL l).al (tk_al W)) (tk_0 I) (W 6) (by omega)
    exact ⟨x, (tk_al W).trans y⟩
/-! the class -/
theorem Ca_layKind_e (R : CR m c W) (I : Inv W) {L : List Nat} (hL : RgO W L) (g : RG m c L) (b : Bool) (hu : ∀ s, s < W 6 → (decide (wso W s 0 = 2) == b) = true → unN W s = 0) :
    Ok (Ca_layKind c (if b = true then 1 else 0) (nI L.length) m) (fun x => CR x c (lyG L (fun s => decide (wso W s 0 = 2) == b) false W (W 6)).1 ∧ Fp (c + 28) (c + 36) m x) := by
  have d := I.d
  have l8 := hL.2.1
  unfold Ca_layKind
  refine Ok_loop (W 6) (fun s (x : Nat × Mem) => (nI x.1, nI s, x.2)) (fun s x => x.1 ≤ L.length ∧ x.1 % L.length = (lyG L (fun s => decide (wso W s 0 = 2) == b) false W s).2 ∧ CR x.2 c (lyG L (fun s => decide (wso W s 0 = 2) == b) false W s).1 ∧ Fp (c + 28) (c + 36) m x.2) (0, m) rfl ⟨Nat.zero_le _, Nat.zero_mod _, R, Fp.refl⟩ (fun s x hs ⟨x1, x2, x3, F⟩ => ?_) (fun x ⟨x1, x2, x3, F⟩ => ?_)
  · obtain ⟨b1, b2, b3, b4⟩ := lyG_ok (r := false) I hL hu s (by omega)
    have e6 : (lyG L (fun s => decide (wso W s 0 = 2) == b) false W s).1 6 = W 6 := b2.1 6 (by omega)
    have eS := fun k hk => b2.so (s := s) (k := k) (by omega) hk
    obtain ⟨s0, -⟩ := I.S hs
    have gx : RG x.2 c L := g.fp (F _ (by omega)).1
    show Ok (Ca_layKind_l5 c (if b = true then 1 else 0) (nI L.length) (nI x.1) (nI s) x.2) _
    unfold Ca_layKind_l5
    rw [show rI x.2 (c + 11) 1 = nI (W 6) by rw [← e6]; exact x3.nS]
    refine Ok_if (nI_ge hs (by omega)) (Ok_b (tS0 x3 b1 (by omega)) ?_)
    rw [show wso (lyG L (fun s => decide (wso W s 0 = 2) == b) false W s).1 s 0 = wso W s 0 from eS 0 (by omega)]
    have fin : ∀ k0 : Int32, k0 = (if wso W s 0 = 2 then 1 else 0) → Ok (Ca_layKind_b42 c (if b = true then 1 else 0) (nI L.length) (nI x.1) (nI s) k0 x.2) (fun r => ∃ x' : Nat × Mem, r = Sum.inl (nI x'.1, nI (s + 1), x'.2) ∧ x'.1 ≤ L.length ∧ x'.1 % L.length = (lyG L (fun s => decide (wso W s 0 = 2) == b) false W (s + 1)).2 ∧ CR x'.2 c (lyG L (fun s => decide (wso W s 0 = 2) == b) false W (s + 1)).1 ∧ Fp (c + 28) (c + 36) m x'.2) := by
      intro k0 hk0
      unfold Ca_layKind_b42 Ca_layKind_b55
      by_cases q : (decide (wso W s 0 = 2) == b) = true
      · have eq1 : k0 = if b = true then 1 else 0 := by
          rw [hk0]
          cases b <;> by_cases z : wso W s 0 = 2 <;> simp_all
        have eq2 : lyG L (fun s => decide (wso W s 0 = 2) == b) false W (s + 1) = goW L s ((lyG L (fun s => decide (wso W s 0 = 2) == b) false W s).1, (lyG L (fun s => decide (wso W s 0 = 2) == b) false W s).2) (wso W s 3) := if_pos q
        have u0 : unN (lyG L (fun s => decide (wso W s 0 = 2) == b) false W s).1 s = 0 := by
          exact Eq.trans (sN_cong (fun h hh => b4 s h (Or.inl (Nat.le_refl _)) (by omega) hh)) (hu s hs q)
        refine Ok_it eq1 (Ok_bind (Ca_laySort_e x3 b1 (hL.al b2) gx (by omega) x1 u0) ?_)
        rintro ⟨r, y⟩ ⟨a', a1, rfl, a3, a4, a5⟩
        simp only at a4 a5 ⊢
        rw [show wso (lyG L (fun s => decide (wso W s 0 = 2) == b) false W s).1 s 3 = wso W s 3 from eS 3 (by omega), x2] at a3 a4
        refine Ok_s ⟨(a', y), by rw [nI_1], a1, ?_, ?_, F.trans a5⟩
        · rw [eq2]; exact a3
        · rw [eq2]; exact a4
      · have eq1 : ¬ k0 = if b = true then 1 else 0 := by
          rw [hk0]
          cases b <;> by_cases z : wso W s 0 = 2 <;> simp_all
        have eq2 : lyG L (fun s => decide (wso W s 0 = 2) == b) false W (s + 1) = lyG L (fun s => decide (wso W s 0 = 2) == b) false W s := if_neg q
        refine Ok_if eq1 (Ok_s ⟨x, by rw [nI_1], x1, ?_, ?_, F⟩)
        · rw [eq2]; exact x2
        · rw [eq2]; exact x3
    by_cases z : wso W s 0 = 2
    · exact Ok_it (congrArg nI z) (fin 1 (if_pos z).symm)
    · exact Ok_if (show ¬ nI (wso W s 0) = 2 from fun y => z ((nI_eq (b := 2) (by omega) (by decide)).mp y)) (fin 0 (if_neg z).symm)
  · obtain ⟨b1, b2, b3, b4⟩ := lyG_ok (r := false) I hL hu (W 6) (by omega)
    have e6 : (lyG L (fun s => decide (wso W s 0 = 2) == b) false W (W 6)).1 6 = W 6 := b2.1 6 (by omega)
    show Ok (Ca_layKind_l5 c (if b = true then 1 else 0) (nI L.length) (nI x.1) (nI (W 6)) x.2) _
    unfold Ca_layKind_l5
    rw [show rI x.2 (c + 11) 1 = nI (W 6) by rw [← e6]; exact x3.nS, if_pos (nI_le (Nat.le_refl _) (by omega)), up_some]
    exact Ok_s ⟨_, rfl, x3, F⟩
theorem Ca_lay62 (R : CR m c W) (I : Inv W) {L : List Nat} (hL : RgO W L) (g : RG m c L) {l : Nat} (hl : l < 4) (hu : ∀ s, s < W 6 → (fun _ => true) s = true → unN W s = 0) :
    Ok (loop (fun s : Int32 × Int32 × Mem => Ca_layAll_l62 c (nI l) (nI L.length) s.1 s.2.1 s.2.2) (0, 0, m)) (fun x => CR x c (lyG L (fun _ => true) (decide (l = 2)) W (W 6)).1 ∧ Fp (c + 28) (c + 36) m x) := by
  have d := I.d
  have l8 := hL.2.1
  refine Ok_loop (W 6) (fun s (x : Nat × Mem) => (nI x.1, nI s, x.2)) (fun s x => x.1 ≤ L.length ∧ x.1 % L.length = (lyG L (fun _ => true) (decide (l = 2)) W s).2 ∧ CR x.2 c (lyG L (fun _ => true) (decide (l = 2)) W s).1 ∧ Fp (c + 28) (c + 36) m x.2) (0, m) rfl ⟨Nat.zero_le _, Nat.zero_mod _, R, Fp.refl⟩ (fun s x hs ⟨x1, x2, x3, F⟩ => ?_) (fun x ⟨x1, x2, x3, F⟩ => ?_)
  · obtain ⟨b1, b2, b3, b4⟩ := lyG_ok (f := fun _ => true) (r := decide (l = 2)) I hL hu s (by omega)
    have e6 : (lyG L (fun _ => true) (decide (l = 2)) W s).1 6 = W 6 := b2.1 6 (by omega)
    have eS := fun k hk => b2.so (s := s) (k := k) (by omega) hk
    have gx : RG x.2 c L := g.fp (F _ (by omega)).1
    have u0 : unN (lyG L (fun _ => true) (decide (l = 2)) W s).1 s = 0 := by
      rw [← hu s hs rfl]
      exact sN_cong (fun h hh => b4 s h (Or.inl (Nat.le_refl _)) (by omega) hh)
    show Ok (Ca_layAll_l62 c (nI l) (nI L.length) (nI x.1) (nI s) x.2) _
    unfold Ca_layAll_l62
    rw [show rI x.2 (c + 11) 1 = nI (W 6) by rw [← e6]; exact x3.nS]
    refine Ok_if (nI_ge hs (by omega)) ?_
    have fin : ∀ a, a ≤ L.length → a % L.length = (if decide (l = 2) = true then 0 else (lyG L (fun _ => true) (decide (l = 2)) W s).2) → Ok (Ca_layAll_b92 c (nI l) (nI L.length) (nI s) (nI s) (nI L.length) (nI a) x.2) (fun r => ∃ x' : Nat × Mem, r = Sum.inl (nI x'.1, nI (s + 1), x'.2) ∧ x'.1 ≤ L.length ∧ x'.1 % L.length = (lyG L (fun _ => true) (decide (l = 2)) W (s + 1)).2 ∧ CR x'.2 c (lyG L (fun _ => true) (decide (l = 2)) W (s + 1)).1 ∧ Fp (c + 28) (c + 36) m x'.2) := by
      intro a ha ha2
      have eq2 : lyG L (fun _ => true) (decide (l = 2)) W (s + 1) = goW L s ((lyG L (fun _ => true) (decide (l = 2)) W s).1, if decide (l = 2) = true then 0 else (lyG L (fun _ => true) (decide (l = 2)) W s).2) (wso W s 3) := if_pos rfl
      unfold Ca_layAll_b92
      refine Ok_bind (Ca_laySort_e x3 b1 (hL.al b2) gx (by omega) ha u0) ?_
      rintro ⟨r, y⟩ ⟨a', a1, rfl, a3, a4, a5⟩
      simp only at a4 a5 ⊢
      rw [show wso (lyG L (fun _ => true) (decide (l = 2)) W s).1 s 3 = wso W s 3 from eS 3 (by omega), ha2] at a3 a4
      refine Ok_s ⟨(a', y), by rw [nI_1], a1, ?_, ?_, F.trans a5⟩
      · rw [eq2]; exact a3
      · rw [eq2]; exact a4
    by_cases q : l = 2
    · refine Ok_it (congrArg nI q) (fin 0 (Nat.zero_le _) ?_)
      rw [if_pos (decide_eq_true q), Nat.zero_mod]
    · refine Ok_if (show ¬ nI l = 2 from fun y => q ((nI_eq (b := 2) (by omega) (by decide)).mp y)) (fin x.1 x1 ?_)
      rw [if_neg (fun z => q (of_decide_eq_true z))]
      exact x2
  · obtain ⟨b1, b2, b3, b4⟩ := lyG_ok (f := fun _ => true) (r := decide (l = 2)) I hL hu (W 6) (by omega)
    have e6 : (lyG L (fun _ => true) (decide (l = 2)) W (W 6)).1 6 = W 6 := b2.1 6 (by omega)
    show Ok (Ca_layAll_l62 c (nI l) (nI L.length) (nI x.1) (nI (W 6)) x.2) _
    unfold Ca_layAll_l62
    rw [show rI x.2 (c + 11) 1 = nI (W 6) by rw [← e6]; exact x3.nS, if_pos (nI_le (Nat.le_refl _) (by omega)), up_some]
    exact Ok_s ⟨_, rfl, x3, F⟩
theorem Ca_layAll_e (R : CR m c W) (I : Inv W) (h0 : thS W ≠ 0) {l k T : Nat} (hl : l < 4) (hk : 1 ≤ k) (hk8 : k ≤ 8) (hT : T < 256) (hT0 : T ≠ 0) (hr : rgS T = (rgS (thS W)).take k) (h3 : l = 3 → k = 8) : Ok (Ca_layAll c (nI l) (nI k) m) (fun x => CR x c (layW W T l) ∧ Fp (c + 28) (c + 41) m x) := by
  have d := I.d
  have tl := th_lt W
  have hS : RgO W (rgS (thS W)) := by
    obtain ⟨-, a, b⟩ := rg_first _ tl h0
    refine ⟨a, b, fun p hp => ?_⟩
    obtain ⟨e, f⟩ := rg_lt _ tl p (by omega) hp
    rw [th_bit W e] at f
    exact ⟨e, of_decide_eq_true f⟩
  have hL : RgO W (rgS T) := by
    rw [hr]
    refine ⟨?_, ?_, fun p hp => ?_⟩
    · rw [List.length_take]; have := hS.1; omega
    · rw [List.length_take]; have := hS.2.1; omega
    · rw [List.length_take] at hp
      rw [List.getD_eq_getElem?_getD, List.getElem?_take, if_pos (by omega), ← List.getD_eq_getElem?_getD]
      exact hS.2.2 p (by omega)
  have b10 : ∀ k1, k1 ≤ 8 → rgS (t1S T l) = (rgS (thS W)).take k1 → Ok (Ca_layAll_b10 c (nI l) (nI k) (nI k1) m) (fun x => CR x c (layW W T l) ∧ Fp (c + 28) (c + 41) m x) := by
    intro k1 hk1 hr1
    have hL1 := t1_rg hT hT0 hL l
    unfold Ca_layAll_b10
    refine Ok_bind (Ca_ringOfHeaps_e R I hk1) ?_
    rintro ⟨r, m1⟩ ⟨rfl, g1, F1⟩
    simp only at g1 F1 ⊢
    rw [← hr1] at g1 ⊢
    refine Ok_bind (Ca_takeUpAll_e (R.fp I F1 (by omega)) I) (fun m2 ⟨R2, F2⟩ => ?_)
    have g2 : RG m2 c (rgS (t1S T l)) := g1.fp (F2 _ (by omega)).1
    have e6 : tkW W 6 = W 6 := (tk_al W).1 6 (by omega)
    by_cases q : l = 3
    · have eT : t1S T l = T := by
        unfold t1S
        rw [if_neg (by omega)]
      rw [eT] at g2 ⊢
      have hk3 := h3 q
      refine Ok_it (congrArg nI q) ?_
      have eK : ∀ s, s < W 6 → wso (tkW W) s 0 = wso W s 0 := fun s hs => (tk_al W).so (by omega) (by omega)
      have lcg : ∀ (V : Wd) (L : List Nat) (f f' : Nat → Bool) (r : Bool), ∀ n, (∀ s, s < n → f s = f' s) → lyG L f r V n = lyG L f' r V n := by
        intro V L f f' r n
        induction n with
        | zero => intro _; rfl
        | succ n ih =>
          intro h
          show (if f n = true then _ else _) = (if f' n = true then _ else _)
          rw [h n (by omega), ih (fun s hs => h s (by omega))]
      refine Ok_bind (Ca_layKind_e (b := true) R2 I.tk (hL.al (tk_al W)) g2 (tk_0 I)) (fun m3 ⟨R3, F3⟩ => ?_)
      have e1 : (lyG (rgS T) (fun s => decide (wso (tkW W) s 0 = 2) == true) false (tkW W) (tkW W 6)).1 = lay1 W T := by
        unfold lay1
        rw [e6, lcg (tkW W) (rgS T) _ (fun s => decide (wso W s 0 = 2)) false (W 6) (fun s hs => by rw [eK s hs]; simp)]
      rw [e1] at R3
      obtain ⟨a, b, e⟩ := lay1_ok I hL
      have e6b : lay1 W T 6 = W 6 := b.1 6 (by omega)
      have eK2 : ∀ s, s < W 6 → wso (lay1 W T) s 0 = wso W s 0 := fun s hs => b.so (by omega) (by omega)
      obtain ⟨f, g, h⟩ := st_rg a (by rw [th_al b]; exact h0)
      refine Ok_bind (Ca_ringOfSeats_e R3 a) ?_
      rintro ⟨r, m4⟩ ⟨rfl, g4, F4⟩
      simp only at g4 F4 ⊢
      have sl := se_lt (lay1 W T)
      have fin : ∀ m5 : Mem, RG m5 c (rgS (stS (lay1 W T))) → Fp (c + 40) (c + 41) m4 m5 → Ok (Ca_layAll_b52 c 0 (nI (rgS (stS (lay1 W T))).length) m5) (fun x => CR x c (layW W T l) ∧ Fp (c + 28) (c + 41) m x) := by
        intro m5 g5 F5
        unfold Ca_layAll_b52
        have R5 := (R3.fp a F4 (by omega)).fp a F5 (by omega)
        refine Ok_bind (Ca_layKind_e (b := false) R5 a f g5 (fun s hs hf => e s (by omega) (by rw [eK2 s (by omega)] at hf; simpa using hf))) (fun m6 ⟨R6, F6⟩ => Ok_s ⟨?_, ?_⟩)
        · have e2 : (lyG (rgS (stS (lay1 W T))) (fun s => decide (wso (lay1 W T) s 0 = 2) == false) false (lay1 W T) (lay1 W T 6)).1 = layW W T l := by
            unfold layW
            rw [if_pos q, e6b, lcg (lay1 W T) (rgS (stS (lay1 W T))) _ (fun s => !decide (wso W s 0 = 2)) false (W 6) (fun s hs => by rw [eK2 s hs]; simp)]
          rw [e2] at R6
          exact R6
        · exact (((F1.wide (by omega) (by omega)).trans (F2.wide (by omega) (by omega))).trans ((F3.wide (by omega) (by omega)).trans (F4.wide (by omega) (by omega)))).trans ((F5.wide (by omega) (by omega)).trans (F6.wide (by omega) (by omega)))
      by_cases z : seS (lay1 W T) = 0
      · have eS : stS (lay1 W T) = thS (lay1 W T) := if_pos z
        rw [z, rg_z]
        refine Ok_it (by decide) (Ok_bind (Ca_ringOfHeaps_e (R3.fp a F4 (by omega)) a hk8) ?_)
        rintro ⟨r, m5⟩ ⟨rfl, g5, F5⟩
        simp only at g5 F5 ⊢
        rw [hk3, rg_all _ (th_lt _), ← eS] at g5 ⊢
        exact fin m5 g5 F5
      · have eS : stS (lay1 W T) = seS (lay1 W T) := if_neg z
        obtain ⟨-, y1, y2⟩ := rg_first _ sl z
        refine Ok_if (nI_ne0 y1 (by omega)) ?_
        rw [← eS] at g4 ⊢
        exact fin m4 g4 Fp.refl
    · refine Ok_if (show ¬ nI l = 3 from fun y => q ((nI_eq (b := 3) (by omega) (by decide)).mp y)) ?_
      refine Ok_mono (Ca_lay62 R2 I.tk (hL1.al (tk_al W)) g2 hl (tk_0 I)) (fun x ⟨Rx, Fx⟩ => ⟨?_, ((F1.wide (by omega) (by omega)).trans (F2.wide (by omega) (by omega))).trans (Fx.wide (by omega) (by omega))⟩)
      unfold layW
      rw [if_neg q, ← e6]
      exact Rx
  unfold Ca_layAll
  by_cases q : l = 0
  · refine Ok_it (by rw [q]; rfl) (b10 1 (by omega) ?_)
    unfold t1S
    rw [if_pos q, (rg_take T hT 1 (by omega)).1, hr, List.take_take, show min 1 k = 1 by omega]
  · refine Ok_if (nI_ne0 (by omega) (by omega)) (b10 k hk8 ?_)
    unfold t1S
    rw [if_neg q, hr]
/-! the reference -/
theorem Mo_lays_e (hW : MW m W) (I : Inv W) (h0 : thS W ≠ 0) {T l : Nat} (hT : T < 256) (hT0 : T ≠ 0) (hL : RgO W (rgS T)) (hl : l < 4) : Ok (Mo_lays 298 (nI l) (nI T) m) (fun x => MW x (layW W T l) ∧ Fp 299 300 m x) := by
  have d := I.d
  have e6 : tkW W 6 = W 6 := (tk_al W).1 6 (by omega)
  have hL1 := (t1_rg hT hT0 hL l).al (tk_al W)
  obtain ⟨t1, t2, t3⟩ := t1_ok hT hT0 l
  let f : Nat → Bool := if l = 3 then fun s => decide (wso W s 0 = 2) else fun _ => true
  let L := rgS (t1S T l)
  have hu : ∀ s, s < (tkW W) 6 → f s = true → unN (tkW W) s = 0 := tk_0 I
  unfold Mo_lays
  refine Ok_bind (Mo_takeUp_e hW) (fun m1 ⟨W1, F1⟩ => Ok_b (Mo_firstOf_e m1 hT hT0) ?_)
  refine Ok_loop (W 6) (fun s x => (nI (L.getD (lyG L f (decide (l = 2)) (tkW W) s).2 0), nI s, x)) (fun s x => MW x (lyG L f (decide (l = 2)) (tkW W) s).1 ∧ Fp 299 300 m x) m1 ?_ ⟨W1, F1⟩ (fun s x hs ⟨x1, F⟩ => ?_) (fun x ⟨x1, F⟩ => ?_)
  · show (nI ((rgS (t1S T l)).getD 0 0), nI 0, m1) = _
    rw [t3]
    rfl
  · obtain ⟨b1, b2, b3, b4⟩ := lyG_ok (r := decide (l = 2)) I.tk hL1 hu s (by omega)
    have eS := fun k hk => (((tk_al W).trans b2).so (s := s) (k := k) (by omega) hk)
    obtain ⟨s0, -⟩ := I.S hs
    have e6x : (lyG L f (decide (l = 2)) (tkW W) s).1 6 = W 6 := ((tk_al W).trans b2).1 6 (by omega)
    show Ok (Mo_lays_l12 298 (nI l) (nI T) (nI (L.getD (lyG L f (decide (l = 2)) (tkW W) s).2 0)) (nI s) x) _
    have gr : f s = true → ∀ p, p < L.length → p = (if decide (l = 2) = true then 0 else (lyG L f (decide (l = 2)) (tkW W) s).2) → Ok (Mo_lays_b53 298 (nI l) (nI T) (nI (L.getD p 0)) (nI s) x) (fun r => ∃ x', r = Sum.inl (nI (L.getD (lyG L f (decide (l = 2)) (tkW W) (s + 1)).2 0), nI (s + 1), x') ∧ MW x' (lyG L f (decide (l = 2)) (tkW W) (s + 1)).1 ∧ Fp 299 300 m x') := by
      intro hf p hp hp2
      have u0 : unN (lyG L f (decide (l = 2)) (tkW W) s).1 s = 0 := by
        rw [← hu s (by omega) hf]
        exact sN_cong (fun h hh => b4 s h (Or.inl (Nat.le_refl _)) (by omega) hh)
      have eq2 : lyG L f (decide (l = 2)) (tkW W) (s + 1) = goW L s ((lyG L f (decide (l = 2)) (tkW W) s).1, p) (wso W s 3) := by
        rw [hp2, ← show wso (tkW W) s 3 = wso W s 3 from (tk_al W).so (by omega) (by omega)]
        exact if_pos hf
      have b70 : Ok (Mo_lays_b70 298 (nI l) (nI T) (nI (L.getD p 0)) (nI s) (nI s) (nI (t1S T l)) x) (fun r => ∃ x', r = Sum.inl (nI (L.getD (lyG L f (decide (l = 2)) (tkW W) (s + 1)).2 0), nI (s + 1), x') ∧ MW x' (lyG L f (decide (l = 2)) (tkW W) (s + 1)).1 ∧ Fp 299 300 m x') := by
        unfold Mo_lays_b70 Mo_lays_b75
        refine Ok_bind (Mo_goesRound_e x1 b1 t1 t2 (hL1.al b2) (by omega) hp u0) ?_
        rintro ⟨r, y⟩ ⟨rfl, y2, y3⟩
        simp only at y2 y3 ⊢
        rw [show wso (lyG L f (decide (l = 2)) (tkW W) s).1 s 3 = wso W s 3 from eS 3 (by omega)] at y2 ⊢
        rw [eq2, nI_1]
        exact Ok_s ⟨y, rfl, y2, F.trans y3⟩
      unfold Mo_lays_b53
      by_cases q : l = 0
      · refine Ok_it (by rw [q]; rfl) (Ok_b (Mo_firstOf_e x hT hT0) ?_)
        rw [shl1 (by have := (hL.2.2 0 hL.1).1; omega), rg_one T hT hT0, show blN ((rgS T).take 1) = t1S T l from (if_pos q).symm]
        exact b70
      · refine Ok_if (nI_ne0 (by omega) (by omega)) ?_
        have : t1S T l = T := if_neg q
        rw [this] at b70
        exact b70
    have b43 : f s = true → Ok (Mo_lays_b43 298 (nI l) (nI T) (nI (L.getD (lyG L f (decide (l = 2)) (tkW W) s).2 0)) (nI s) x) (fun r => ∃ x', r = Sum.inl (nI (L.getD (lyG L f (decide (l = 2)) (tkW W) (s + 1)).2 0), nI (s + 1), x') ∧ MW x' (lyG L f (decide (l = 2)) (tkW W) (s + 1)).1 ∧ Fp 299 300 m x') := by
      intro hf
      unfold Mo_lays_b43
      by_cases q : l = 2
      · refine Ok_it (congrArg nI q) (Ok_b (Mo_firstOf_e x hT hT0) ?_)
        rw [← t3]
        exact gr hf 0 hL1.1 (by rw [if_pos (decide_eq_true q)])
      · refine Ok_if (show ¬ nI l = 2 from fun y => q ((nI_eq (b := 2) (by omega) (by decide)).mp y)) ?_
        exact gr hf _ b3 (by rw [if_neg (fun z => q (of_decide_eq_true z))])
    unfold Mo_lays_l12
    refine Ok_gd (by decide) ?_
    rw [qW6 x1, e6x]
    refine Ok_if (nI_ge hs (by omega)) ?_
    by_cases q : l = 3
    · have hf : f = fun s => decide (wso W s 0 = 2) := if_pos q
      refine Ok_it (congrArg nI q) (Ok_b (qS0 x1 (by omega)) ?_)
      rw [show wso (lyG L f (decide (l = 2)) (tkW W) s).1 s 0 = wso W s 0 from eS 0 (by omega)]
      by_cases z : wso W s 0 = 2
      · exact Ok_it (congrArg nI z) (b43 (by rw [hf]; exact decide_eq_true z))
      · refine Ok_if (show ¬ nI (wso W s 0) = 2 from fun y => z ((nI_eq (b := 2) (by omega) (by decide)).mp y)) ?_
        unfold Mo_lays_b75
        have eq2 : lyG L f (decide (l = 2)) (tkW W) (s + 1) = lyG L f (decide (l = 2)) (tkW W) s := if_neg (by rw [hf]; exact fun w => z (of_decide_eq_true w))
        rw [eq2, nI_1]
        exact Ok_s ⟨x, rfl, x1, F⟩
    · have hf : f = fun _ => true := if_neg q
      exact Ok_if (show ¬ nI l = 3 from fun y => q ((nI_eq (b := 3) (by omega) (by decide)).mp y)) (b43 (by rw [hf]))
  · obtain ⟨b1, b2, b3, b4⟩ := lyG_ok (r := decide (l = 2)) I.tk hL1 hu (W 6) (by omega)
    have e6x : (lyG L f (decide (l = 2)) (tkW W) (W 6)).1 6 = W 6 := ((tk_al W).trans b2).1 6 (by omega)
    show Ok (Mo_lays_l12 298 (nI l) (nI T) (nI (L.getD (lyG L f (decide (l = 2)) (tkW W) (W 6)).2 0)) (nI (W 6)) x) _
    unfold Mo_lays_l12
    refine Ok_gd (by decide) ?_
    rw [qW6 x1, e6x]
    refine Ok_it (nI_le (Nat.le_refl _) (by omega)) ?_
    by_cases q : l = 3
    · have hf : f = fun s => decide (wso W s 0 = 2) := if_pos q
      have eT : t1S T l = T := by
        unfold t1S
        rw [if_neg (by omega)]
      have e1 : (lyG L f (decide (l = 2)) (tkW W) (W 6)).1 = lay1 W T := by
        show (lyG (rgS (t1S T l)) f (decide (l = 2)) (tkW W) (W 6)).1 = _
        rw [hf, eT, show decide (l = 2) = false from decide_eq_false (by omega)]
        rfl
      rw [e1] at x1 b1 b2
      obtain ⟨a, b, e⟩ := lay1_ok I hL
      have e6b : lay1 W T 6 = W 6 := b.1 6 (by omega)
      obtain ⟨f1, g, h⟩ := st_rg a (by rw [th_al b]; exact h0)
      have hu2 : ∀ s, s < lay1 W T 6 → (fun s => !decide (wso W s 0 = 2)) s = true → unN (lay1 W T) s = 0 := fun s hs hf => e s (by omega) (by simpa using hf)
      refine Ok_up (P := fun y => MW y (layW W T l) ∧ Fp 299 300 m y) ?_ (fun y hy => ⟨y, rfl, hy⟩)
      refine Ok_it (congrArg nI q) (Ok_b (Mo_seatHeaps_e x1 a) (Ok_b (Mo_firstOf_e x g h) ?_))
      refine Ok_loop (W 6) (fun s y => (nI ((rgS (stS (lay1 W T))).getD (lyG (rgS (stS (lay1 W T))) (fun s => !decide (wso W s 0 = 2)) false (lay1 W T) s).2 0), nI s, y)) (fun s y => MW y (lyG (rgS (stS (lay1 W T))) (fun s => !decide (wso W s 0 = 2)) false (lay1 W T) s).1 ∧ Fp 299 300 m y) x rfl ⟨x1, F⟩ (fun s y hs ⟨y1, Fy⟩ => ?_) (fun y ⟨y1, Fy⟩ => ?_)
      · obtain ⟨c1, c2, c3, c4⟩ := lyG_ok (f := fun s => !decide (wso W s 0 = 2)) (r := false) a f1 hu2 s (by omega)
        have eS := fun k hk => ((b.trans c2).so (s := s) (k := k) (by omega) hk)
        obtain ⟨s0, -⟩ := I.S hs
        have e6y : (lyG (rgS (stS (lay1 W T))) (fun s => !decide (wso W s 0 = 2)) false (lay1 W T) s).1 6 = W 6 := (b.trans c2).1 6 (by omega)
        show Ok (Mo_lays_l102 298 (nI (stS (lay1 W T))) (nI ((rgS (stS (lay1 W T))).getD (lyG (rgS (stS (lay1 W T))) (fun s => !decide (wso W s 0 = 2)) false (lay1 W T) s).2 0)) (nI s) y) _
        unfold Mo_lays_l102 Mo_lays_b135
        refine Ok_gd (by decide) ?_
        rw [qW6 y1, e6y, nI_1]
        refine Ok_if (nI_ge hs (by omega)) (Ok_b (qS0 y1 (by omega)) ?_)
        rw [show wso (lyG (rgS (stS (lay1 W T))) (fun s => !decide (wso W s 0 = 2)) false (lay1 W T) s).1 s 0 = wso W s 0 from eS 0 (by omega)]
        by_cases z : wso W s 0 = 2
        · have eq2 : lyG (rgS (stS (lay1 W T))) (fun s => !decide (wso W s 0 = 2)) false (lay1 W T) (s + 1) = lyG (rgS (stS (lay1 W T))) (fun s => !decide (wso W s 0 = 2)) false (lay1 W T) s := if_neg (by simp [z])
          rw [eq2]
          exact Ok_it (congrArg nI z) (Ok_s ⟨y, rfl, y1, Fy⟩)
        · have u0 : unN (lyG (rgS (stS (lay1 W T))) (fun s => !decide (wso W s 0 = 2)) false (lay1 W T) s).1 s = 0 := by
            exact Eq.trans (sN_cong (fun h hh => c4 s h (Or.inl (Nat.le_refl _)) (by omega) hh)) (e s hs z)
          have eq2 : lyG (rgS (stS (lay1 W T))) (fun s => !decide (wso W s 0 = 2)) false (lay1 W T) (s + 1) = goW (rgS (stS (lay1 W T))) s ((lyG (rgS (stS (lay1 W T))) (fun s => !decide (wso W s 0 = 2)) false (lay1 W T) s).1, (lyG (rgS (stS (lay1 W T))) (fun s => !decide (wso W s 0 = 2)) false (lay1 W T) s).2) (wso (lay1 W T) s 3) := if_pos (by simp [z])
          refine Ok_if (show ¬ nI (wso W s 0) = 2 from fun v => z ((nI_eq (b := 2) (by omega) (by decide)).mp v)) ?_
          refine Ok_bind (Mo_goesRound_e y1 c1 g h (f1.al c2) (by omega) c3 u0) ?_
          rintro ⟨r, u⟩ ⟨rfl, u2, u3⟩
          simp only at u2 u3 ⊢
          rw [show wso (lyG (rgS (stS (lay1 W T))) (fun s => !decide (wso W s 0 = 2)) false (lay1 W T) s).1 s 3 = wso (lay1 W T) s 3 from c2.so (by omega) (by omega)] at u2 ⊢
          rw [eq2]
          exact Ok_s ⟨u, rfl, u2, Fy.trans u3⟩
      · obtain ⟨c1, c2, c3, c4⟩ := lyG_ok (f := fun s => !decide (wso W s 0 = 2)) (r := false) a f1 hu2 (W 6) (by omega)
        have e6y : (lyG (rgS (stS (lay1 W T))) (fun s => !decide (wso W s 0 = 2)) false (lay1 W T) (W 6)).1 6 = W 6 := (b.trans c2).1 6 (by omega)
        show Ok (Mo_lays_l102 298 (nI (stS (lay1 W T))) (nI ((rgS (stS (lay1 W T))).getD (lyG (rgS (stS (lay1 W T))) (fun s => !decide (wso W s 0 = 2)) false (lay1 W T) (W 6)).2 0)) (nI (W 6)) y) _
        unfold Mo_lays_l102
        refine Ok_gd (by decide) ?_
        rw [qW6 y1, e6y, if_pos (nI_le (Nat.le_refl _) (by omega)), up_some]
        refine Ok_s ⟨_, rfl, ?_, Fy⟩
        unfold layW
        rw [if_pos q]
        exact y1
    · have hf : f = fun _ => true := if_neg q
      rw [if_neg (show ¬ nI l = 3 from fun y => q ((nI_eq (b := 3) (by omega) (by decide)).mp y)), up_some]
      refine Ok_s ⟨_, rfl, ?_, F⟩
      unfold layW
      rw [if_neg q]
      have : (lyG L f (decide (l = 2)) (tkW W) (W 6)).1 = (lyG (rgS (t1S T l)) (fun _ => true) (decide (l = 2)) (tkW W) (W 6)).1 := by rw [hf]
      rw [← this]
      exact x1
end LAYS
