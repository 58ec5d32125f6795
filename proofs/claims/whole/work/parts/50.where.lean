/-! no more is lost than there is; where -/
section WHERE
variable {m : Mem} {c : Nat} {W : Wd}
theorem lN_mix {A p q : Nat} (h : q ≤ A + p) : lN A + (lN p - lN q) = lN (A + p - q) := by
  rw [Int64.sub_eq_add_neg, ← Int64.add_assoc, lN_add, ← Int64.sub_eq_add_neg, lN_sub h]
theorem sN_two {f g : Nat → Nat} {a b n : Nat} (ha : a < n) (hb : b < n) (hab : a ≠ b) (h : ∀ i, i < n → i ≠ a → i ≠ b → f i = g i) (e : f a + f b = g a + g b) : sN f n = sN g n := by
  have f1 := sN_cut (f := f) ha
  have g1 := sN_cut (f := g) ha
  have f2 := sN_cut (f := fun i => if i = a then 0 else f i) hb
  have g2 := sN_cut (f := fun i => if i = a then 0 else g i) hb
  have fg : sN (fun i => if i = b then 0 else if i = a then 0 else f i) n = sN (fun i => if i = b then 0 else if i = a then 0 else g i) n := sN_cong (fun i hi => by
    by_cases q1 : i = b
    · rw [if_pos q1, if_pos q1]
    · rw [if_neg q1, if_neg q1]
      by_cases q2 : i = a
      · rw [if_pos q2, if_pos q2]
      · rw [if_neg q2, if_neg q2, h i hi q2 q1])
  rw [if_neg (fun z => hab z.symm)] at f2 g2
  omega
theorem stH_ok {n k s o h T : Nat} {p : Nat → Int64} {P : Nat → Nat} (hk : k < n) (hs : s < 2 ^ n) (ho : o ≤ 10000) (hh : h ≤ 100) (a : ∀ j, j < 2 ^ n → p j = lN (P j)) (b : sN P (2 ^ n) = T) (hT : T ≤ 1000000000000) :
    ∃ P' : Nat → Nat, (∀ j, j < 2 ^ n → stH (lN o) (lN h) k p s j = lN (P' j)) ∧ sN P' (2 ^ n) = T := by
  unfold stH
  by_cases q : s.testBit k = true
  · rw [if_pos q]
    exact ⟨P, a, b⟩
  · rw [if_neg q]
    have hw := or_lt hs hk
    have hne : s ||| 2 ^ k ≠ s := fun z => q (or_is.mp z)
    have lA := sN_one (f := P) hs
    have lB := sN_one (f := P) hw
    have oA : P s * o / 10000 ≤ P s := by
      have : P s * o ≤ P s * 10000 := Nat.mul_le_mul_left _ ho
      omega
    have oB : P (s ||| 2 ^ k) * h / 100 ≤ P (s ||| 2 ^ k) := by
      have : P (s ||| 2 ^ k) * h ≤ P (s ||| 2 ^ k) * 100 := Nat.mul_le_mul_left _ hh
      omega
    have mA : P s * o ≤ 1000000000000 * 10000 := Nat.mul_le_mul (by omega) ho
    have mB : P (s ||| 2 ^ k) * h ≤ 1000000000000 * 100 := Nat.mul_le_mul (by omega) hh
    have eA : p s * lN o / 10000 = lN (P s * o / 10000) := by
      rw [a s hs, lN_mul, show (10000 : Int64) = lN 10000 from rfl, pk_lDiv (by omega) (by decide) (by decide)]
    have eB : p (s ||| 2 ^ k) * lN h / 100 = lN (P (s ||| 2 ^ k) * h / 100) := by
      rw [a _ hw, lN_mul, show (100 : Int64) = lN 100 from rfl, pk_lDiv (by omega) (by decide) (by decide)]
    refine ⟨fun j => if j = s ||| 2 ^ k then P (s ||| 2 ^ k) + P s * o / 10000 - P (s ||| 2 ^ k) * h / 100 else if j = s then P s + P (s ||| 2 ^ k) * h / 100 - P s * o / 10000 else P j, fun j hj => ?_, ?_⟩
    · by_cases q1 : j = s ||| 2 ^ k
      · simp only [if_pos q1]
        rw [eA, eB, a _ hw, lN_mix (by omega)]
      · simp only [if_neg q1]
        by_cases q2 : j = s
        · simp only [if_pos q2]
          rw [eA, eB, a _ hs, lN_mix (by omega)]
        · simp only [if_neg q2]
          exact a j hj
    · rw [← b]
      refine sN_two hw hs hne (fun i _ h1 h2 => ?_) ?_
      · rw [if_neg h1, if_neg h2]
      · rw [if_pos rfl, if_neg (fun z => hne z.symm), if_pos rfl]
        omega
theorem hrS_ok {n k o h T : Nat} {p : Nat → Int64} {P : Nat → Nat} (hk : k < n) (ho : o ≤ 10000) (hh : h ≤ 100) (a : ∀ j, j < 2 ^ n → p j = lN (P j)) (b : sN P (2 ^ n) = T) (hT : T ≤ 1000000000000) : ∀ i, i ≤ 2 ^ n → ∃ P' : Nat → Nat, (∀ j, j < 2 ^ n → hrS (lN o) (lN h) k p i j = lN (P' j)) ∧ sN P' (2 ^ n) = T
  | 0, _ => ⟨P, a, b⟩
  | i + 1, hi => by
    obtain ⟨P1, a1, b1⟩ := hrS_ok hk ho hh a b hT i (by omega)
    exact stH_ok hk (by omega) ho hh a1 b1 hT
theorem hrC_ok (I : Inv W) {T : Nat} {p : Nat → Int64} {P : Nat → Nat} (a : ∀ j, j < 2 ^ W 5 → p j = lN (P j)) (b : sN P (2 ^ W 5) = T) (hT : T ≤ 1000000000000) : ∀ i, i ≤ W 5 → ∃ P' : Nat → Nat, (∀ j, j < 2 ^ W 5 → hrC W p i j = lN (P' j)) ∧ sN P' (2 ^ W 5) = T
  | 0, _ => ⟨P, a, b⟩
  | i + 1, hi => by
    obtain ⟨-, -, -, b10, -⟩ := I.2.1
    have ol := odds_lt W i
    obtain ⟨P1, a1, b1⟩ := hrC_ok I a b hT i (by omega)
    show ∃ P' : Nat → Nat, (∀ j, j < 2 ^ W 5 → hrS (nI (oddsN W i)).toInt64 (nI (W 10)).toInt64 i (hrC W p i) (2 ^ W 5) j = lN (P' j)) ∧ sN P' (2 ^ W 5) = T
    rw [nI_l (by omega), nI_l (by omega)]
    exact hrS_ok (by omega) ol b10 a1 b1 hT _ (Nat.le_refl _)
theorem lossL_ok {p : Nat → Int64} {P : Nat → Nat} {N : Nat} (a : ∀ j, j < N → p j = lN (P j)) : ∀ n, n ≤ N → ∃ S, S ≤ sN P n ∧ lossL W p n = lN S
  | 0, _ => ⟨0, Nat.le_refl _, rfl⟩
  | n + 1, hn => by
    obtain ⟨S, h1, h2⟩ := lossL_ok a n (by omega)
    show ∃ S, S ≤ sN P n + P n ∧ lossL W p n + (if enoughN W n then 0 else p n) = lN S
    rw [h2]
    by_cases q : enoughN W n
    · rw [if_pos q]
      exact ⟨S, by omega, lN_add S 0⟩
    · rw [if_neg q, a n (by omega), lN_add]
      exact ⟨_, by omega, rfl⟩
theorem now_le (I : Inv W) : nowL W < 1000000000001 := by
  obtain ⟨-, -, -, -, -, -, -, -, -, -, -, b18, -⟩ := I.2.1
  have a0 : ∀ j, j < 2 ^ W 5 → openL W j = lN (if j = W 18 then 1000000000000 else 0) := fun j _ => by
    unfold openL
    by_cases q : j = W 18
    · rw [if_pos q, if_pos q]; rfl
    · rw [if_neg q, if_neg q]; rfl
  have s0 : sN (fun j => if j = W 18 then 1000000000000 else 0) (2 ^ W 5) = 1000000000000 := by
    rw [sN_cut b18, if_pos rfl, sN_0 (fun i _ => by
      by_cases q : i = W 18
      · rw [if_pos q]
      · rw [if_neg q, if_neg q])]
  obtain ⟨P1, a1, b1⟩ := hrC_ok I a0 s0 (Nat.le_refl _) (W 5) (Nat.le_refl _)
  obtain ⟨S, h1, h2⟩ := lossL_ok (W := W) a1 (2 ^ W 5) (Nat.le_refl _)
  show 0 + lossL W (hrC W (openL W) (W 5)) (2 ^ W 5) < 1000000000001
  rw [h2, show (0 : Int64) + lN S = lN (0 + S) from lN_add 0 S, show (1000000000001 : Int64) = lN 1000000000001 from rfl, pk_lLT (by omega) (by decide)]
  omega
/-! where to sleep -/
abbrev sgW (W : Wd) (g x y : Nat) : Wd := slpW W g x y (wgr W g 2)
theorem sg_self (W : Wd) (g : Nat) : sgW W g (wgr W g 0) (wgr W g 1) = W := by
  funext j
  unfold sgW slpW
  by_cases q0 : j = 188 + 3 * g
  · rw [if_pos q0, q0]; rfl
  · by_cases q1 : j = 188 + 3 * g + 1
    · rw [if_neg q0, if_pos q1, q1]
    · by_cases q2 : j = 188 + 3 * g + 2
      · rw [if_neg q0, if_neg q1, if_pos q2, q2]
      · rw [if_neg q0, if_neg q1, if_neg q2]
theorem sg_sg (W : Wd) (g a b x y : Nat) : sgW (sgW W g a b) g x y = sgW W g x y := by
  have e : wgr (sgW W g a b) g 2 = wgr W g 2 := slp_2 W g a b _
  unfold sgW
  rw [e]
  funext j
  unfold slpW
  by_cases q0 : j = 188 + 3 * g
  · simp only [if_pos q0]
  · by_cases q1 : j = 188 + 3 * g + 1
    · simp only [if_neg q0, if_pos q1]
    · by_cases q2 : j = 188 + 3 * g + 2
      · simp only [if_neg q0, if_neg q1, if_pos q2]
      · simp only [if_neg q0, if_neg q1, if_neg q2]
theorem sg_inv (I : Inv W) {g x y : Nat} (hg : g < 4) (hx : x < W 1) (hy : y < W 2) : Inv (sgW W g x y) := by
  obtain ⟨-, -, -, g2⟩ := I.G hg
  refine I.slp hg hx hy g2 ?_
  have := I.2.2.2.2.2.2.2
  have := (slp_sum W x y (wgr W g 2) hg).2
  unfold slN at *
  omega
theorem sg_cr (W : Wd) (g x y : Nat) : CrE W (sgW W g x y) := ⟨slp_o W (by omega), fun k j hk hj => slp_o W (by omega)⟩
theorem CR.plg (R : CR m c W) (I : Inv W) {g : Nat} (x y : Nat) (hg : g < 4) : CR (wI (wI m (c + 36) g (nI x)) (c + 37) g (nI y)) c (sgW W g x y) := by
  have := R.slp I x y (wgr W g 2) hg
  have e : wI (wI (wI m (c + 36) g (nI x)) (c + 37) g (nI y)) (c + 38) g (nI (wgr W g 2)) = wI (wI m (c + 36) g (nI x)) (c + 37) g (nI y) := by
    have h : nI (wgr W g 2) = (wI (wI m (c + 36) g (nI x)) (c + 37) g (nI y)).1 (c + 38) g := by
      rw [wI_o _ (by omega), wI_o _ (by omega), R.g2 hg]
    rw [h, wI_same]
  rw [e] at this
  exact this
def wlN (W : Wd) (g x y : Nat) : Int64 := nowL (sgW W g x y)
theorem wl_like (I : Inv W) {g x y x2 y2 : Nat} (hg : g < 4) (hx : x < W 1) (hy : y < W 2) (hx2 : x2 < W 1) (hy2 : y2 < W 2) (L : lkP W x y x2 y2) : wlN W g x y = wlN W g x2 y2 := by
  have d := I.d
  refine gmove_eq (sg_inv I hg hx2 hy2) (sg_inv I hg hx hy) hg (fun i _ h1 h2 => ?_) ?_ 1
  · unfold sgW slpW
    rw [if_neg h1, if_neg h2, if_neg h1, if_neg h2]
  · rw [slp_0, slp_1, slp_0, slp_1]
    exact (lk_cr (sg_cr W g x2 y2) (by omega)).mpr (lk_sym L)
abbrev WhT : Type := Nat × Int64
def whC (W : Wd) (g y : Nat) (s : WhT) (x : Nat) : WhT := if wlN W g x y < s.2 then (x + 12 * y, wlN W g x y) else s
def whX (W : Wd) (g y : Nat) (s : WhT) : Nat → WhT
  | 0 => s
  | x + 1 => whC W g y (whX W g y s x) x
def whY (W : Wd) (g : Nat) : Nat → WhT
  | 0 => (0, 1000000000001)
  | y + 1 => whX W g y (whY W g y) (W 1)
theorem whX_ok (W : Wd) (g y : Nat) (s : WhT) : ∀ n, (whX W g y s n).2 ≤ s.2 ∧ ∀ x, x < n → (whX W g y s n).2 ≤ wlN W g x y
  | 0 => ⟨Int64.le_refl _, fun x hx => by omega⟩
  | n + 1 => by
    obtain ⟨b, e⟩ := whX_ok W g y s n
    show (if wlN W g n y < (whX W g y s n).2 then (n + 12 * y, wlN W g n y) else whX W g y s n).2 ≤ s.2 ∧ ∀ x, x < n + 1 → (if wlN W g n y < (whX W g y s n).2 then (n + 12 * y, wlN W g n y) else whX W g y s n).2 ≤ wlN W g x y
    by_cases q : wlN W g n y < (whX W g y s n).2
    · simp only [if_pos q]
      refine ⟨Int64.le_of_lt (Int64.lt_of_lt_of_le q b), fun x hx => ?_⟩
      by_cases z : x = n
      · rw [z]; exact Int64.le_refl _
      · exact Int64.le_of_lt (Int64.lt_of_lt_of_le q (e x (by omega)))
    · simp only [if_neg q]
      refine ⟨b, fun x hx => ?_⟩
      by_cases z : x = n
      · rw [z]; exact Int64.not_lt.mp q
      · exact e x (by omega)
theorem whY_ok (W : Wd) (g : Nat) : ∀ n, ∀ y, y < n → ∀ x, x < W 1 → (whY W g n).2 ≤ wlN W g x y
  | 0, y, hy => by omega
  | n + 1, y, hy => fun x hx => by
    obtain ⟨b, e⟩ := whX_ok W g n (whY W g n) (W 1)
    show (whX W g n (whY W g n) (W 1)).2 ≤ _
    by_cases z : y = n
    · rw [z]; exact e x hx
    · exact Int64.le_trans b (whY_ok W g n y (by omega) x hx)
theorem Tr_bestCellFor_e (R : CR m 28 W) (I : Inv W) {g : Nat} (hg : g < 4) : Ok (Tr_bestCellFor 220 28 (nI g) m) (fun r => r.1 = nI (whY W g (W 2)).1 ∧ Fp 221 279 m r.2) := by
  have d := I.d
  have gxy := I.G hg
  unfold Tr_bestCellFor
  refine Ok_bind (Ca_copyFrom_e (c := 221) (d := 28) (by omega) (by decide +kernel) R I) (fun m1 ⟨R1, F1⟩ => ?_)
  refine Ok_loop (W 2) (fun y z => (nI (whY W g y).1, (whY W g y).2, nI y, z)) (fun y z => (y = 0 ∧ CR z 221 W ∨ ∃ a b, a < W 1 ∧ b < W 2 ∧ CR z 221 (sgW W g a b)) ∧ Fp 221 279 m z) m1 rfl ⟨Or.inl ⟨rfl, R1⟩, F1.wide (by omega) (by omega)⟩ (fun y z hy ⟨Rz, Fz⟩ => ?_) (fun z ⟨Rz, Fz⟩ => ?_)
  · have hW1 : 0 < W 1 := by
      rcases I.1 with q | q <;> omega
    have gx := gxy.1 hW1
    have Rz2 : ∃ a b, a < W 1 ∧ b < W 2 ∧ CR z 221 (sgW W g a b) := by
      rcases Rz with ⟨-, q⟩ | q
      · exact ⟨wgr W g 0, wgr W g 1, gx.1, gx.2, by rw [sg_self]; exact q⟩
      · exact q
    have R28 := R.fp I Fz (by omega)
    show Ok (Tr_bestCellFor_l18 220 28 (nI g) (nI (whY W g y).1) (whY W g y).2 (nI y) z) _
    unfold Tr_bestCellFor_l18
    rw [show rI z (28 + 1) 1 = nI (W 2) from cf1 R28]
    refine Ok_if (nI_ge hy (by omega)) ?_
    refine Ok_loop (W 1) (fun k u => (nI (whX W g y (whY W g y) k).1, (whX W g y (whY W g y) k).2, nI k, u)) (fun k u => (∃ a b, a < W 1 ∧ b < W 2 ∧ CR u 221 (sgW W g a b)) ∧ Fp 221 279 m u) z rfl ⟨Rz2, Fz⟩ (fun k u hk ⟨⟨a, b, ha, hb, Ru⟩, Fu⟩ => ?_) (fun u ⟨⟨a, b, ha, hb, Ru⟩, Fu⟩ => ?_)
    · obtain ⟨o2, o3⟩ := whX_ok W g y (whY W g y) k
      have Ju := sg_inv I hg ha hb
      have R28u := R.fp I Fu (by omega)
      show Ok (Tr_bestCellFor_l33 220 28 (nI g) (nI y) (nI (whX W g y (whY W g y) k).1) (whX W g y (whY W g y) k).2 (nI k) u) _
      unfold Tr_bestCellFor_l33 Tr_bestCellFor_b106
      rw [show rI u (28 + 1) 0 = nI (W 1) from cf0 R28u]
      refine Ok_if (nI_ge hk (by omega)) (Ok_bind (Fl_isLikeN_e R28u I (by omega) (by omega)) (fun r hr => ?_))
      rcases hr with ⟨rfl, w⟩ | ⟨rfl, w⟩
      · refine Ok_if (by decide) ?_
        have e : whX W g y (whY W g y) (k + 1) = whX W g y (whY W g y) k := by
          refine if_neg (Int64.not_lt.mpr ?_)
          rcases w with ⟨g1, g2⟩ | ⟨g1, g2⟩
          · rw [wl_like I hg hk hy (by omega) hy g2]
            exact o3 _ (by omega)
          · rw [wl_like I hg hk hy hk (by omega) g2]
            exact Int64.le_trans o2 (whY_ok W g y _ (by omega) k hk)
        rw [e, nI_1]
        exact Ok_s ⟨u, rfl, ⟨a, b, ha, hb, Ru⟩, Fu⟩
      · refine Ok_it rfl (Ok_b (show Ca_placeGroup (220 + 1) (nI g) (nI k) (nI y) u = _ from Ca_placeGroup_e (c := 221) hg _ _) ?_)
        have Rv := Ru.plg Ju (g := g) k y hg
        rw [sg_sg] at Rv
        have Fv : Fp 257 259 u (wI (wI u (221 + 36) g (nI k)) (221 + 37) g (nI y)) := (Fp.wI (by omega) (by omega) _ _).trans (Fp.wI (by omega) (by omega) _ _)
        generalize wI (wI u (221 + 36) g (nI k)) (221 + 37) g (nI y) = v at Rv Fv
        refine Ok_bind (show Ok (Ic_lostIn (220 + 42) (220 + 1) 1 v) _ from Ic_lostIn_e (t := 262) (c := 221) (n := 1) Rv (sg_inv I hg hk hy) (by omega) (by omega)) (fun q ⟨q1, Fq⟩ => ?_)
        have Rq := Rv.fp (sg_inv I hg hk hy) Fq (by omega)
        have FF : Fp 221 279 m q.2 := (Fu.trans (Fv.wide (by omega) (by omega))).trans (Fq.wide (by omega) (by omega))
        rw [q1, nI_1, show lostL (sgW W g k y) (openL (sgW W g k y)) 1 = wlN W g k y from rfl]
        by_cases w2 : wlN W g k y < (whX W g y (whY W g y) k).2
        · have e : whX W g y (whY W g y) (k + 1) = (k + 12 * y, wlN W g k y) := if_pos w2
          rw [e, show (12 : Int32) * nI y = nI (12 * y) from pk_mul 12 y, nI_add]
          exact Ok_if (Int64.not_le.mpr w2) (Ok_s ⟨q.2, rfl, ⟨k, y, hk, hy, Rq⟩, FF⟩)
        · have e : whX W g y (whY W g y) (k + 1) = whX W g y (whY W g y) k := if_neg w2
          rw [e]
          exact Ok_it (Int64.not_lt.mp w2) (Ok_s ⟨q.2, rfl, ⟨k, y, hk, hy, Rq⟩, FF⟩)
    · have R28u := R.fp I Fu (by omega)
      show Ok (Tr_bestCellFor_l33 220 28 (nI g) (nI y) (nI (whX W g y (whY W g y) (W 1)).1) (whX W g y (whY W g y) (W 1)).2 (nI (W 1)) u) _
      unfold Tr_bestCellFor_l33
      rw [show rI u (28 + 1) 0 = nI (W 1) from cf0 R28u, if_pos (nI_le (Nat.le_refl _) (by omega)), up_some, nI_1]
      exact Ok_s ⟨_, rfl, u, rfl, Or.inr ⟨a, b, ha, hb, Ru⟩, Fu⟩
  · have R28 := R.fp I Fz (by omega)
    show Ok (Tr_bestCellFor_l18 220 28 (nI g) (nI (whY W g (W 2)).1) (whY W g (W 2)).2 (nI (W 2)) z) _
    unfold Tr_bestCellFor_l18
    rw [show rI z (28 + 1) 1 = nI (W 2) from cf1 R28, if_pos (nI_le (Nat.le_refl _) (by omega)), up_some]
    exact Ok_s ⟨_, rfl, rfl, Fz⟩
theorem gset2 {V : Wd} {g : Nat} (x y : Nat) {z : Mem} (hz : MW z V) (E : ∀ j, j < 200 → j ≠ 188 + 3 * g → j ≠ 188 + 3 * g + 1 → V j = sgW W g x y j) : MW (wI (wI z 299 (188 + 3 * g) (nI x)) 299 (188 + 3 * g + 1) (nI y)) (sgW W g x y) := by
  intro j hj
  rw [wI_at, wI_at]
  by_cases q1 : j = 188 + 3 * g + 1
  · rw [if_pos q1, q1]; exact congrArg nI (slp_1 W g x y _).symm
  · rw [if_neg q1]
    by_cases q0 : j = 188 + 3 * g
    · rw [if_pos q0, q0]; exact congrArg nI (slp_0 W g x y _).symm
    · rw [if_neg q0, hz j hj, E j hj q0 q1]
theorem sg_E (W : Wd) (g a b x y : Nat) : ∀ j, j < 200 → j ≠ 188 + 3 * g → j ≠ 188 + 3 * g + 1 → sgW W g a b j = sgW W g x y j := fun j _ h0 h1 => by
  unfold sgW slpW
  rw [if_neg h0, if_neg h1, if_neg h0, if_neg h1]
def vWhere (W : Wd) (x : Int32) : Int32 := if 0 < W 1 then if inb x 4 then nI (whY W (ix x) (W 2)).1 else -2 else -2
theorem st_where (x : Int32) : Same (PL_where 1 x) (Mo_where 298 x) := by
  refine Same_w (fun W => vWhere W x) (fun W => W) (fun W I => I) (fun m W R I => ?_) (fun m W hW I => ?_)
  · unfold PL_where vWhere
    refine Ok_b (fl_there R I) ?_
    rw [ite_b2]
    by_cases h : 0 < W 1
    · simp only [if_pos h]
      refine Ok_b (PL_isGroup_e m x) ?_
      rw [ite_b2]
      by_cases h2 : inb x 4
      · obtain ⟨g, hg, rfl⟩ := in_of h2 (by decide)
        simp only [if_pos h2, ix_nI (show g < 2147483648 by omega)]
        exact Ok_bind (show Ok (Tr_bestCellFor (1 + 219) (1 + 27) (nI g) m) _ from Tr_bestCellFor_e R I hg) (fun r ⟨r1, F⟩ => Ok_s ⟨r1, R.fp I F (by omega), F.C (by omega)⟩)
      · simp only [if_neg h2]
        exact Ok_s ⟨rfl, R, FpC.refl⟩
    · simp only [if_neg h]
      exact Ok_s ⟨rfl, R, FpC.refl⟩
  · have d := I.d
    unfold Mo_where vWhere
    refine Ok_b (Mo_isGroup_e m x) ?_
    rw [ite_b2]
    by_cases h2 : inb x 4
    · obtain ⟨g, hg, rfl⟩ := in_of h2 (by decide)
      simp only [if_pos h2, ix_nI (show g < 2147483648 by omega)]
      refine Ok_b (Mo_isFloe_e hW (by omega)) ?_
      rw [ite_b2]
      by_cases h : 0 < W 1
      · simp only [if_pos h]
        have fl := I.floe h
        have e0 : (188 + 3 * nI g : Int32) = nI (188 + 3 * g) := by rw [li 188, li 3, pk_mul, nI_add]
        have e1 : (nI (188 + 3 * g) + 1 : Int32) = nI (188 + 3 * g + 1) := nI_1 _
        have first : wlN W g 0 0 < 1000000000001 := now_le (sg_inv I hg (by omega) (by omega))
        refine Ok_b (qG0 hW hg) (Ok_b (qG1 hW hg) ?_)
        refine Ok_loop (W 2) (fun y z => (if y = 0 then -1 else nI (whY W g y).1, if y = 0 then 0 else (whY W g y).2, nI y, z)) (fun y z => (∃ a b, MW z (sgW W g a b)) ∧ Fp 299 300 m z ∨ (∃ a b, MW z (sgW W g a b)) ∧ FpB m z) m rfl (Or.inr ⟨⟨wgr W g 0, wgr W g 1, by rw [sg_self]; exact hW⟩, FpB.refl⟩) (fun y z hy Hz => ?_) (fun z Hz => ?_)
        · have Hz2 : (∃ a b, MW z (sgW W g a b)) ∧ FpB m z := by
            rcases Hz with ⟨a, F⟩ | q
            · exact ⟨a, F.B (by omega)⟩
            · exact q
          obtain ⟨⟨a, b, Vz⟩, Fz⟩ := Hz2
          show Ok (Mo_where_l40 298 (nI g) (nI (wgr W g 0)) (nI (wgr W g 1)) (if y = 0 then -1 else nI (whY W g y).1) (if y = 0 then 0 else (whY W g y).2) (nI y) z) _
          unfold Mo_where_l40
          refine Ok_gd (by decide) ?_
          rw [qW2 Vz, show sgW W g a b 2 = W 2 from slp_o W (by omega)]
          refine Ok_if (nI_ge hy (by omega)) ?_
          refine Ok_loop (W 1) (fun k u => (if y = 0 ∧ k = 0 then -1 else nI (whX W g y (whY W g y) k).1, if y = 0 ∧ k = 0 then 0 else (whX W g y (whY W g y) k).2, nI k, u)) (fun k u => (∃ a b, MW u (sgW W g a b)) ∧ FpB m u) z ?_ ⟨⟨a, b, Vz⟩, Fz⟩ (fun k u hk ⟨⟨a2, b2', Vu⟩, Fu⟩ => ?_) (fun u ⟨⟨a2, b2', Vu⟩, Fu⟩ => ?_)
          · show (if y = 0 ∧ 0 = 0 then (-1 : Int32) else nI (whY W g y).1, (if y = 0 ∧ 0 = 0 then (0 : Int64) else (whY W g y).2), nI 0, z) = _
            simp only [and_true]
            rfl
          · show Ok (Mo_where_l54 298 (nI g) (nI (wgr W g 0)) (nI (wgr W g 1)) (nI y) (if y = 0 ∧ k = 0 then -1 else nI (whX W g y (whY W g y) k).1) (if y = 0 ∧ k = 0 then 0 else (whX W g y (whY W g y) k).2) (nI k) u) _
            unfold Mo_where_l54 Mo_where_b119 Mo_where_b133
            rw [e0, e1]
            refine Ok_gd (by decide) ?_
            rw [qW1 Vu, show sgW W g a2 b2' 1 = W 1 from slp_o W (by omega)]
            refine Ok_if (nI_ge hk (by omega)) (Ok_gd (in_nI (by omega) (by decide)) (Ok_lt (Ok_gd (in_nI (by omega) (by decide)) (Ok_lt ?_))))
            rw [ix_nI (by omega), ix_nI (by omega)]
            have Vv := gset2 (W := W) k y Vu (sg_E W g a2 b2' k y)
            have Fv : FpB u (wI (wI u 299 (188 + 3 * g) (nI k)) 299 (188 + 3 * g + 1) (nI y)) := ((Fp.wI (lo := 299) (hi := 300) (by omega) (by omega) _ _).trans (Fp.wI (by omega) (by omega) _ _)).B (by omega)
            show Ok ((Mo_lostIn 298 1 (wI (wI u 299 (188 + 3 * g) (nI k)) 299 (188 + 3 * g + 1) (nI y))).bind _) _
            generalize wI (wI u 299 (188 + 3 * g) (nI k)) 299 (188 + 3 * g + 1) (nI y) = v at Vv Fv
            refine Ok_bind (Mo_lostIn_e (n := 1) Vv (sg_inv I hg hk hy) (by omega)) (fun q ⟨q1, Fq⟩ => ?_)
            rw [q1, nI_1, show lostL (sgW W g k y) (openL (sgW W g k y)) 1 = wlN W g k y from rfl, show (12 : Int32) * nI y = nI (12 * y) from pk_mul 12 y, nI_add]
            have FF : FpB m q.2 := (Fu.trans Fv).trans (Fq.B (by omega))
            have Vq : ∃ a b, MW q.2 (sgW W g a b) := ⟨k, y, Vv.fp Fq (by omega)⟩
            have ne : ¬ (y = 0 ∧ k + 1 = 0) := fun z => by omega
            simp only [if_neg ne]
            by_cases w0 : y = 0 ∧ k = 0
            · have e : whX W g y (whY W g y) (k + 1) = (k + 12 * y, wlN W g k y) := by
                rw [w0.1, w0.2]
                exact if_pos first
              simp only [if_pos w0]
              rw [e]
              exact Ok_it (by trivial) (Ok_s ⟨q.2, rfl, Vq, FF⟩)
            · simp only [if_neg w0]
              have bnd1 : (whX W g y (whY W g y) k).1 < 2147483648 := by
                have hX : ∀ y s, y ≤ 11 → s.1 ≤ 200 → ∀ n, n ≤ 12 → (whX W g y s n).1 ≤ 200 := by
                  intro y s hy hs n
                  induction n with
                  | zero => intro _; exact hs
                  | succ n ih =>
                    intro hn
                    show (if wlN W g n y < (whX W g y s n).2 then (n + 12 * y, wlN W g n y) else whX W g y s n).1 ≤ 200
                    split
                    · show n + 12 * y ≤ 200; omega
                    · exact ih (by omega)
                have hY : ∀ n, n ≤ 12 → (whY W g n).1 ≤ 200 := by
                  intro n
                  induction n with
                  | zero => intro _; show 0 ≤ 200; omega
                  | succ n ih =>
                    intro hn
                    exact hX n _ (by omega) (ih (by omega)) (W 1) (by omega)
                have := hX y _ (by omega) (hY y (by omega)) k (by omega)
                omega
              refine Ok_if (neg1 bnd1) ?_
              by_cases w2 : wlN W g k y < (whX W g y (whY W g y) k).2
              · have e : whX W g y (whY W g y) (k + 1) = (k + 12 * y, wlN W g k y) := if_pos w2
                rw [e]
                exact Ok_it w2 (Ok_s ⟨q.2, rfl, Vq, FF⟩)
              · have e : whX W g y (whY W g y) (k + 1) = whX W g y (whY W g y) k := if_neg w2
                rw [e]
                exact Ok_if w2 (Ok_s ⟨q.2, rfl, Vq, FF⟩)
          · show Ok (Mo_where_l54 298 (nI g) (nI (wgr W g 0)) (nI (wgr W g 1)) (nI y) (if y = 0 ∧ W 1 = 0 then -1 else nI (whX W g y (whY W g y) (W 1)).1) (if y = 0 ∧ W 1 = 0 then 0 else (whX W g y (whY W g y) (W 1)).2) (nI (W 1)) u) _
            have ne : ¬ (y = 0 ∧ W 1 = 0) := fun z => by omega
            have ne2 : ¬ (y + 1 = 0) := by omega
            simp only [if_neg ne, if_neg ne2]
            unfold Mo_where_l54
            refine Ok_gd (by decide) ?_
            rw [qW1 Vu, show sgW W g a2 b2' 1 = W 1 from slp_o W (by omega), if_pos (nI_le (Nat.le_refl _) (by omega)), up_some, nI_1]
            exact Ok_s ⟨_, rfl, u, rfl, Or.inr ⟨⟨a2, b2', Vu⟩, Fu⟩⟩
        · have Hz2 : (∃ a b, MW z (sgW W g a b)) ∧ FpB m z := by
            rcases Hz with ⟨a, F⟩ | q
            · exact ⟨a, F.B (by omega)⟩
            · exact q
          obtain ⟨⟨a, b, Vz⟩, Fz⟩ := Hz2
          show Ok (Mo_where_l40 298 (nI g) (nI (wgr W g 0)) (nI (wgr W g 1)) (if W 2 = 0 then -1 else nI (whY W g (W 2)).1) (if W 2 = 0 then 0 else (whY W g (W 2)).2) (nI (W 2)) z) _
          have ne : ¬ W 2 = 0 := by omega
          simp only [if_neg ne]
          unfold Mo_where_l40
          rw [e0, e1]
          refine Ok_gd (by decide) ?_
          rw [qW2 Vz, show sgW W g a b 2 = W 2 from slp_o W (by omega)]
          refine Ok_it (nI_le (Nat.le_refl _) (by omega)) ?_
          rw [gd_t (in_nI (by omega) (by decide)), ix_nI (by omega)]
          show Ok (up (gd _ (lt _ _))) _
          rw [gd_t (in_nI (by omega) (by decide)), ix_nI (by omega)]
          have Vv := gset2 (W := W) (wgr W g 0) (wgr W g 1) Vz (sg_E W g a b _ _)
          rw [sg_self] at Vv
          show Ok (up (some (nI (whY W g (W 2)).1, wI (wI z 299 (188 + 3 * g) (nI (wgr W g 0))) 299 (188 + 3 * g + 1) (nI (wgr W g 1))))) _
          rw [up_some]
          exact Ok_s ⟨_, rfl, rfl, Vv, (Fz.trans (((Fp.wI (lo := 299) (hi := 300) (by omega) (by omega) _ _).trans (Fp.wI (by omega) (by omega) _ _)).B (by omega))).M⟩
      · simp only [if_neg h]
        exact Ok_s ⟨rfl, hW, FpM.refl⟩
    · simp only [if_neg h2]
      have : (if 0 < W 1 then (-2 : Int32) else -2) = -2 := by split <;> rfl
      rw [this]
      exact Ok_s ⟨rfl, hW, FpM.refl⟩
end WHERE
