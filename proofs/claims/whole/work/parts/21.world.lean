/-! the world: what holds of it, and what it says, in whole numbers; the reference's questions of it -/
def sN (f : Nat → Nat) : Nat → Nat
  | 0 => 0
  | n + 1 => sN f n + f n
theorem sN_s (f : Nat → Nat) (n : Nat) : sN f (n + 1) = sN f n + f n := rfl
theorem sN_cong {f g : Nat → Nat} : ∀ {n : Nat}, (∀ i, i < n → f i = g i) → sN f n = sN g n
  | 0, _ => rfl
  | n + 1, h => by rw [sN_s, sN_s, sN_cong (fun i hi => h i (by omega)), h n (by omega)]
theorem sN_le {f : Nat → Nat} {c : Nat} : ∀ {n : Nat}, (∀ i, i < n → f i ≤ c) → sN f n ≤ n * c
  | 0, _ => by simp [sN]
  | n + 1, h => by
    have h1 := sN_le (f := f) (c := c) (n := n) (fun i hi => h i (by omega))
    have h2 := h n (by omega)
    rw [sN_s, Nat.succ_mul]
    omega
theorem sN_one {f : Nat → Nat} : ∀ {n i : Nat}, i < n → f i ≤ sN f n
  | n + 1, i, h => by
    rw [sN_s]
    rcases Nat.lt_or_ge i n with q | q
    · have := sN_one (f := f) q; omega
    · rw [show i = n by omega]; omega
theorem sN_0 {f : Nat → Nat} : ∀ {n : Nat}, (∀ i, i < n → f i = 0) → sN f n = 0
  | 0, _ => rfl
  | n + 1, h => by rw [sN_s, sN_0 (fun i hi => h i (by omega)), h n (by omega)]
theorem sN_z {f : Nat → Nat} {n : Nat} : sN f n = 0 ↔ ∀ i, i < n → f i = 0 :=
  ⟨fun h i hi => by have := sN_one (f := f) hi; omega, sN_0⟩
/-- a loop that sums -/
theorem loop_sum {R : Type} {b : Int32 × Int32 → Option ((Int32 × Int32) ⊕ R)} (n : Nat) (f : Nat → Nat) (r : Nat → R) (hs : ∀ i a, i < n → a = sN f i → b (nI a, nI i) = some (.inl (nI (a + f i), nI (i + 1)))) (hx : ∀ a, a = sN f n → b (nI a, nI n) = some (.inr (r a))) : loop b (0, 0) = some (r (sN f n)) :=
  loop_cnt n (fun i => (nI (sN f i), nI i)) rfl (fun i hi => hs i _ hi rfl) (hx _ rfl)
/-- a loop that looks for one -/
theorem loop_find {S R : Type} {b : S → Option (S ⊕ R)} (n : Nat) (st : Nat → S) (P : Nat → Prop) (rA rB : R) {s0 : S} (h0 : st 0 = s0) (hp : ∀ i, i < n → P i → b (st i) = some (.inr rA)) (hn : ∀ i, i < n → ¬ P i → b (st i) = some (.inl (st (i + 1)))) (hx : b (st n) = some (.inr rB)) :
    ((∃ i, i < n ∧ P i) → loop b s0 = some rA) ∧ ((¬ ∃ i, i < n ∧ P i) → loop b s0 = some rB) := by
  subst h0
  have key : ∀ k i, i + k = n → ((∃ j, i ≤ j ∧ j < n ∧ P j) → loop b (st i) = some rA) ∧ ((¬ ∃ j, i ≤ j ∧ j < n ∧ P j) → loop b (st i) = some rB) := by
    intro k
    induction k with
    | zero =>
      intro i hi
      refine ⟨fun ⟨j, a, c, _⟩ => by omega, fun _ => ?_⟩
      rw [show i = n by omega]
      exact loop_out hx
    | succ k ih =>
      intro i hi
      obtain ⟨ih1, ih2⟩ := ih (i + 1) (by omega)
      by_cases hP : P i
      · exact ⟨fun _ => loop_out (hp i (by omega) hP), fun q => absurd ⟨i, Nat.le_refl _, by omega, hP⟩ q⟩
      · rw [loop_in (hn i (by omega) hP)]
        refine ⟨fun ⟨j, a, c, d⟩ => ih1 ⟨j, ?_, c, d⟩, fun q => ih2 (fun ⟨j, a, c, d⟩ => q ⟨j, by omega, c, d⟩)⟩
        rcases Nat.lt_or_ge i j with z | z
        · exact z
        · exact absurd (by rw [show i = j by omega]; exact d) hP
  obtain ⟨k1, k2⟩ := key n 0 (by omega)
  exact ⟨fun ⟨i, a, c⟩ => k1 ⟨i, Nat.zero_le _, a, c⟩, fun q => k2 (fun ⟨j, _, c, d⟩ => q ⟨j, c, d⟩)⟩
abbrev wcr (W : Wd) (c k : Nat) : Nat := W (24 + 8 * c + k)
abbrev wso (W : Wd) (s k : Nat) : Nat := W (80 + 4 * s + k)
abbrev wot (W : Wd) (o k : Nat) : Nat := W (104 + 3 * o + k)
abbrev whe (W : Wd) (h k : Nat) : Nat := W (116 + 9 * h + k)
abbrev wgr (W : Wd) (g k : Nat) : Nat := W (188 + 3 * g + k)
def IvA (W : Wd) : Prop := (W 1 = 0 ∧ W 2 = 0 ∧ W 3 = 0 ∧ W 4 = 0 ∧ W 5 = 0 ∧ W 6 = 0 ∧ W 7 = 0) ∨ (2 ≤ W 1 ∧ W 1 ≤ 12 ∧ 2 ≤ W 2 ∧ W 2 ≤ 12 ∧ 1 ≤ W 3 ∧ W 3 ≤ 28 ∧ 1 ≤ W 4 ∧ W 4 ≤ 60 ∧ W 5 ≤ 7 ∧ W 6 ≤ 6 ∧ W 7 ≤ 4)
def IvB (W : Wd) : Prop := W 0 ≤ 1601 ∧ W 8 ≤ 9 ∧ W 9 ≤ 9 ∧ W 10 ≤ 100 ∧ W 11 ≤ 60 ∧ W 12 ≤ 60 ∧ W 13 ≤ 100 ∧ W 14 ≤ 100 ∧ W 15 ≤ 60 ∧ W 16 ≤ 9999 ∧ W 17 ≤ 9999 ∧ W 18 < 2 ^ W 5 ∧ W 19 ≤ 9999
def IvC (W : Wd) (c : Nat) : Prop := wcr W c 0 ≤ 1 ∧ 1 ≤ wcr W c 1 ∧ (wcr W c 0 = 0 → wcr W c 1 + 1 ≤ W 1) ∧ (wcr W c 0 = 1 → wcr W c 1 + 1 ≤ W 2) ∧ wcr W c 2 ≤ 500 ∧ wcr W c 3 ≤ 99 ∧ wcr W c 4 ≤ 99 ∧ wcr W c 5 ≤ 99 ∧ wcr W c 6 ≤ 1 ∧ wcr W c 7 ≤ 99
def IvS (W : Wd) (s : Nat) : Prop := wso W s 0 ≤ 3 ∧ 1 ≤ wso W s 1 ∧ wso W s 1 ≤ 99 ∧ 1 ≤ wso W s 2 ∧ wso W s 2 ≤ 99 ∧ wso W s 3 ≤ 20 ∧ sN (fun h => whe W h (3 + s)) 8 ≤ wso W s 3
def IvO (W : Wd) (o : Nat) : Prop := 1 ≤ wot W o 0 ∧ wot W o 0 ≤ 60 ∧ wot W o 1 ≤ 100 ∧ wot W o 2 ≤ 9999
def IvH (W : Wd) (h : Nat) : Prop := whe W h 0 ≤ 1 ∧ (whe W h 0 = 1 → whe W h 1 < W 1 ∧ whe W h 2 < W 2) ∧ (whe W h 0 = 0 → whe W h 1 = 0 ∧ whe W h 2 = 0 ∧ ∀ s, s < 6 → whe W h (3 + s) = 0) ∧ ∀ s, W 6 ≤ s → s < 6 → whe W h (3 + s) = 0
def IvG (W : Wd) (g : Nat) : Prop := (0 < W 1 → wgr W g 0 < W 1 ∧ wgr W g 1 < W 2) ∧ wgr W g 0 ≤ 11 ∧ wgr W g 1 ≤ 11 ∧ wgr W g 2 ≤ 28
def Inv (W : Wd) : Prop := IvA W ∧ IvB W ∧ (∀ c, c < W 5 → IvC W c) ∧ (∀ s, s < W 6 → IvS W s) ∧ (∀ o, o < W 7 → IvO W o) ∧ (∀ h, h < 8 → IvH W h) ∧ (∀ g, g < 4 → IvG W g) ∧ sN (fun g => wgr W g 2) 4 ≤ W 3
section IV
variable {W : Wd} (I : Inv W)
theorem Inv.d (I : Inv W) : W 1 ≤ 12 ∧ W 2 ≤ 12 ∧ W 3 ≤ 28 ∧ W 4 ≤ 60 ∧ W 5 ≤ 7 ∧ W 6 ≤ 6 ∧ W 7 ≤ 4 := by
  rcases I.1 with h | h <;> omega
theorem Inv.C (I : Inv W) {c : Nat} (h : c < W 5) : IvC W c := I.2.2.1 c h
theorem Inv.S (I : Inv W) {s : Nat} (h : s < W 6) : IvS W s := I.2.2.2.1 s h
theorem Inv.O (I : Inv W) {o : Nat} (h : o < W 7) : IvO W o := I.2.2.2.2.1 o h
theorem Inv.H (I : Inv W) {h : Nat} (hh : h < 8) : IvH W h := I.2.2.2.2.2.1 h hh
theorem Inv.G (I : Inv W) {g : Nat} (h : g < 4) : IvG W g := I.2.2.2.2.2.2.1 g h
theorem Inv.floe (I : Inv W) (h : 0 < W 1) : 2 ≤ W 1 ∧ 2 ≤ W 2 ∧ 1 ≤ W 3 ∧ 1 ≤ W 4 := by
  rcases I.1 with q | q <;> omega
theorem Inv.u20 (I : Inv W) {h s : Nat} (hh : h < 8) (hs : s < 6) : whe W h (3 + s) ≤ 20 := by
  rcases Nat.lt_or_ge s (W 6) with q | q
  · obtain ⟨-, -, -, -, -, a, b⟩ := I.S q
    have := sN_one (f := fun h => whe W h (3 + s)) hh
    omega
  · have := (I.H hh).2.2.2 s q hs
    omega
end IV
def tonsN (W : Wd) (h : Nat) : Nat := sN (fun s => whe W h (3 + s) * wso W s 2) (W 6)
/-- where a crack's side of a place is asked -/
abbrev sdN (W : Wd) (c x y : Nat) : Nat := if wcr W c 0 = 0 then x else y
abbrev hsd (W : Wd) (c h : Nat) : Nat := sdN W c (whe W h 1) (whe W h 2)
abbrev nearP (W : Wd) (c h : Nat) : Prop := whe W h 0 = 1 ∧ (hsd W c h = wcr W c 1 ∨ hsd W c h + 1 = wcr W c 1)
def nearN (W : Wd) (c : Nat) : Nat := sN (fun h => if nearP W c h then tonsN W h else 0) 8
def rawN (W : Wd) (c t : Nat) : Nat := wcr W c 2 + W 8 * wcr W c 3 + W 9 * wcr W c 4 + wcr W c 5 * t / 100
def oddsByN (W : Wd) (c t : Nat) : Nat := min 10000 (if wcr W c 6 = 1 then 2 * rawN W c t else rawN W c t)
def oddsN (W : Wd) (c : Nat) : Nat := oddsByN W c (nearN W c)
def pieceN (W : Wd) (set x y : Nat) : Nat := sN (fun c => if set.testBit c = true ∧ wcr W c 1 ≤ sdN W c x y then (if wcr W c 0 = 0 then 1 else 8) else 0) (W 5)
abbrev gpN (W : Wd) (set g : Nat) : Nat := pieceN W set (wgr W g 0) (wgr W g 1)
abbrev hpN (W : Wd) (set h : Nat) : Nat := pieceN W set (whe W h 1) (whe W h 2)
def peopleOnN (W : Wd) (set p : Nat) : Nat := sN (fun g => if gpN W set g = p then wgr W g 2 else 0) 4
def givesN (W : Wd) (h kind : Nat) : Nat := sN (fun s => if wso W s 0 = kind then whe W h (3 + s) * wso W s 1 else 0) (W 6)
def givenN (W : Wd) (set p kind : Nat) : Nat := sN (fun h => if whe W h 0 = 1 ∧ hpN W set h = p then givesN W h kind else 0) 8
def tlN (W : Wd) (kind : Nat) : Nat := sN (fun s => if wso W s 0 = kind then 1 else 0) (W 6)
abbrev toldN (W : Wd) (kind : Nat) : Prop := 0 < tlN W kind
abbrev needN (d people kind : Nat) : Nat := if kind = 0 then people * d else people
def fstN (W : Wd) (set g : Nat) : Nat := sN (fun k => if gpN W set k = gpN W set g ∧ 0 < wgr W k 2 then 1 else 0) g
def lackP (W : Wd) (set g kind : Nat) : Nat := needN (W 4) (peopleOnN W set (gpN W set g)) kind - givenN W set (gpN W set g) kind
def lackAtN (W : Wd) (set g kind : Nat) : Nat := if 0 < fstN W set g then 0 else if peopleOnN W set (gpN W set g) = 0 then 0 else lackP W set g kind
def lacksN (W : Wd) (set kind : Nat) : Nat := if toldN W kind then sN (fun g => if 0 < wgr W g 2 then lackAtN W set g kind else 0) 4 else 0
def badN (W : Wd) (set : Nat) : Nat := sN (fun k => lacksN W set k) 4
abbrev enoughN (W : Wd) (set : Nat) : Prop := badN W set = 0
theorem toldN_iff {W : Wd} {kind : Nat} : toldN W kind ↔ ∃ s, s < W 6 ∧ wso W s 0 = kind := by
  unfold toldN tlN
  rw [Nat.pos_iff_ne_zero, ne_eq, sN_z]
  constructor
  · intro h
    apply Classical.byContradiction
    intro q
    exact h (fun i hi => if_neg (fun z => q ⟨i, hi, z⟩))
  · rintro ⟨s, h1, h2⟩ h
    have := h s h1
    rw [if_pos h2] at this
    omega
theorem fstN_iff {W : Wd} {set g : Nat} : 0 < fstN W set g ↔ ∃ k, k < g ∧ (gpN W set k = gpN W set g ∧ 0 < wgr W k 2) := by
  unfold fstN
  rw [Nat.pos_iff_ne_zero, ne_eq, sN_z]
  constructor
  · intro h
    apply Classical.byContradiction
    intro q
    exact h (fun i hi => if_neg (fun z => q ⟨i, hi, z⟩))
  · rintro ⟨s, h1, h2⟩ h
    have := h s h1
    rw [if_pos h2] at this
    omega
section BND
variable {W : Wd}
theorem tons_le (I : Inv W) {h : Nat} (hh : h < 8) : tonsN W h ≤ 11880 := by
  have h6 := I.d
  have := sN_le (f := fun s => whe W h (3 + s) * wso W s 2) (c := 1980) (n := W 6) (fun s hs => by
    have a := I.u20 hh (s := s) (by omega)
    obtain ⟨-, -, -, -, b, -⟩ := I.S hs
    exact Nat.le_trans (Nat.mul_le_mul a b) (by decide))
  unfold tonsN
  have h3 : W 6 * 1980 ≤ 6 * 1980 := Nat.mul_le_mul_right _ (by omega)
  omega
theorem near_le (I : Inv W) (c : Nat) : nearN W c ≤ 95040 := by
  have := sN_le (f := fun h => if nearP W c h then tonsN W h else 0) (c := 11880) (n := 8) (fun h hh => by
    by_cases q : nearP W c h
    · simp only [if_pos q]; exact tons_le I hh
    · simp only [if_neg q]; omega)
  unfold nearN
  omega
theorem odds_le (W : Wd) (c t : Nat) : oddsByN W c t ≤ 10000 := Nat.min_le_left _ _
theorem piece_le (I : Inv W) (set x y : Nat) : pieceN W set x y ≤ 56 := by
  have h5 := I.d
  have := sN_le (f := fun c => if set.testBit c = true ∧ wcr W c 1 ≤ sdN W c x y then (if wcr W c 0 = 0 then 1 else 8) else 0) (c := 8) (n := W 5) (fun c _ => by
    split
    · split <;> omega
    · omega)
  unfold pieceN
  have h3 : W 5 * 8 ≤ 7 * 8 := Nat.mul_le_mul_right _ (by omega)
  omega
theorem people_le (I : Inv W) (set p : Nat) : peopleOnN W set p ≤ 112 := by
  have := sN_le (f := fun g => if gpN W set g = p then wgr W g 2 else 0) (c := 28) (n := 4) (fun g hg => by
    obtain ⟨-, -, -, h⟩ := I.G hg
    split <;> omega)
  unfold peopleOnN
  omega
theorem gives_le (I : Inv W) {h : Nat} (hh : h < 8) (kind : Nat) : givesN W h kind ≤ 11880 := by
  have h6 := I.d
  have := sN_le (f := fun s => if wso W s 0 = kind then whe W h (3 + s) * wso W s 1 else 0) (c := 1980) (n := W 6) (fun s hs => by
    have a := I.u20 hh (s := s) (by omega)
    obtain ⟨-, -, b, -⟩ := I.S hs
    split
    · exact Nat.le_trans (Nat.mul_le_mul a b) (by decide)
    · omega)
  unfold givesN
  have h3 : W 6 * 1980 ≤ 6 * 1980 := Nat.mul_le_mul_right _ (by omega)
  omega
theorem given_le (I : Inv W) (set p kind : Nat) : givenN W set p kind ≤ 95040 := by
  have := sN_le (f := fun h => if whe W h 0 = 1 ∧ hpN W set h = p then givesN W h kind else 0) (c := 11880) (n := 8) (fun h hh => by
    have := gives_le I hh kind
    split <;> omega)
  unfold givenN
  omega
theorem need_le (I : Inv W) (set p kind : Nat) : needN (W 4) (peopleOnN W set p) kind ≤ 6720 := by
  have h1 := people_le I set p
  have h2 := I.d
  unfold needN
  split
  · exact Nat.le_trans (Nat.mul_le_mul h1 h2.2.2.2.1) (by decide)
  · omega
end BND
