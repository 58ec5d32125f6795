/-! what the methods are lifted into: partial functions; a guard, a loop -/
def gd {X : Type} (c : Prop) [Decidable c] (e : Option X) : Option X := if c then e else none
theorem gd_e {X : Type} {c : Prop} [Decidable c] {e : Option X} {x : X} (h : gd c e = some x) : c ∧ e = some x := by
  unfold gd at h
  by_cases q : c
  · rw [if_pos q] at h; exact ⟨q, h⟩
  · rw [if_neg q] at h; cases h
theorem gd_p {X : Type} {c : Prop} [Decidable c] (h : c) (e : Option X) : gd c e = e := if_pos h
def lt {A X : Type} (a : A) (f : A → Option X) : Option X := f a
theorem lt_e {A X : Type} {a : A} {f : A → Option X} {x : X} (h : lt a f = some x) : f a = some x := h
theorem ite_t {X : Type} {c : Prop} [Decidable c] {a b x : X} (q : c) (h : (if c then a else b) = x) : a = x := by rw [if_pos q] at h; exact h
theorem ite_f {X : Type} {c : Prop} [Decidable c] {a b x : X} (q : ¬ c) (h : (if c then a else b) = x) : b = x := by rw [if_neg q] at h; exact h
theorem ite_tn {X : Type} {c : Prop} [Decidable c] {a b x : X} (q : c) (h : (if ¬ c then a else b) = x) : b = x := by rw [if_neg (fun z => z q)] at h; exact h
theorem bnd {A X : Type} {e : Option A} {f : A → Option X} {x : X} (h : e.bind f = some x) : ∃ a, e = some a ∧ f a = some x := by
  cases e with
  | none => cases h
  | some a => exact ⟨a, rfl, h⟩
def up {S R : Type} (e : Option R) : Option (S ⊕ R) := e.bind (fun r => some (Sum.inr r))
theorem up_e {S R : Type} {e : Option R} {x : S ⊕ R} (h : up e = some x) : ∃ y, e = some y ∧ x = Sum.inr y := by
  cases e with
  | none => cases h
  | some a => exact ⟨a, rfl, (Option.some.inj h).symm⟩
theorem up_some {S R : Type} (r : R) : up (S := S) (some r) = some (Sum.inr r) := rfl
def loopN {S R : Type} : Nat → (S → Option (S ⊕ R)) → S → Option R
  | 0, _, _ => none
  | n + 1, b, s => match b s with
    | none => none
    | some (.inl s') => loopN n b s'
    | some (.inr r) => some r
theorem loopN_mono {S R : Type} {b : S → Option (S ⊕ R)} : ∀ {n k : Nat} {s : S} {r : R}, loopN n b s = some r → n ≤ k → loopN k b s = some r
  | 0, _, _, _, h, _ => by cases h
  | n + 1, 0, _, _, _, hk => by omega
  | n + 1, k + 1, s, r, h, hk => by
    unfold loopN at h ⊢
    cases hb : b s with
    | none => rw [hb] at h; cases h
    | some x =>
      rw [hb] at h
      cases x with
      | inl s' => exact loopN_mono (show loopN n b s' = some r from h) (by omega)
      | inr q => exact h
noncomputable def loop {S R : Type} (b : S → Option (S ⊕ R)) (s : S) : Option R :=
  @dite (Option R) (∃ n, ∃ r, loopN n b s = some r) (Classical.propDecidable _) (fun h => loopN h.choose b s) (fun _ => none)
theorem loop_of {S R : Type} {b : S → Option (S ⊕ R)} {s : S} {r : R} {n : Nat} (h : loopN n b s = some r) : loop b s = some r := by
  have hx : ∃ n, ∃ r, loopN n b s = some r := ⟨n, r, h⟩
  unfold loop
  rw [dif_pos hx]
  obtain ⟨r2, h2⟩ := hx.choose_spec
  rw [h2]
  have a := loopN_mono h (Nat.le_max_left n hx.choose)
  have c := loopN_mono h2 (Nat.le_max_right n hx.choose)
  exact (c.symm.trans a)
theorem loop_to {S R : Type} {b : S → Option (S ⊕ R)} {s : S} {r : R} (h : loop b s = some r) : ∃ n, loopN n b s = some r := by
  unfold loop at h
  split at h
  · rename_i hx
    exact ⟨_, h⟩
  · cases h
/-- a loop turns once -/
theorem loop_in {S R : Type} {b : S → Option (S ⊕ R)} {s s' : S} (h : b s = some (.inl s')) : loop b s = loop b s' := by
  cases q : loop b s' with
  | some r =>
    obtain ⟨n, hn⟩ := loop_to q
    refine loop_of (n := n + 1) ?_
    unfold loopN
    rw [h]
    exact hn
  | none =>
    cases q2 : loop b s with
    | none => rfl
    | some r =>
      obtain ⟨n, hn⟩ := loop_to q2
      cases n with
      | zero => cases hn
      | succ n =>
        unfold loopN at hn
        rw [h] at hn
        rw [loop_of (show loopN n b s' = some r from hn)] at q
        cases q
theorem loop_out {S R : Type} {b : S → Option (S ⊕ R)} {s : S} {r : R} (h : b s = some (.inr r)) : loop b s = some r := by
  refine loop_of (n := 1) ?_
  unfold loopN
  rw [h]
theorem loop_V {S R : Type} {b : S → Option (S ⊕ R)} {A : S → Prop} {P : R → Prop} (hb : ∀ s x, b s = some x → Sum.elim A P x → A s) (s : S) (y : R) (h : loop b s = some y) (hp : P y) : A s := by
  obtain ⟨n, hn⟩ := loop_to h
  clear h
  induction n generalizing s with
  | zero => cases hn
  | succ n ih =>
    unfold loopN at hn
    cases hx : b s with
    | none => rw [hx] at hn; cases hn
    | some x =>
      rw [hx] at hn
      refine hb s x hx ?_
      cases x with
      | inl s' => exact ih s' hn
      | inr r =>
        cases hn
        exact hp
/-- a loop that counts: its states are st 0, st 1 .., st n, and there it leaves -/
theorem loop_for {S R : Type} {b : S → Option (S ⊕ R)} {r : R} (n : Nat) (st : Nat → S) (hs : ∀ i, i < n → b (st i) = some (.inl (st (i + 1)))) (hx : b (st n) = some (.inr r)) : loop b (st 0) = some r := by
  have key : ∀ k i, i + k = n → loop b (st i) = some r := by
    intro k
    induction k with
    | zero => intro i hi; rw [show i = n by omega]; exact loop_out hx
    | succ k ih => intro i hi; rw [loop_in (hs i (by omega))]; exact ih (i + 1) (by omega)
  exact key n 0 (by omega)
/-- a loop by its invariant and a measure -/
theorem loop_inv {S R : Type} {b : S → Option (S ⊕ R)} (I : S → Prop) (P : R → Prop) (μ : S → Nat) (hb : ∀ s, I s → (∃ s', b s = some (.inl s') ∧ I s' ∧ μ s' < μ s) ∨ ∃ r, b s = some (.inr r) ∧ P r) (s : S) (h : I s) : ∃ r, loop b s = some r ∧ P r := by
  have key : ∀ k s, μ s < k → I s → ∃ r, loop b s = some r ∧ P r := by
    intro k
    induction k with
    | zero => intro s hk; omega
    | succ k ih =>
      intro s hk hi
      rcases hb s hi with ⟨s', h1, h2, h3⟩ | ⟨r, h1, h2⟩
      · obtain ⟨r, h4, h5⟩ := ih s' (by omega) h2
        exact ⟨r, (loop_in h1).trans h4, h5⟩
      · exact ⟨r, loop_out h1, h2⟩
  exact key _ s (Nat.lt_succ_self _) h
def jmin (x y : Int32) : Int32 := if y < x then y else x
def jmax (x y : Int32) : Int32 := if x < y then y else x
def jabs (x : Int32) : Int32 := if 0 ≤ x then x else 0 - x
def IM (own : String) (idx : Nat) (nm : MethodName) (cd : ByteArray) (n : Nat) : Prop := Cond.methodLink own idx nm ∈ AW ∧ Cond.static nm ∈ AW ∧ Cond.initialized "java/lang/Math" ∈ AW ∧ Cond.code nm cd n (some .int) ∈ AW
def RMM (Z : Post) : Prop := (1 ≤ Z.1.frames ∧ 21 ≤ Z.1.locals) ∧ Z.2.1 ≤ Z.1.cells ∧ Z.2.2.1 ≤ Z.1.slots
section LIFT
variable {g : GE} {Y : MI} {pc : Nat} {ls : List (Option AV)} {st : List AV} {m : Mem} {Z : Post}
theorem V_lif_eq {x y : Int64} {off : Int} {tgt : Nat} (hc : decode (yC Y) pc = .ok (.lcmp, 1)) (hd : decode (yC Y) (pc + 1) = .ok (.ifCond .eq off, 3)) (ht : ((pc + 1 : Nat) : Int) + off = (tgt : Int)) (kt : x = y → V g Y tgt ls st m Z) (kf : ¬ x = y → V g Y (pc + 1 + 3) ls st m Z) : V g Y pc ls (vl y :: vl x :: st) m Z :=
  V_lcmp hc (V_if_eq hd ht (fun q => kt ((lg_cmp_eq x y).mp q)) (fun q => kf (fun z => q ((lg_cmp_eq x y).mpr z))))
theorem V_lif_ne {x y : Int64} {off : Int} {tgt : Nat} (hc : decode (yC Y) pc = .ok (.lcmp, 1)) (hd : decode (yC Y) (pc + 1) = .ok (.ifCond .ne off, 3)) (ht : ((pc + 1 : Nat) : Int) + off = (tgt : Int)) (kt : ¬ x = y → V g Y tgt ls st m Z) (kf : x = y → V g Y (pc + 1 + 3) ls st m Z) : V g Y pc ls (vl y :: vl x :: st) m Z :=
  V_lcmp hc (V_if_ne hd ht (fun q => kt (fun z => q ((lg_cmp_eq x y).mpr z))) (fun q => kf ((lg_cmp_eq x y).mp q)))
theorem V_lif_lt {x y : Int64} {off : Int} {tgt : Nat} (hc : decode (yC Y) pc = .ok (.lcmp, 1)) (hd : decode (yC Y) (pc + 1) = .ok (.ifCond .lt off, 3)) (ht : ((pc + 1 : Nat) : Int) + off = (tgt : Int)) (kt : x < y → V g Y tgt ls st m Z) (kf : ¬ x < y → V g Y (pc + 1 + 3) ls st m Z) : V g Y pc ls (vl y :: vl x :: st) m Z :=
  V_lcmp hc (V_if_lt hd ht (fun q => kt ((lg_cmp_lt x y).mp q)) (fun q => kf (fun z => q ((lg_cmp_lt x y).mpr z))))
theorem V_lif_ge {x y : Int64} {off : Int} {tgt : Nat} (hc : decode (yC Y) pc = .ok (.lcmp, 1)) (hd : decode (yC Y) (pc + 1) = .ok (.ifCond .ge off, 3)) (ht : ((pc + 1 : Nat) : Int) + off = (tgt : Int)) (kt : y ≤ x → V g Y tgt ls st m Z) (kf : ¬ y ≤ x → V g Y (pc + 1 + 3) ls st m Z) : V g Y pc ls (vl y :: vl x :: st) m Z :=
  V_lcmp hc (V_if_ge hd ht (fun q => kt ((lg_cmp_ge x y).mp q)) (fun q => kf (fun z => q ((lg_cmp_ge x y).mpr z))))
theorem V_lif_gt {x y : Int64} {off : Int} {tgt : Nat} (hc : decode (yC Y) pc = .ok (.lcmp, 1)) (hd : decode (yC Y) (pc + 1) = .ok (.ifCond .gt off, 3)) (ht : ((pc + 1 : Nat) : Int) + off = (tgt : Int)) (kt : y < x → V g Y tgt ls st m Z) (kf : ¬ y < x → V g Y (pc + 1 + 3) ls st m Z) : V g Y pc ls (vl y :: vl x :: st) m Z :=
  V_lcmp hc (V_if_gt hd ht (fun q => kt ((lg_cmp_gt x y).mp q)) (fun q => kf (fun z => q ((lg_cmp_gt x y).mpr z))))
theorem V_lif_le {x y : Int64} {off : Int} {tgt : Nat} (hc : decode (yC Y) pc = .ok (.lcmp, 1)) (hd : decode (yC Y) (pc + 1) = .ok (.ifCond .le off, 3)) (ht : ((pc + 1 : Nat) : Int) + off = (tgt : Int)) (kt : x ≤ y → V g Y tgt ls st m Z) (kf : ¬ x ≤ y → V g Y (pc + 1 + 3) ls st m Z) : V g Y pc ls (vl y :: vl x :: st) m Z :=
  V_lcmp hc (V_if_le hd ht (fun q => kt ((lg_cmp_le x y).mp q)) (fun q => kf (fun z => q ((lg_cmp_le x y).mpr z))))
variable {r : Option AV} {m' : Mem}
theorem E_i {x : Int32} (hd : decode (yC Y) pc = .ok (.ireturn, 1)) (hr : yR Y = some .int) (h : r = some (vi x) ∧ m' = m) : V g Y pc ls [vi x] m (PM g Y r m') := V_iret hd hr h.1 h.2
theorem E_z {x : Int32} {ty : FieldType} (hd : decode (yC Y) pc = .ok (.ireturn, 1)) (hr : yR Y = some ty) (hn : narrow ty (.int x) = .int x) (h : r = some (vi x) ∧ m' = m) : V g Y pc ls [vi x] m (PM g Y r m') := V_zret hd hr hn h.1 h.2
theorem E_l {x : Int64} (hd : decode (yC Y) pc = .ok (.lreturn, 1)) (hr : yR Y = some .long) (h : r = some (vl x) ∧ m' = m) : V g Y pc ls [vl x] m (PM g Y r m') := V_lret hd hr h.1 h.2
theorem E_v (hd : decode (yC Y) pc = .ok (.return_, 1)) (hr : yR Y = none) (h : r = none ∧ m' = m) : V g Y pc ls [] m (PM g Y r m') := V_vret hd hr h.1 h.2
theorem E_a {x : Nat} {C : String} (hd : decode (yC Y) pc = .ok (.areturn, 1)) (hr : yR Y = some (.object C)) (h : r = some (vr x) ∧ m' = m) : V g Y pc ls [vr x] m (PM g Y r m') := V_aret hd hr h.1 h.2
theorem V_mmin {x y : Int32} {idx : Nat} (hd : decode (yC Y) pc = .ok (.invokestatic idx, 3)) (hw : IM (yO Y) idx Lib.Math.min.name Lib.Math.min.code 2) (hR : RMM Z) (hst : catS st ≤ 8) (h : V g Y (pc + 3) ls (vi (jmin x y) :: st) m Z) : V g Y pc ls (vi y :: vi x :: st) m Z := by
  intro p e s mid args below meth c H locs la hG hF hE hP hS hL
  exact va_mmin hF.1 hF.2.1 (hF.2.2.2.1.trans hL.1.symm) hF.2.2.2.2.1 (hF.AW hw.1) (hF.AW hw.2.1) (hF.AW hw.2.2.1) (hF.AW hw.2.2.2) hR.1.1 (by rw [catS_eq]; have := hR.1.2; omega) hR.2.1 hR.2.2 hd (h p e s mid args below meth c H locs la hG hF hE hP hS hL)
theorem V_mmax {x y : Int32} {idx : Nat} (hd : decode (yC Y) pc = .ok (.invokestatic idx, 3)) (hw : IM (yO Y) idx Lib.Math.max.name Lib.Math.max.code 2) (hR : RMM Z) (hst : catS st ≤ 8) (h : V g Y (pc + 3) ls (vi (jmax x y) :: st) m Z) : V g Y pc ls (vi y :: vi x :: st) m Z := by
  intro p e s mid args below meth c H locs la hG hF hE hP hS hL
  exact va_mmax hF.1 hF.2.1 (hF.2.2.2.1.trans hL.1.symm) hF.2.2.2.2.1 (hF.AW hw.1) (hF.AW hw.2.1) (hF.AW hw.2.2.1) (hF.AW hw.2.2.2) hR.1.1 (by rw [catS_eq]; have := hR.1.2; omega) hR.2.1 hR.2.2 hd (h p e s mid args below meth c H locs la hG hF hE hP hS hL)
theorem V_mabs {x : Int32} {idx : Nat} (hd : decode (yC Y) pc = .ok (.invokestatic idx, 3)) (hw : IM (yO Y) idx Lib.Math.abs.name Lib.Math.abs.code 1) (hR : RMM Z) (hst : catS st ≤ 8) (h : V g Y (pc + 3) ls (vi (jabs x) :: st) m Z) : V g Y pc ls (vi x :: st) m Z := by
  intro p e s mid args below meth c H locs la hG hF hE hP hS hL
  exact va_mabs hF.1 hF.2.1 (hF.2.2.2.1.trans hL.1.symm) hF.2.2.2.2.1 (hF.AW hw.1) (hF.AW hw.2.1) (hF.AW hw.2.2.1) (hF.AW hw.2.2.2) hR.1.1 (by rw [catS_eq]; have := hR.1.2; omega) hR.2.1 hR.2.2 hd (h p e s mid args below meth c H locs la hG hF hE hP hS hL)
/-- an int that is a truth -/
abbrev isZ (x : Int32) : Prop := x = 0 ∨ x = 1
theorem nar_z {x : Int32} (h : isZ x) : narrow .boolean (.int x) = .int x := by
  rcases h with rfl | rfl <;> rfl
theorem fit_z {x : Int32} (h : isZ x) : fits .boolean (.int x) = true := by
  rcases h with rfl | rfl <;> rfl
theorem V_slen (hd : decode (yC Y) pc = .ok (.arraylength, 1)) (h : V g Y (pc + 1) ls (vi (Int32.ofNat g.2.2.2.2.1) :: st) m Z) : V g Y pc ls (vr 3000 :: st) m Z := by
  intro p e s mid args below meth c H locs la hG hF hE hP hS hL
  rw [List.map_cons, tr_r g (by decide)]
  exact va_tlen hF.1 hF.2.1 hE.2.2.2.2 hS rfl hd (h p e s mid args below meth c H locs la hG hF hE hP hS hL)
theorem V_sld {i : Int32} (hd : decode (yC Y) pc = .ok (.iaload, 1)) (hin : inb i g.2.2.2.2.1) (h : V g Y (pc + 1) ls (vi (g.2.2.2.2.2 (ix i)) :: st) m Z) : V g Y pc ls (vi i :: vr 3000 :: st) m Z := by
  intro p e s mid args below meth c H locs la hG hF hE hP hS hL
  rw [List.map_cons, List.map_cons, tr_r g (by decide)]
  exact va_ti hF.1 hF.2.1 hE.2.2.2.2 hS hin rfl hd (h p e s mid args below meth c H locs la hG hF hE hP hS hL)
end LIFT
