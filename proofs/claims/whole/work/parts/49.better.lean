/-! betters, gap -/
section BETTER
variable {m : Mem} {c : Nat} {W : Wd}
theorem plc_self (W : Wd) {h : Nat} (ht : whe W h 0 = 1) : plcW W h (whe W h 1) (whe W h 2) = W := by
  funext j
  unfold plcW
  by_cases q0 : j = 116 + 9 * h
  · rw [if_pos q0, q0]; exact ht.symm
  · rw [if_neg q0]
    by_cases q1 : j = 116 + 9 * h + 1
    · rw [if_pos q1, q1]
    · rw [if_neg q1]
      by_cases q2 : j = 116 + 9 * h + 2
      · rw [if_pos q2, q2]
      · rw [if_neg q2]
theorem plc_plc (W : Wd) (h a b x y : Nat) : plcW (plcW W h a b) h x y = plcW W h x y := by
  funext j
  unfold plcW
  by_cases q0 : j = 116 + 9 * h
  · simp only [if_pos q0]
  · by_cases q1 : j = 116 + 9 * h + 1
    · simp only [if_neg q0, if_pos q1]
    · by_cases q2 : j = 116 + 9 * h + 2
      · simp only [if_neg q0, if_neg q1, if_pos q2]
      · simp only [if_neg q0, if_neg q1, if_neg q2]
theorem plc_cr (W : Wd) {h : Nat} (x y : Nat) : CrE W (plcW W h x y) := ⟨plc_o W (by omega), fun k j hk hj => plc_o W (by omega)⟩
theorem lk_cr {V : Wd} (h : CrE W V) (d5 : W 5 ≤ 7) {x y x2 y2 : Nat} : lkP V x y x2 y2 ↔ lkP W x y x2 y2 := by
  unfold lkP nrP sdN
  rw [h.1]
  constructor
  · intro a k hk
    have := a k hk
    rwa [h.2 k 0 (by omega) (by omega), h.2 k 1 (by omega) (by omega)] at this
  · intro a k hk
    rw [h.2 k 0 (by omega) (by omega), h.2 k 1 (by omega) (by omega)]
    exact a k hk
theorem lk_sym {x y x2 y2 : Nat} (h : lkP W x y x2 y2) : lkP W x2 y2 x y := fun k hk => ⟨(h k hk).1.symm, (h k hk).2.symm⟩
def lsN (W : Wd) (h x y : Nat) : Int64 := lostL (plcW W h x y) (openL (plcW W h x y)) 1
def nowL (W : Wd) : Int64 := lostL W (openL W) 1
theorem ls_like (I : Inv W) {h x y x2 y2 : Nat} (hh : h < 8) (hx : x < W 1) (hy : y < W 2) (hx2 : x2 < W 1) (hy2 : y2 < W 2) (L : lkP W x y x2 y2) : lsN W h x y = lsN W h x2 y2 := by
  have d := I.d
  refine move_eq (I.plc hh hx2 hy2) (I.plc hh hx hy) hh (fun i _ h1 h2 => ?_) (Or.inr ?_) 1
  · unfold plcW
    by_cases q0 : i = 116 + 9 * h
    · rw [if_pos q0, if_pos q0]
    · rw [if_neg q0, if_neg h1, if_neg h2, if_neg q0, if_neg h1, if_neg h2]
  · rw [plc_1, plc_2, plc_1, plc_2]
    exact (lk_cr (plc_cr W x2 y2) (by omega)).mpr (lk_sym L)
theorem ls_t0 (I : Inv W) {h x y : Nat} (hh : h < 8) (ht : whe W h 0 = 1) (hx : x < W 1) (hy : y < W 2) (e : tonsN W h = 0) : lsN W h x y = nowL W := by
  refine move_eq I (I.plc hh hx hy) hh (fun i _ h1 h2 => ?_) (Or.inl e) 1
  unfold plcW
  by_cases q0 : i = 116 + 9 * h
  · rw [if_pos q0, q0]; exact ht.symm
  · rw [if_neg q0, if_neg h1, if_neg h2]
abbrev ScT : Type := Int64 × Option (Nat × Nat × Nat)
def stC (W : Wd) (h y : Nat) (s : ScT) (x : Nat) : ScT := if lsN W h x y < s.1 then (lsN W h x y, some (h, x, y)) else s
def scX (W : Wd) (h y : Nat) (s : ScT) : Nat → ScT
  | 0 => s
  | x + 1 => stC W h y (scX W h y s x) x
def scY (W : Wd) (h : Nat) (s : ScT) : Nat → ScT
  | 0 => s
  | y + 1 => scX W h y (scY W h s y) (W 1)
def scH (W : Wd) : Nat → ScT
  | 0 => (nowL W, none)
  | h + 1 => if whe W h 0 = 1 then scY W h (scH W h) (W 2) else scH W h
def OkT (W : Wd) (s : ScT) : Prop := (s.2 = none ∧ s.1 = nowL W) ∨ ∃ h x y, s.2 = some (h, x, y) ∧ h < 8 ∧ whe W h 0 = 1 ∧ x < W 1 ∧ y < W 2 ∧ s.1 < nowL W
theorem OkT.le {s : ScT} (h : OkT W s) : s.1 ≤ nowL W := by
  rcases h with ⟨-, h⟩ | ⟨a, x, y, -, -, -, -, -, h⟩
  · rw [h]; exact Int64.le_refl _
  · exact Int64.le_of_lt h
theorem scX_ok {s : ScT} (h0 : OkT W s) {h y : Nat} (hh : h < 8) (ht : whe W h 0 = 1) (hy : y < W 2) : ∀ n, n ≤ W 1 → OkT W (scX W h y s n) ∧ (scX W h y s n).1 ≤ s.1 ∧ ∀ x, x < n → (scX W h y s n).1 ≤ lsN W h x y
  | 0, _ => ⟨h0, Int64.le_refl _, fun x hx => by omega⟩
  | n + 1, hn => by
    obtain ⟨a, b, e⟩ := scX_ok h0 hh ht hy n (by omega)
    show OkT W (if lsN W h n y < (scX W h y s n).1 then (lsN W h n y, some (h, n, y)) else scX W h y s n) ∧ (if lsN W h n y < (scX W h y s n).1 then (lsN W h n y, some (h, n, y)) else scX W h y s n).1 ≤ s.1 ∧ ∀ x, x < n + 1 → (if lsN W h n y < (scX W h y s n).1 then (lsN W h n y, some (h, n, y)) else scX W h y s n).1 ≤ lsN W h x y
    by_cases q : lsN W h n y < (scX W h y s n).1
    · simp only [if_pos q]
      refine ⟨Or.inr ⟨h, n, y, rfl, hh, ht, by omega, hy, Int64.lt_of_lt_of_le q a.le⟩, Int64.le_of_lt (Int64.lt_of_lt_of_le q b), fun x hx => ?_⟩
      by_cases z : x = n
      · rw [z]; exact Int64.le_refl _
      · exact Int64.le_of_lt (Int64.lt_of_lt_of_le q (e x (by omega)))
    · simp only [if_neg q]
      refine ⟨a, b, fun x hx => ?_⟩
      by_cases z : x = n
      · rw [z]; exact Int64.not_lt.mp q
      · exact e x (by omega)
theorem scY_ok {s : ScT} (h0 : OkT W s) {h : Nat} (hh : h < 8) (ht : whe W h 0 = 1) : ∀ n, n ≤ W 2 → OkT W (scY W h s n) ∧ (scY W h s n).1 ≤ s.1 ∧ ∀ y, y < n → ∀ x, x < W 1 → (scY W h s n).1 ≤ lsN W h x y
  | 0, _ => ⟨h0, Int64.le_refl _, fun y hy => by omega⟩
  | n + 1, hn => by
    obtain ⟨a, b, e⟩ := scY_ok h0 hh ht n (by omega)
    obtain ⟨a1, b1, e1⟩ := scX_ok a hh ht (y := n) (by omega) (W 1) (Nat.le_refl _)
    refine ⟨a1, Int64.le_trans b1 b, fun y hy x hx => ?_⟩
    by_cases z : y = n
    · rw [z]; exact e1 x hx
    · exact Int64.le_trans b1 (e y (by omega) x hx)
theorem scH_ok (W : Wd) : ∀ n, n ≤ 8 → OkT W (scH W n)
  | 0, _ => Or.inl ⟨rfl, rfl⟩
  | n + 1, hn => by
    have a := scH_ok W n (by omega)
    show OkT W (if whe W n 0 = 1 then scY W n (scH W n) (W 2) else scH W n)
    by_cases q : whe W n 0 = 1
    · rw [if_pos q]
      exact (scY_ok a (by omega) q (W 2) (Nat.le_refl _)).1
    · rw [if_neg q]; exact a
/-- a heap that has nothing betters nothing -/
theorem scY_t0 (I : Inv W) {s : ScT} (h0 : OkT W s) {h : Nat} (hh : h < 8) (ht : whe W h 0 = 1) (e : tonsN W h = 0) : ∀ n, n ≤ W 2 → scY W h s n = s
  | 0, _ => rfl
  | n + 1, hn => by
    have ih := scY_t0 I h0 hh ht e n (by omega)
    show scX W h n (scY W h s n) (W 1) = s
    rw [ih]
    have : ∀ k, k ≤ W 1 → scX W h n s k = s := by
      intro k
      induction k with
      | zero => intro _; rfl
      | succ k ik =>
        intro hk
        show (if lsN W h k n < (scX W h n s k).1 then _ else scX W h n s k) = s
        rw [ik (by omega), ls_t0 I hh ht (by omega) (by omega) e, if_neg (Int64.not_lt.mpr h0.le)]
    exact this (W 1) (Nat.le_refl _)
def nxW (W : Wd) : Wd := match (scH W 8).2 with
  | none => W
  | some t => plcW W t.1 t.2.1 t.2.2
def btB (W : Wd) : Bool := (scH W 8).2.isSome
theorem nx_inv (I : Inv W) : Inv (nxW W) := by
  have h := scH_ok W 8 (by omega)
  unfold nxW
  rcases h with ⟨h, -⟩ | ⟨a, x, y, h, h1, h2, h3, h4, -⟩
  · rw [h]; exact I
  · rw [h]; exact I.plc h1 h3 h4
/-! the reference's look for a move -/
def FpB (m m' : Mem) : Prop := ∀ a, a ≠ 299 → a ≠ 305 → a ≠ 306 → m'.1 a = m.1 a ∧ m'.2 a = m.2 a
theorem FpB.refl {m : Mem} : FpB m m := fun _ _ _ _ => ⟨rfl, rfl⟩
theorem FpB.trans {m m' m'' : Mem} (h : FpB m m') (k : FpB m' m'') : FpB m m'' := fun a p q r => ⟨(k a p q r).1.trans (h a p q r).1, (k a p q r).2.trans (h a p q r).2⟩
theorem Fp.B {lo hi : Nat} {m m' : Mem} (F : Fp lo hi m m') (h : (299 ≤ lo ∧ hi ≤ 300) ∨ (305 ≤ lo ∧ hi ≤ 307)) : FpB m m' := fun a p q r => F a (by omega)
theorem FpB.M {m m' : Mem} (h : FpB m m') : FpM m m' := fun a q => h a (by omega) (by omega) (by omega)
def eH : Option (Nat × Nat × Nat) → Int32
  | none => -1
  | some t => nI t.1
def eX : Option (Nat × Nat × Nat) → Int32
  | none => 0
  | some t => nI t.2.1
def eY : Option (Nat × Nat × Nat) → Int32
  | none => 0
  | some t => nI t.2.2
theorem set2 {V : Wd} {h : Nat} (hh : h < 8) (x y : Nat) {z : Mem} (hz : MW z V) (E : ∀ j, j < 200 → j ≠ 116 + 9 * h + 1 → j ≠ 116 + 9 * h + 2 → V j = plcW W h x y j) : Ok ((Mo_setHeap 298 (nI h) 1 (nI x) z).bind (fun m1 => Mo_setHeap 298 (nI h) 2 (nI y) m1)) (fun u => MW u (plcW W h x y) ∧ FpB z u) := by
  refine Ok_b (Mo_setHeap_e _ (k := 1) hh (by omega) _) (Ok_e (Mo_setHeap_e _ (k := 2) hh (by omega) _) ⟨fun j hj => ?_, ?_⟩)
  · rw [wI_at, wI_at]
    by_cases q2 : j = 116 + 9 * h + 2
    · rw [if_pos q2, q2]; exact congrArg nI (plc_2 W h x y).symm
    · rw [if_neg q2]
      by_cases q1 : j = 116 + 9 * h + 1
      · rw [if_pos q1, q1]; exact congrArg nI (plc_1 W h x y).symm
      · rw [if_neg q1, hz j hj, E j hj q1 q2]
  · exact ((Fp.wI (lo := 299) (hi := 300) (by omega) (by omega) _ _).trans (Fp.wI (by omega) (by omega) _ _)).B (by omega)
theorem set2_k {α : Type} {h : Nat} {a b : Int32} {z : Mem} {f : Mem → Option α} {Q : Mem → Prop} {P : α → Prop} (H : Ok ((Mo_setHeap 298 (nI h) 1 a z).bind (fun m1 => Mo_setHeap 298 (nI h) 2 b m1)) Q) (k : ∀ u, Q u → Ok (f u) P) : Ok ((Mo_setHeap 298 (nI h) 1 a z).bind (fun m1 => (Mo_setHeap 298 (nI h) 2 b m1).bind f)) P := by
  obtain ⟨u, e, q⟩ := H
  obtain ⟨m1, e1, e2⟩ := bnd e
  rw [e1, bind_s, e2, bind_s]
  exact k u q
theorem plc_E (W : Wd) (h a b x y : Nat) : ∀ j, j < 200 → j ≠ 116 + 9 * h + 1 → j ≠ 116 + 9 * h + 2 → plcW W h a b j = plcW W h x y j := fun j _ h1 h2 => by
  unfold plcW
  by_cases q0 : j = 116 + 9 * h
  · rw [if_pos q0, if_pos q0]
  · rw [if_neg q0, if_neg h1, if_neg h2, if_neg q0, if_neg h1, if_neg h2]
theorem Mo_isBettered_e (hW : MW m W) (I : Inv W) : Ok (Mo_isBettered 298 m) (fun r => r.1 = (if btB W = true then 1 else 0) ∧ MW r.2 (nxW W) ∧ FpB m r.2) := by
  have d := I.d
  unfold Mo_isBettered
  refine Ok_bind (Mo_lostIn_e (n := 1) hW I (by omega)) (fun r0 ⟨r1, F0⟩ => ?_)
  rw [r1]
  refine Ok_loop 8 (fun h x => ((scH W h).1, eH (scH W h).2, eX (scH W h).2, eY (scH W h).2, nI h, x)) (fun h x => MW x W ∧ FpB m x) r0.2 rfl ⟨hW.fp F0 (by omega), F0.B (by omega)⟩ (fun h x hh ⟨V, F⟩ => ?_) (fun x ⟨V, F⟩ => ?_)
  · show Ok (Mo_isBettered_l17 298 (scH W h).1 (eH (scH W h).2) (eX (scH W h).2) (eY (scH W h).2) (nI h) x) _
    unfold Mo_isBettered_l17 Mo_isBettered_b161
    refine Ok_if (show ¬ (8 : Int32) ≤ nI h from nI_ge (b := 8) hh (by decide)) (Ok_b (qT V hh (I.H hh).1) ?_)
    rw [ite_b2, nI_1]
    by_cases ht : whe W h 0 = 1
    · have eS : scH W (h + 1) = scY W h (scH W h) (W 2) := if_pos ht
      rw [if_pos ht]
      refine Ok_b (qH1 V hh) (Ok_b (qH2 V hh) ?_)
      refine Ok_loop (W 2) (fun y z => ((scY W h (scH W h) y).1, eH (scY W h (scH W h) y).2, eX (scY W h (scH W h) y).2, eY (scY W h (scH W h) y).2, nI y, z)) (fun y z => (∃ a b, MW z (plcW W h a b)) ∧ FpB m z) x rfl ⟨⟨whe W h 1, whe W h 2, by rw [plc_self W ht]; exact V⟩, F⟩ (fun y z hy ⟨⟨a, b, Vz⟩, Fz⟩ => ?_) (fun z ⟨⟨a, b, Vz⟩, Fz⟩ => ?_)
      · show Ok (Mo_isBettered_l57 298 (nI h) (nI (whe W h 1)) (nI (whe W h 2)) (scY W h (scH W h) y).1 (eH (scY W h (scH W h) y).2) (eX (scY W h (scH W h) y).2) (eY (scY W h (scH W h) y).2) (nI y) z) _
        unfold Mo_isBettered_l57
        refine Ok_gd (by decide) ?_
        rw [qW2 Vz, plc_o W (by omega)]
        refine Ok_if (nI_ge hy (by omega)) ?_
        refine Ok_loop (W 1) (fun k u => ((scX W h y (scY W h (scH W h) y) k).1, eH (scX W h y (scY W h (scH W h) y) k).2, eX (scX W h y (scY W h (scH W h) y) k).2, eY (scX W h y (scY W h (scH W h) y) k).2, nI k, u)) (fun k u => (∃ a b, MW u (plcW W h a b)) ∧ FpB m u) z rfl ⟨⟨a, b, Vz⟩, Fz⟩ (fun k u hk ⟨⟨a2, b2', Vu⟩, Fu⟩ => ?_) (fun u ⟨⟨a2, b2', Vu⟩, Fu⟩ => ?_)
        · show Ok (Mo_isBettered_l71 298 (nI h) (nI (whe W h 1)) (nI (whe W h 2)) (nI y) (scX W h y (scY W h (scH W h) y) k).1 (eH (scX W h y (scY W h (scH W h) y) k).2) (eX (scX W h y (scY W h (scH W h) y) k).2) (eY (scX W h y (scY W h (scH W h) y) k).2) (nI k) u) _
          unfold Mo_isBettered_l71 Mo_isBettered_b131
          refine Ok_gd (by decide) ?_
          rw [qW1 Vu, plc_o W (by omega)]
          refine Ok_if (nI_ge hk (by omega)) (set2_k (set2 (W := W) hh k y Vu (plc_E W h a2 b2' k y)) (fun v ⟨Vv, Fv⟩ => ?_))
          refine Ok_bind (Mo_lostIn_e (n := 1) Vv (I.plc hh hk hy) (by omega)) (fun q ⟨q1, Fq⟩ => ?_)
          rw [q1, nI_1, show lostL (plcW W h k y) (openL (plcW W h k y)) 1 = lsN W h k y from rfl]
          have FF : FpB m q.2 := (Fu.trans Fv).trans (Fq.B (by omega))
          by_cases w : lsN W h k y < (scX W h y (scY W h (scH W h) y) k).1
          · have e : scX W h y (scY W h (scH W h) y) (k + 1) = (lsN W h k y, some (h, k, y)) := if_pos w
            rw [e]
            exact Ok_it w (Ok_s ⟨q.2, rfl, ⟨k, y, Vv.fp Fq (by omega)⟩, FF⟩)
          · have e : scX W h y (scY W h (scH W h) y) (k + 1) = scX W h y (scY W h (scH W h) y) k := if_neg w
            rw [e]
            exact Ok_if w (Ok_s ⟨q.2, rfl, ⟨k, y, Vv.fp Fq (by omega)⟩, FF⟩)
        · show Ok (Mo_isBettered_l71 298 (nI h) (nI (whe W h 1)) (nI (whe W h 2)) (nI y) (scX W h y (scY W h (scH W h) y) (W 1)).1 (eH (scX W h y (scY W h (scH W h) y) (W 1)).2) (eX (scX W h y (scY W h (scH W h) y) (W 1)).2) (eY (scX W h y (scY W h (scH W h) y) (W 1)).2) (nI (W 1)) u) _
          unfold Mo_isBettered_l71
          refine Ok_gd (by decide) ?_
          rw [qW1 Vu, plc_o W (by omega), if_pos (nI_le (Nat.le_refl _) (by omega)), up_some, nI_1]
          exact Ok_s ⟨_, rfl, u, rfl, ⟨a2, b2', Vu⟩, Fu⟩
      · show Ok (Mo_isBettered_l57 298 (nI h) (nI (whe W h 1)) (nI (whe W h 2)) (scY W h (scH W h) (W 2)).1 (eH (scY W h (scH W h) (W 2)).2) (eX (scY W h (scH W h) (W 2)).2) (eY (scY W h (scH W h) (W 2)).2) (nI (W 2)) z) _
        unfold Mo_isBettered_l57 Mo_isBettered_b161
        refine Ok_gd (by decide) ?_
        rw [qW2 Vz, plc_o W (by omega), nI_1]
        refine Ok_it (nI_le (Nat.le_refl _) (by omega)) (Ok_up (set2_k (set2 (W := W) hh (whe W h 1) (whe W h 2) Vz (plc_E W h a b _ _)) (P := fun r => ∃ x', r = Sum.inl ((scH W (h + 1)).1, eH (scH W (h + 1)).2, eX (scH W (h + 1)).2, eY (scH W (h + 1)).2, nI (h + 1), x') ∧ MW x' W ∧ FpB m x') (fun v ⟨Vv, Fv⟩ => ?_)) (fun y hy => ⟨y, rfl, hy⟩))
        rw [plc_self W ht] at Vv
        rw [eS]
        exact Ok_s ⟨v, rfl, Vv, Fz.trans Fv⟩
    · have eS : scH W (h + 1) = scH W h := if_neg ht
      rw [if_neg ht, eS]
      exact Ok_s ⟨x, rfl, V, F⟩
  · have ok := scH_ok W 8 (by omega)
    show Ok (Mo_isBettered_l17 298 (scH W 8).1 (eH (scH W 8).2) (eX (scH W 8).2) (eY (scH W 8).2) (nI 8) x) _
    unfold Mo_isBettered_l17 btB nxW
    refine Ok_it (show (8 : Int32) ≤ nI 8 by decide) ?_
    rcases ok with ⟨h, -⟩ | ⟨a, p, q, h, h1, h2, h3, h4, -⟩
    · rw [h, if_pos (show eH none = -1 from rfl), up_some]
      exact Ok_s ⟨_, rfl, rfl, V, F⟩
    · rw [h, if_neg (show ¬ eH (some (a, p, q)) = -1 from neg1 (by show a < 2147483648; omega))]
      refine Ok_up (P := fun r : Int32 × Mem => r.1 = 1 ∧ MW r.2 (plcW W a p q) ∧ FpB m r.2) ?_ (fun y hy => ⟨y, rfl, hy⟩)
      show Ok ((Mo_setHeap 298 (nI a) 1 (nI p) x).bind (fun m179 => (Mo_setHeap 298 (nI a) 2 (nI q) m179).bind (fun m187 => some ((1 : Int32), m187)))) _
      refine set2_k (set2 (W := W) h1 p q V (fun j hj g1 g2 => ?_)) (fun v ⟨Vv, Fv⟩ => Ok_s ⟨rfl, Vv, F.trans Fv⟩)
      rw [← plc_E W a (whe W a 1) (whe W a 2) p q j hj g1 g2, plc_self W h2]
/-! the class's look -/
def BtF (c : Nat) (m m' : Mem) : Prop := ∀ a, (a < c ∨ c + 41 ≤ a) → a ≠ 220 → (a < 262 ∨ 279 ≤ a) → m'.1 a = m.1 a ∧ m'.2 a = m.2 a
theorem BtF.refl : BtF c m m := fun _ _ _ _ => ⟨rfl, rfl⟩
theorem BtF.trans {m' m'' : Mem} (h : BtF c m m') (k : BtF c m' m'') : BtF c m m'' := fun a p q r => ⟨(k a p q r).1.trans (h a p q r).1, (k a p q r).2.trans (h a p q r).2⟩
theorem Fp.Bt {lo hi : Nat} {m m' : Mem} (F : Fp lo hi m m') (h : (c ≤ lo ∧ hi ≤ c + 41) ∨ (262 ≤ lo ∧ hi ≤ 279) ∨ (220 ≤ lo ∧ hi ≤ 221)) : BtF c m m' := fun a p q r => F a (by omega)
def Nt (m : Mem) (s : ScT) : Prop := ∀ t, s.2 = some t → m.1 220 2 = nI t.1 ∧ m.1 220 3 = nI t.2.1 ∧ m.1 220 4 = nI t.2.2
theorem Nt.e {m' : Mem} {s : ScT} (h : Nt m s) (e : m'.1 220 = m.1 220) : Nt m' s := fun t q => by rw [e]; exact h t q
theorem fb_row (I : Inv W) (hc : c + 40 ≤ 262) (hc2 : 220 < c ∨ c + 40 < 220) {h : Nat} (hh : h < 8) (ht : whe W h 0 = 1) {y : Nat} (hy : y < W 2) {s : ScT} (ok : OkT W s) (pr : ∀ y', y' < y → ∀ x, x < W 1 → s.1 ≤ lsN W h x y') (R : ∃ a b, a < W 1 ∧ b < W 2 ∧ CR m c (plcW W h a b)) (nt : Nt m s) (v3 : Int64) (v8 v9 : Int32) :
    Ok (loop (fun q : Int64 × Int32 × Mem => Tr_findBetter_l82 220 c v3 (nI h) v8 v9 1 (nI y) q.1 q.2.1 q.2.2) (s.1, 0, m)) (fun r => ∃ z, r = Sum.inl ((scX W h y s (W 1)).1, nI (y + 1), z) ∧ (∃ a b, a < W 1 ∧ b < W 2 ∧ CR z c (plcW W h a b)) ∧ BtF c m z ∧ Nt z (scX W h y s (W 1))) := by
  have d := I.d
  refine Ok_loop (W 1) (fun k u => ((scX W h y s k).1, nI k, u)) (fun k u => (∃ a b, a < W 1 ∧ b < W 2 ∧ CR u c (plcW W h a b)) ∧ BtF c m u ∧ Nt u (scX W h y s k)) m rfl ⟨R, BtF.refl, nt⟩ (fun k u hk ⟨⟨a, b, ha, hb, Ru⟩, Fu, nu⟩ => ?_) (fun u ⟨⟨a, b, ha, hb, Ru⟩, Fu, nu⟩ => ?_)
  · obtain ⟨o1, o2, o3⟩ := scX_ok ok hh ht hy k (by omega)
    have Ju := I.plc hh ha hb
    show Ok (Tr_findBetter_l82 220 c v3 (nI h) v8 v9 1 (nI y) (scX W h y s k).1 (nI k) u) _
    unfold Tr_findBetter_l82 Tr_findBetter_b145
    rw [cf0 Ru, plc_o W (by omega)]
    refine Ok_if (nI_ge hk (by omega)) (Ok_bind (Fl_isLikeN_e Ru Ju (by omega) (by omega)) (fun r hr => ?_))
    have lnE : lnP (plcW W h a b) k y ↔ lnP W k y := by
      unfold lnP
      rw [lk_cr (plc_cr W a b) (by omega), lk_cr (plc_cr W a b) (by omega)]
    rcases hr with ⟨rfl, w⟩ | ⟨rfl, w⟩
    · refine Ok_if (by decide) ?_
      have e : scX W h y s (k + 1) = scX W h y s k := by
        refine if_neg (Int64.not_lt.mpr ?_)
        rcases lnE.mp w with ⟨g1, g2⟩ | ⟨g1, g2⟩
        · rw [ls_like I hh hk hy (by omega) hy g2]
          exact o3 _ (by omega)
        · rw [ls_like I hh hk hy hk (by omega) g2]
          exact Int64.le_trans o2 (pr _ (by omega) k hk)
      rw [e, nI_1]
      exact Ok_s ⟨u, rfl, ⟨a, b, ha, hb, Ru⟩, Fu, nu⟩
    · refine Ok_it rfl (Ok_b (Ca_placeHeap_e hh _ _) ?_)
      have Rv := Ru.plc Ju (h := h) (x := k) (y := y) hh
      rw [plc_plc] at Rv
      have Fv : Fp (c + 25) (c + 27) u (wI (wI u (c + 25) h (nI k)) (c + 26) h (nI y)) := (Fp.wI (by omega) (by omega) _ _).trans (Fp.wI (by omega) (by omega) _ _)
      generalize wI (wI u (c + 25) h (nI k)) (c + 26) h (nI y) = v at Rv Fv
      refine Ok_bind (Ic_lostIn_e (t := 262) (n := 1) Rv (I.plc hh hk hy) (by omega) (by omega)) (fun q ⟨q1, Fq⟩ => ?_)
      have Rq := Rv.fp (I.plc hh hk hy) Fq (by omega)
      have FF : BtF c m q.2 := (Fu.trans (Fv.Bt (by omega))).trans (Fq.Bt (by omega))
      have nq : Nt q.2 (scX W h y s k) := nu.e ((Fq 220 (by omega)).1.trans (Fv 220 (by omega)).1)
      rw [q1, nI_1, show lostL (plcW W h k y) (openL (plcW W h k y)) 1 = lsN W h k y from rfl]
      by_cases w2 : lsN W h k y < (scX W h y s k).1
      · have e : scX W h y s (k + 1) = (lsN W h k y, some (h, k, y)) := if_pos w2
        rw [e]
        unfold Tr_noteMove
        refine Ok_if (Int64.not_le.mpr w2) ?_
        show Ok (some (Sum.inl (lsN W h k y, nI (k + 1), wI (wI (wI q.2 220 2 (nI h)) 220 3 (nI k)) 220 4 (nI y)))) _
        have F3 : Fp 220 221 q.2 (wI (wI (wI q.2 220 2 (nI h)) 220 3 (nI k)) 220 4 (nI y)) := ((Fp.wI (by omega) (by omega) _ _).trans (Fp.wI (by omega) (by omega) _ _)).trans (Fp.wI (by omega) (by omega) _ _)
        refine Ok_s ⟨_, rfl, ⟨k, y, hk, hy, Rq.eq (I.plc hh hk hy) (fun z z1 z2 => (F3 z (by omega)).1)⟩, FF.trans (F3.Bt (by omega)), fun t qt => ?_⟩
        have : (h, k, y) = t := Option.some.inj qt
        rw [← this]
        refine ⟨?_, ?_, wI_self _ _ _ _⟩
        · rw [wI_at, if_neg (by decide), wI_at, if_neg (by decide), wI_self]
        · rw [wI_at, if_neg (by decide), wI_self]
      · have e : scX W h y s (k + 1) = scX W h y s k := if_neg w2
        rw [e]
        exact Ok_it (Int64.not_lt.mp w2) (Ok_s ⟨q.2, rfl, ⟨k, y, hk, hy, Rq⟩, FF, nq⟩)
  · show Ok (Tr_findBetter_l82 220 c v3 (nI h) v8 v9 1 (nI y) (scX W h y s (W 1)).1 (nI (W 1)) u) _
    unfold Tr_findBetter_l82
    rw [cf0 Ru, plc_o W (by omega), if_pos (nI_le (Nat.le_refl _) (by omega)), up_some, nI_1]
    exact Ok_s ⟨_, rfl, u, rfl, ⟨a, b, ha, hb, Ru⟩, Fu, nu⟩
theorem wI_same (m : Mem) (a i : Nat) : wI m a i (m.1 a i) = m := by
  unfold wI
  refine Prod.ext ?_ rfl
  funext b j
  show (if b = a ∧ j = i then m.1 a i else m.1 b j) = m.1 b j
  by_cases h : b = a ∧ j = i
  · rw [if_pos h, h.1, h.2]
  · rw [if_neg h]
theorem Tr_findBetter_e (R : CR m c W) (I : Inv W) (hc : c + 40 ≤ 262) (hc2 : 220 < c ∨ c + 40 < 220) : Ok (Tr_findBetter 220 c m) (fun r => r.1 = (if btB W = true then 1 else 0) ∧ CR r.2 c W ∧ BtF c m r.2 ∧ Nt r.2 (scH W 8)) := by
  have d := I.d
  unfold Tr_findBetter
  refine Ok_bind (Ic_lostIn_e (t := 262) (n := 1) R I (by omega) (by omega)) (fun r0 ⟨r1, F0⟩ => ?_)
  rw [r1]
  refine Ok_loop 8 (fun h x => ((scH W h).1, nI h, x)) (fun h x => CR x c W ∧ BtF c m x ∧ Nt x (scH W h)) r0.2 rfl ⟨R.fp I F0 (by omega), F0.Bt (by omega), fun t q => by cases q⟩ (fun h x hh ⟨Rx, F, n⟩ => ?_) (fun x ⟨Rx, F, n⟩ => ?_)
  · have ok := scH_ok W h (by omega)
    have tl := tons_le I hh
    show Ok (Tr_findBetter_l21 220 c (lostL W (openL W) 1) (scH W h).1 (nI h) x) _
    unfold Tr_findBetter_l21
    refine Ok_if (show ¬ (8 : Int32) ≤ nI h from nI_ge (b := 8) hh (by decide)) (Ok_gd (in_nI hh (by decide)) (Ok_gd (in_nI hh (by decide)) (Ok_b (Ca_tonsOf_e Rx I hh) ?_)))
    rw [ix_nI (by omega)]
    by_cases tz : tonsN W h = 0
    · have eS : scH W (h + 1) = scH W h := by
        show (if whe W h 0 = 1 then scY W h (scH W h) (W 2) else scH W h) = scH W h
        by_cases ht : whe W h 0 = 1
        · rw [if_pos ht, scY_t0 I ok hh ht tz (W 2) (Nat.le_refl _)]
        · rw [if_neg ht]
      have b157 : Tr_findBetter_b157 220 c (lostL W (openL W) 1) (scH W h).1 (nI h) (rI x (c + 25) h) (rI x (c + 26) h) x = some (Sum.inl ((scH W (h + 1)).1, nI (h + 1), x)) := by
        unfold Tr_findBetter_b157
        rw [Ca_placeHeap_e hh, bind_s, wI_same, wI_same, nI_1, eS]
      refine Ok_it (by rw [tz]; decide) ?_
      unfold Tr_findBetter_b60
      refine Ok_e (x := Sum.inl ((scH W (h + 1)).1, nI (h + 1), x)) (loop_out ?_) ⟨x, rfl, Rx, F, by rw [eS]; exact n⟩
      show Tr_findBetter_l65 220 c (lostL W (openL W) 1) (nI h) (rI x (c + 25) h) (rI x (c + 26) h) 0 (scH W h).1 0 x = _
      unfold Tr_findBetter_l65
      rw [b157, if_pos rfl, up_some]
      split <;> rfl
    · have ht : whe W h 0 = 1 := Classical.byContradiction (fun z => tz (tons_0 I hh z))
      have eS : scH W (h + 1) = scY W h (scH W h) (W 2) := if_pos ht
      have xy := I.xy hh
      refine Ok_if (nI_nle (by omega) (by omega)) ?_
      rw [show rI x (c + 25) h = nI (whe W h 1) by rw [show rI x (c + 25) h = hxI W h from Rx.hx hh]; exact if_pos ht, show rI x (c + 26) h = nI (whe W h 2) from Rx.hy hh]
      have pos := (I.H hh).2.1 ht
      unfold Tr_findBetter_b60
      refine Ok_loop (W 2) (fun y z => ((scY W h (scH W h) y).1, nI y, z)) (fun y z => (∃ a b, a < W 1 ∧ b < W 2 ∧ CR z c (plcW W h a b)) ∧ BtF c m z ∧ Nt z (scY W h (scH W h) y)) x rfl ⟨⟨whe W h 1, whe W h 2, pos.1, pos.2, by rw [plc_self W ht]; exact Rx⟩, F, n⟩ (fun y z hy ⟨Rz, Fz, nz⟩ => ?_) (fun z ⟨⟨a, b, ha, hb, Rz⟩, Fz, nz⟩ => ?_)
      · obtain ⟨o1, o2, o3⟩ := scY_ok ok hh ht y (by omega)
        obtain ⟨a, b, ha, hb, Rz2⟩ := id Rz
        show Ok (Tr_findBetter_l65 220 c (lostL W (openL W) 1) (nI h) (nI (whe W h 1)) (nI (whe W h 2)) 1 (scY W h (scH W h) y).1 (nI y) z) _
        unfold Tr_findBetter_l65
        rw [cf1 Rz2, plc_o W (by omega)]
        refine Ok_if (nI_ge hy (by omega)) (Ok_if (by decide) ?_)
        refine Ok_mono (fb_row I hc hc2 hh ht hy o1 o3 Rz nz _ _ _) (fun r ⟨u, e, Ru, Fu, nu⟩ => ⟨u, e, Ru, Fz.trans Fu, nu⟩)
      · show Ok (Tr_findBetter_l65 220 c (lostL W (openL W) 1) (nI h) (nI (whe W h 1)) (nI (whe W h 2)) 1 (scY W h (scH W h) (W 2)).1 (nI (W 2)) z) _
        unfold Tr_findBetter_l65 Tr_findBetter_b157
        have Rv := Rz.plc (I.plc hh ha hb) (h := h) (x := whe W h 1) (y := whe W h 2) hh
        rw [plc_plc, plc_self W ht] at Rv
        rw [cf1 Rz, plc_o W (by omega), if_pos (nI_le (Nat.le_refl _) (by omega)), Ca_placeHeap_e hh, bind_s, up_some, nI_1]
        have Fv : Fp (c + 25) (c + 27) z (wI (wI z (c + 25) h (nI (whe W h 1))) (c + 26) h (nI (whe W h 2))) := (Fp.wI (by omega) (by omega) _ _).trans (Fp.wI (by omega) (by omega) _ _)
        refine Ok_s ⟨_, rfl, _, by rw [eS], Rv, Fz.trans (Fv.Bt (by omega)), ?_⟩
        rw [eS]
        exact nz.e (Fv 220 (by omega)).1
  · have ok := scH_ok W 8 (by omega)
    show Ok (Tr_findBetter_l21 220 c (lostL W (openL W) 1) (scH W 8).1 (nI 8) x) _
    unfold Tr_findBetter_l21 btB
    refine Ok_it (show (8 : Int32) ≤ nI 8 by decide) ?_
    rcases ok with ⟨h, h1⟩ | ⟨a, p, q, h, -, -, -, -, h5⟩
    · rw [h, h1, if_pos (show lostL W (openL W) 1 ≤ nowL W from Int64.le_refl _), up_some]
      exact Ok_s ⟨_, rfl, rfl, Rx, F, n⟩
    · rw [h, if_neg (show ¬ lostL W (openL W) 1 ≤ (scH W 8).1 from Int64.not_le.mpr h5), up_some]
      exact Ok_s ⟨_, rfl, rfl, Rx, F, n⟩
/-- moves one behind the other -/
def itW (W : Wd) : Nat → Wd
  | 0 => W
  | k + 1 => nxW (itW W k)
theorem it_inv (I : Inv W) : ∀ k, Inv (itW W k)
  | 0 => I
  | k + 1 => nx_inv (it_inv I k)
theorem it_stop {k : Nat} (h : ¬ btB (itW W k) = true) : ∀ j, itW W (k + j) = itW W k
  | 0 => rfl
  | j + 1 => by
    show nxW (itW W (k + j)) = _
    rw [it_stop h j]
    unfold btB at h
    unfold nxW
    cases e : (scH (itW W k) 8).2 with
    | none => rfl
    | some t => rw [e] at h; exact absurd rfl h
def mvN (W : Wd) (n : Nat) : Nat := fsN (fun i => ¬ btB (itW W i) = true) (fun i => i) n n 0
theorem Tr_moveHeaps_e (R : CR m c W) (I : Inv W) (hc : c + 40 ≤ 262) (hc2 : 220 < c ∨ c + 40 < 220) {n : Nat} (hn : n ≤ 5) : Ok (Tr_moveHeaps 220 c (nI n) m) (fun r => r.1 = nI (mvN W n) ∧ CR r.2 c (itW W n) ∧ BtF c m r.2) := by
  unfold Tr_moveHeaps
  refine Ok_walk n (fun i x => (nI i, x)) (fun i x => CR x c (itW W i) ∧ BtF c m x ∧ mvN W n = fsN (fun i => ¬ btB (itW W i) = true) (fun i => i) n (n - i) i) (fun i x hi ⟨Rx, F, e⟩ => ?_) (fun x ⟨Rx, F, e⟩ => ?_) 0 m (by omega) ⟨R, BtF.refl, rfl⟩
  · have J := it_inv I i
    show Ok (Tr_moveHeaps_l2 220 c (nI n) (nI i) x) _
    unfold Tr_moveHeaps_l2
    refine Ok_if (nI_ge hi (by omega)) (Ok_bind (Tr_findBetter_e Rx J hc hc2) (fun r ⟨r1, R1, F1, n1⟩ => ?_))
    rw [r1]
    rw [show n - i = (n - (i + 1)) + 1 by omega] at e
    unfold fsN at e
    have ok := scH_ok (itW W i) 8 (by omega)
    by_cases q : btB (itW W i) = true
    · rw [if_neg (fun z => z q)] at e
      rw [if_pos q]
      refine Ok_if (by decide) ?_
      unfold btB at q
      rcases ok with ⟨h, -⟩ | ⟨a, p, y, h, h1, h2, h3, h4, -⟩
      · rw [h] at q; cases q
      · obtain ⟨t1, t2, t3⟩ := n1 _ h
        rw [show rI r.2 220 2 = nI a from t1, show rI r.2 220 3 = nI p from t2, show rI r.2 220 4 = nI y from t3]
        refine Ok_b (Ca_placeHeap_e h1 _ _) (Ok_s (Or.inl ⟨_, by rw [nI_1], ?_, (F.trans F1).trans ?_, e⟩))
        · have : itW W (i + 1) = plcW (itW W i) a p y := by
            show nxW (itW W i) = _
            unfold nxW
            rw [h]
          rw [this]
          exact R1.plc J h1
        · exact ((Fp.wI (lo := c + 25) (hi := c + 27) (by omega) (by omega) _ _).trans (Fp.wI (by omega) (by omega) _ _)).Bt (by omega)
    · rw [if_pos q] at e
      rw [if_neg q]
      refine Ok_it rfl ?_
      rw [up_some]
      refine Ok_s (Or.inr ⟨_, rfl, by rw [e], ?_, F.trans F1⟩)
      have := it_stop q (n - i)
      rw [show i + (n - i) = n by omega] at this
      rw [this]
      exact R1
  · show Ok (Tr_moveHeaps_l2 220 c (nI n) (nI n) x) _
    unfold Tr_moveHeaps_l2
    rw [if_pos (nI_le (Nat.le_refl _) (by omega)), up_some]
    rw [Nat.sub_self] at e
    exact Ok_s ⟨_, rfl, by rw [e]; rfl, Rx, F⟩
theorem Mo_bettersBy_e (hW : MW m W) (I : Inv W) {n : Nat} (hn : n ≤ 5) : Ok (Mo_bettersBy 298 (nI n) m) (fun r => r.1 = nI (mvN W n) ∧ MW r.2 (itW W n) ∧ FpB m r.2) := by
  unfold Mo_bettersBy
  refine Ok_walk n (fun i x => (nI i, x)) (fun i x => MW x (itW W i) ∧ FpB m x ∧ mvN W n = fsN (fun i => ¬ btB (itW W i) = true) (fun i => i) n (n - i) i) (fun i x hi ⟨V, F, e⟩ => ?_) (fun x ⟨V, F, e⟩ => ?_) 0 m (by omega) ⟨hW, FpB.refl, rfl⟩
  · have J := it_inv I i
    show Ok (Mo_bettersBy_l2 298 (nI n) (nI i) x) _
    unfold Mo_bettersBy_l2
    refine Ok_if (nI_ge hi (by omega)) (Ok_bind (Mo_isBettered_e V J) (fun r ⟨r1, V1, F1⟩ => ?_))
    rw [r1]
    rw [show n - i = (n - (i + 1)) + 1 by omega] at e
    unfold fsN at e
    by_cases q : btB (itW W i) = true
    · rw [if_neg (fun z => z q)] at e
      rw [if_pos q]
      exact Ok_if (by decide) (Ok_s (Or.inl ⟨r.2, by rw [nI_1], V1, F.trans F1, e⟩))
    · rw [if_pos q] at e
      rw [if_neg q]
      refine Ok_it rfl ?_
      rw [up_some]
      refine Ok_s (Or.inr ⟨_, rfl, by rw [e], ?_, F.trans F1⟩)
      have := it_stop q (n - i)
      rw [show i + (n - i) = n by omega] at this
      rw [this]
      have e1 := it_stop q 1
      rw [← e1]
      exact V1
  · show Ok (Mo_bettersBy_l2 298 (nI n) (nI n) x) _
    unfold Mo_bettersBy_l2
    rw [if_pos (nI_le (Nat.le_refl _) (by omega)), up_some]
    rw [Nat.sub_self] at e
    exact Ok_s ⟨_, rfl, by rw [e]; rfl, V, F⟩
theorem BtF.C {m' : Mem} (h : BtF 28 m m') : FpC m m' := fun a q => h a (by omega) (by omega) (by omega)
theorem BtF.C2 {m' : Mem} (h : BtF 221 m m') : FpC m m' := fun a q => h a (by omega) (by omega) (by omega)
def vBetters (W : Wd) (x : Int32) : Int32 := if 0 < W 1 then if inb x 6 then nI (mvN W (ix x)) else -2 else -2
def uBetters (x : Int32) (W : Wd) : Wd := if 0 < W 1 then if inb x 6 then itW W (ix x) else W else W
theorem st_betters (x : Int32) : Same (PL_betters 1 x) (Mo_betters 298 x) := by
  refine Same_w (fun W => vBetters W x) (uBetters x) (fun W I => ?_) (fun m W R I => ?_) (fun m W hW I => ?_)
  · unfold uBetters
    by_cases h : 0 < W 1
    · rw [if_pos h]
      by_cases h2 : inb x 6
      · rw [if_pos h2]; exact it_inv I _
      · rw [if_neg h2]; exact I
    · rw [if_neg h]; exact I
  · unfold PL_betters vBetters uBetters
    refine Ok_b (fl_there R I) ?_
    rw [ite_b2]
    by_cases h : 0 < W 1
    · simp only [if_pos h]
      rw [show (5 : Int32) = nI 5 from rfl, ite_rle (by decide)]
      by_cases h2 : inb x 6
      · obtain ⟨n, hn, rfl⟩ := in_of h2 (by decide)
        simp only [if_pos h2, ix_nI (show n < 2147483648 by omega)]
        exact Ok_bind (show Ok (Tr_moveHeaps (1 + 219) (1 + 27) (nI n) m) _ from Tr_moveHeaps_e (c := 28) R I (by omega) (by omega) (by omega)) (fun r ⟨r1, R1, F⟩ => Ok_s ⟨r1, R1, F.C⟩)
      · simp only [if_neg h2]
        exact Ok_s ⟨rfl, R, FpC.refl⟩
    · simp only [if_neg h]
      exact Ok_s ⟨rfl, R, FpC.refl⟩
  · have d := I.d
    unfold Mo_betters vBetters uBetters
    refine Ok_b (Mo_isFloe_e hW (by omega)) ?_
    rw [ite_b2]
    by_cases h : 0 < W 1
    · simp only [if_pos h]
      refine Ok_b (in0 m x (n := 6) (by decide) (by decide)) ?_
      rw [ite_b2]
      by_cases h2 : inb x 6
      · obtain ⟨n, hn, rfl⟩ := in_of h2 (by decide)
        simp only [if_pos h2, ix_nI (show n < 2147483648 by omega)]
        exact Ok_bind (Mo_bettersBy_e hW I (by omega)) (fun r ⟨r1, V, F⟩ => Ok_s ⟨r1, V, F.M⟩)
      · simp only [if_neg h2]
        exact Ok_s ⟨rfl, hW, FpM.refl⟩
    · simp only [if_neg h]
      exact Ok_s ⟨rfl, hW, FpM.refl⟩
theorem nx_E (W : Wd) : ∀ i, i < 116 ∨ 188 ≤ i → nxW W i = W i := by
  intro i hi
  have ok := scH_ok W 8 (by omega)
  unfold nxW
  rcases ok with ⟨h, -⟩ | ⟨a, p, q, h, h1, -⟩
  · rw [h]
  · rw [h]
    exact plc_o W (by show i < 116 + 9 * a ∨ 116 + 9 * a + 3 ≤ i; omega)
theorem it_E (W : Wd) : ∀ k i, i < 116 ∨ 188 ≤ i → itW W k i = W i
  | 0, _, _ => rfl
  | k + 1, i, hi => (nx_E (itW W k) i hi).trans (it_E W k i hi)
def vGap (W : Wd) : Int64 := if 0 < W 1 then nowL W - nowL (itW W 5) else -2
theorem st_gap : Same (PL_gap 1) (Mo_gap 298) := by
  refine Same_w vGap (fun W => W) (fun W I => I) (fun m W R I => ?_) (fun m W hW I => ?_)
  · unfold PL_gap vGap
    refine Ok_b (fl_there R I) ?_
    rw [ite_b2]
    by_cases h : 0 < W 1
    · simp only [if_pos h]
      refine Ok_bind (show Ok (Ca_copyFrom (1 + 220) (1 + 27) m) _ from Ca_copyFrom_e (c := 221) (d := 28) (by omega) (by decide +kernel) R I) (fun m1 ⟨R1, F1⟩ => ?_)
      refine Ok_bind (show Ok (Tr_moveHeaps (1 + 219) (1 + 220) 5 m1) _ from Tr_moveHeaps_e (c := 221) (n := 5) R1 I (by omega) (by omega) (by omega)) (fun r2 ⟨_, R2, F2⟩ => ?_)
      have Ra : CR r2.2 28 W := (R.fp I F1 (by omega)).eq I (fun a h1 h2 => (F2 a (by omega) (by omega) (by omega)).1)
      refine Ok_bind (show Ok (Ic_lostIn (1 + 202) (1 + 27) 1 r2.2) _ from Ic_lostIn_e (t := 203) (c := 28) (n := 1) Ra I (by omega) (by omega)) (fun r3 ⟨r31, F3⟩ => ?_)
      refine Ok_bind (show Ok (Ic_lostIn (1 + 202) (1 + 220) 1 r3.2) _ from Ic_lostIn_e (t := 203) (c := 221) (n := 1) (R2.fp (it_inv I 5) F3 (by omega)) (it_inv I 5) (by omega) (by omega)) (fun r4 ⟨r41, F4⟩ => ?_)
      refine Ok_s ⟨by show r3.1 - r4.1 = _; rw [r31, r41]; rfl, (Ra.fp I F3 (by omega)).fp I F4 (by omega), ?_⟩
      exact ((F1.C (by omega)).trans F2.C2).trans ((F3.C (by omega)).trans (F4.C (by omega)))
    · simp only [if_neg h]
      exact Ok_s ⟨rfl, R, FpC.refl⟩
  · have d := I.d
    unfold Mo_gap vGap
    refine Ok_b (Mo_isFloe_e hW (by omega)) ?_
    rw [ite_b2]
    by_cases h : 0 < W 1
    · simp only [if_pos h]
      refine Ok_bind (Mo_lostIn_e (n := 1) hW I (by omega)) (fun r1 ⟨r11, F1⟩ => ?_)
      have V1 := hW.fp F1 (by omega)
      refine Ok_bind (Mo_keepsHeaps_e V1) (fun m2 ⟨k2, F2⟩ => ?_)
      refine Ok_bind (show Ok (Mo_bettersBy 298 5 m2) _ from Mo_bettersBy_e (n := 5) (V1.fp F2 (by omega)) I (by omega)) (fun r3 ⟨_, V3, F3⟩ => ?_)
      refine Ok_bind (Mo_lostIn_e (n := 1) V3 (it_inv I 5) (by omega)) (fun r4 ⟨r41, F4⟩ => ?_)
      refine Ok_bind (Mo_givesBack_e (W := W) (V3.fp F4 (by omega)) (fun k hk => by rw [F4.a (by omega), (F3 307 (by omega) (by omega) (by omega)).1, k2 k hk]) (it_E W 5)) (fun m5 ⟨V5, F5⟩ => ?_)
      refine Ok_s ⟨by show r1.1 - r4.1 = _; rw [r11, r41]; rfl, V5, ?_⟩
      exact (((F1.M (by omega)).trans (F2.M (by omega))).trans (F3.M.trans (F4.M (by omega)))).trans (F5.M (by omega))
    · simp only [if_neg h]
      exact Ok_s ⟨rfl, hW, FpM.refl⟩
end BETTER
