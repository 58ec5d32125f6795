/-! the start: classes, strings, statics, the script, at addresses of their own -/
section STARTS
variable {s : State} {b : Nat}
theorem eq_refR {args : Array Value} {t u : Term} {a : Nat} (h : (Cond.eq t u).before args s = true) (ht : t.eval args s none [] s = some (.ref a)) : u.eval args s none [] s = some (.ref a) := by
  cases hu : u.eval args s none [] s with
  | none => simp [Cond.before, Cond.holds, Cond.value, ht, hu] at h
  | some w =>
    simp only [Cond.before, Cond.holds, Cond.value, ht, hu] at h
    cases w <;> simp_all
/-- the strings -/
theorem strs_of {args : Array Value} {A : Nat → Prop} (hn : ∀ w ∈ nwL, w.before args s = true) (hA : ∀ a : Nat, a < s.heap.size → ¬ A a) :
    ∃ adK adV : Nat → Nat, vk_S nS lenS bytS adK adV A s s.heap ∧ ∀ i, i < 32 → (tmR i).eval args s none [] s = some (.ref (adK i)) ∧ (tmM i).eval args s none [] s = some (.ref (adK i)) := by
  have at' : ∀ {k : Nat} {w : Cond}, nwL[k]? = some w → w.before args s = true := fun h => hn _ (List.mem_of_getElem? h)
  have h0 : ∀ i : Nat, ∃ q : Nat × Nat, i < 32 → (tmR i).eval args s none [] s = some (.ref q.1) ∧ va_O "java/lang/String" q.1 A s s.heap ∧ va_OF "java/lang/String" "coder" "B" (.int 0) q.1 A s s.heap ∧ va_OF "java/lang/String" "value" "[B" (.ref q.2) q.1 A s s.heap ∧ va_T .byte q.2 (lenS.getD i 0) (fun j => .int ((bytS.getD i []).getD j 0)) A s s.heap := by
    intro i
    by_cases hi : i < 32
    · obtain ⟨a, c, cA, kA, q1, q2, q3, q4, q5, q6, -⟩ := Cond.exactly_spec (args := args) (first := s) (o := none) (s := s) (idx := []) (t := tmR i) (cls := "java/lang/String") (at' (nw_ex i hi))
      have hl := nw_len i hi
      obtain ⟨t, ht, hT⟩ := va_Tof (f := fun j => .int ((bytS.getD i []).getD j 0)) (A := A) (show lenS.getD i 0 < 2 ^ 31 by omega) (at' (nw_ar i hi)) (va_eqt (at' (nw_le i hi))) (fun j hj => va_eqt (at' (nw_el i hi j hj))) hA
      exact ⟨(a, t), fun _ => ⟨q1, ⟨cA, q3, q5, by rw [q6]; exact q2, hA a (Array.getElem?_eq_some_iff.mp q3).1⟩, vk_OFof q1 (va_eqt (at' (nw_co i hi))) hA, vk_OFof q1 ht hA, hT⟩⟩
    · exact ⟨(0, 0), fun h => absurd h hi⟩
  obtain ⟨ad, had⟩ := Classical.axiomOfChoice h0
  refine ⟨fun i => (ad i).1, fun i => (ad i).2, ⟨fun i hi => (had i hi).2, fun i j hi hj e => ?_⟩, fun i hi => ⟨(had i hi).1, eq_refR (at' (nw_eq i hi)) (had i hi).1⟩⟩
  have hi : i < 32 := hi
  have hj : j < 32 := hj
  have e : (ad i).1 = (ad j).1 := e
  obtain ⟨-, -, -, ⟨c1, k1, i1, f1, d1, a1, a2, a3, a4, a5, -⟩, cell1, g1, g2, g3, g4, g5, g6, -⟩ := had i hi
  obtain ⟨-, -, -, ⟨c2, k2, i2, f2, d2, b1, b2, b3, b4, b5, -⟩, cell2, h1, h2, h3, h4, h5, h6, -⟩ := had j hj
  have ef := a1.symm.trans b1
  simp only [Option.some.injEq, Prod.mk.injEq] at ef
  obtain ⟨-, -, -, rfl⟩ := ef
  rw [e] at a3
  cases a3.symm.trans b3
  have ev : (ad i).2 = (ad j).2 := by
    have := a5.symm.trans b5
    simpa using this
  rw [ev] at g1
  cases g1.symm.trans h1
  have hl1 := nw_len i hi
  have hl2 := nw_len j hj
  have el : lenS.getD i 0 = lenS.getD j 0 := (nI_eq (by omega) (by omega)).mp (g5.symm.trans h5)
  refine nw_ne i hi j hj el (fun k hk => ?_)
  have := (g6 k hk).symm.trans (h6 k (by omega))
  simpa using this
/-- the arrays' classes -/
theorem arr_of {args : Array Value} {ty : FieldType} (h : (Cond.arrayClass ty).before args s = true) (hno : ∀ C, ty ≠ .object C) : ∃ c : ClassId, ArrOfT s c ty ∧ va_RA s c ty ∧ s.vm.findClass ("[" ++ ty.toString) = some c := by
  obtain ⟨c, k, comp, h1, h2, h3⟩ := Cond.arrayClass_spec h
  refine ⟨c, fun n z => ⟨fun k h => (by cases h), k, h2, comp, h3⟩, ?_, h1⟩
  cases ty with
  | object C => exact absurd rfl (hno C)
  | _ => exact h1
theorem arr2_of {args : Array Value} {ty : FieldType} {c0 : ClassId} (h : (Cond.arrayOver (.array ty)).before args s = true) (h0 : s.vm.findClass ("[" ++ ty.toString) = some c0) : ∃ c : ClassId, ArrOfT s c (.array ty) ∧ va_RA s c (.array ty) ∧ ∃ kA : Class, s.vm.classes[c]? = some kA ∧ kA.kind = .array c0 (.array ty) := by
  obtain ⟨comp, c, k, h1, h2, h3, h4, h5⟩ := arrayOverA_spec h
  have e : comp = c0 := Option.some.inj (h1.symm.trans h0)
  subst e
  exact ⟨c, fun n z => ⟨fun k h => (by cases h), k, h3, comp, h4⟩, h5, k, h3, h4⟩
theorem arrq_of {C : String} (h : va_AO C s) : ∃ c : ClassId, ArrOfT s c (.object C) ∧ va_RA s c (.object C) := by
  obtain ⟨comp, c, k, h1, h2, h3, h4, h5⟩ := Cond.arrayOver_spec h
  exact ⟨c, fun n z => ⟨fun k h => (by cases h), k, h3, comp, h4⟩, k, comp, h3, h4, h1, h5⟩
theorem cls_of {args : Array Value} (hts : ∀ w ∈ lw_tbl, w.before args s = true) : ∃ (dC : Nat → ClassId) (dI : Nat → Nat → Nat), ∀ (c : Nat) (q : vw_C), classes[c]? = some q → u_Kn s q.1 q.2.1 q.2.2 (dC c) (dI c) := by
  have kn : ∀ {c : Nat} {q : vw_C} {n : Nat}, CF c q → Cond.instantiable q.1 n ∈ AW → ∃ p : ClassId × (Nat → Nat), ∀ q', classes[c]? = some q' → u_Kn s q'.1 q'.2.1 q'.2.2 p.1 p.2 := by
    intro c q n hc hi
    obtain ⟨cC, iS, h⟩ := u_known hts (fun w hw => (AW_ok (hc.2.2.2.1 w hw)).1) (hts _ (AW_ok hi).1)
    refine ⟨(cC, iS), fun q' hq' => ?_⟩
    cases hc.1.symm.trans hq'
    exact h
  have h : ∀ c : Nat, ∃ p : ClassId × (Nat → Nat), ∀ q, classes[c]? = some q → u_Kn s q.1 q.2.1 q.2.2 p.1 p.2 := by
    intro c
    match c with
    | 0 => exact kn cf_0 ist_0
    | 1 => exact kn cf_1 ist_1
    | 2 => exact kn cf_2 ist_2
    | 3 => exact kn cf_3 ist_3
    | 4 => exact kn cf_4 ist_4
    | 5 => exact kn cf_5 ist_5
    | 6 => exact kn cf_6 ist_6
    | 7 => exact kn cf_7 ist_7
    | 8 => exact kn cf_8 ist_8
    | 9 => exact kn cf_9 ist_9
    | 10 => exact kn cf_10 ist_10
    | 11 => exact kn cf_11 ist_11
    | c + 12 => exact ⟨(0, fun _ => 0), fun q hq => by simp [classes] at hq⟩
  obtain ⟨f, hf⟩ := Classical.axiomOfChoice h
  exact ⟨fun c => (f c).1, fun c => (f c).2, fun c q hq => hf c q hq⟩
def adr (B : Nat) (adK adV : Nat → Nat) (b t : Nat) (k : Nat) : Nat := if k < 400 then B + k else if k < 2000 then adK (k - 1000) else if k < 3000 then adV (k - 2000) else if k = 3000 then b else t
theorem start_g {L : Nat} {xs : Nat → Int32} (l : Launch) (hts : ∀ w ∈ lw_tbl, w.before #[Value.ref b] s = true) (hX : va_X b L xs s s.heap) (hbl : b < s.heap.size) (hgv : (Jvm.Cond.and given_1 narrow_1).before #[Value.ref b] s = true) :
    ∃ g : GE, g.1 = l ∧ GB g ∧ g.2.2.2.1 1 = s.heap.size ∧ g.2.2.2.1 3000 = b ∧ g.2.2.2.2.1 = L ∧ SE g s s.heap ∧ KE g s := by
  have hn : ∀ w ∈ nwL, w.before #[Value.ref b] s = true := flat_of_before _ hgv
  have hA : ∀ a : Nat, a < s.heap.size → ¬ (fun q => s.heap.size ≤ q) a := fun a ha => Nat.not_le.mpr ha
  obtain ⟨adK, adV, hS, hE⟩ := strs_of (A := fun q => s.heap.size ≤ q) hn hA
  obtain ⟨dC, dI, hC⟩ := cls_of hts
  obtain ⟨t0, x0, y0, f0⟩ := arr_of (hts _ (AW_ok acl_int).1) (fun C h => by cases h)
  obtain ⟨t1, x1, y1, f1⟩ := arr_of (hts _ (AW_ok acl_long).1) (fun C h => by cases h)
  obtain ⟨t2, x2, y2, -⟩ := arr_of (hts _ (AW_ok acl_byte).1) (fun C h => by cases h)
  obtain ⟨t3, x3, y3, -⟩ := arr_of (hts _ (AW_ok acl_boolean).1) (fun C h => by cases h)
  obtain ⟨t4, x4, y4, k4⟩ := arr2_of (hts _ ov_aoi) f0
  obtain ⟨t5, x5, y5, k5⟩ := arr2_of (hts _ ov_aol) f1
  have o6 : va_AO RX0 s := va_AO.of (hts _ ov_aoc)
  have o7 : va_AO RX6 s := va_AO.of (hts _ ov_aor)
  obtain ⟨t6, x6, y6⟩ := arrq_of o6
  obtain ⟨t7, x7, y7⟩ := arrq_of o7
  have hcs := va_Zof (A := fun q => s.heap.size ≤ q) (hts _ lay_cs) (hts _ ini_cs) (va_eqi (hn _ (List.mem_of_getElem? nw_cs))) hA
  have hfm := va_Zqof (A := fun q => s.heap.size ≤ q) (hts _ lay_fm) (hts _ ini_fm) (hn _ (List.mem_of_getElem? nw_fm)) hA
  obtain ⟨t, v, hv, hfm⟩ : ∃ t v : Nat, (v = 0 ∨ v = 3001) ∧ va_Z "jdk/internal/util/Preconditions" "SIOOBE_FORMATTER" "Ljava/util/function/BiFunction;" (if v = 0 then .null else .ref t) (fun q => s.heap.size ≤ q) s s.heap := by
    rcases hfm with h | ⟨t, h⟩
    · exact ⟨0, 0, Or.inl rfl, h⟩
    · exact ⟨t, 3001, Or.inr rfl, h⟩
  have hpos : 0 < s.heap.size := by omega
  let g : GE := (l, (dC, dI), fun k => [t0, t1, t2, t3, t4, t5, t6, t7].getD k 0, adr (s.heap.size - 1) adK adV b t, L, xs)
  have ek : ∀ k, k < 400 → g.2.2.2.1 k = s.heap.size - 1 + k := fun k hk => if_pos hk
  have eK : ∀ i, i < 1000 → g.2.2.2.1 (1000 + i) = adK i := fun i hi => by
    show adr _ _ _ _ _ (1000 + i) = _
    unfold adr
    rw [if_neg (by omega), if_pos (by omega), Nat.add_sub_cancel_left]
  have eV : ∀ i, i < 1000 → g.2.2.2.1 (2000 + i) = adV i := fun i hi => by
    show adr _ _ _ _ _ (2000 + i) = _
    unfold adr
    rw [if_neg (by omega), if_neg (by omega), if_pos (by omega), Nat.add_sub_cancel_left]
  have eb : g.2.2.2.1 3000 = b := rfl
  have et : g.2.2.2.1 3001 = t := rfl
  have hAA : ∀ q, AA g q → s.heap.size ≤ q := by
    rintro q ⟨k, h1, h2, rfl⟩
    have h2 : k ≤ 317 := h2
    rw [ek k (by omega)]
    omega
  have hK : va_K g.2.1 classes (tysG g) s := by
    refine ⟨hC, fun k q hk => ?_⟩
    match k, hk with
    | 0, hk => cases hk; exact ⟨x0, y0⟩
    | 1, hk => cases hk; exact ⟨x1, y1⟩
    | 2, hk => cases hk; exact ⟨x2, y2⟩
    | 3, hk => cases hk; exact ⟨x3, y3⟩
    | 4, hk => cases hk; exact ⟨x4, y4⟩
    | 5, hk => cases hk; exact ⟨x5, y5⟩
    | 6, hk => cases hk; exact ⟨x6, y6⟩
    | 7, hk => cases hk; exact ⟨x7, y7⟩
    | k + 8, hk => simp [tysG] at hk
  have hN : ∀ q ∈ nestL, va_Nw (.methodLinkNest q.1 q.2.1 q.2.2.1 q.2.2.2) s := fun q hq => va_Nw.of rfl (hts _ (nest_in q hq))
  refine ⟨g, rfl, ⟨s.heap.size - 1, ek⟩, by rw [ek 1 (by decide)]; omega, eb, rfl, ⟨hK, hN, fun q hq => ?_, ⟨?_, hcs.narrow hAA, v, ?_⟩, ?_⟩, hK, hN, ⟨o6, o7⟩, k4, k5⟩
  · obtain ⟨hi, hq2⟩ := str_ix q hq
    rw [eK _ (by omega)]
    refine vk_R.of (hts _ (str_in q hq)) ?_
    rcases hq2 with ⟨e1, e2⟩ | ⟨e1, e2⟩
    · rw [e1, e2]
      exact (hE _ hi).1
    · rw [e1, e2]
      exact (hE _ hi).2
  · refine ⟨fun i hi => ?_, fun i j hi hj e => ?_⟩
    · have hi32 : i < 32 := hi
      obtain ⟨p1, p2, p3, p4⟩ := (vk_S.narrow hS hAA).1 i hi
      refine ⟨?_, ?_, ?_, ?_⟩
      · show va_O _ (g.2.2.2.1 (1000 + i)) _ _ _
        rw [eK i (by omega)]; exact p1
      · show va_OF _ _ _ _ (g.2.2.2.1 (1000 + i)) _ _ _
        rw [eK i (by omega)]; exact p2
      · show va_OF _ _ _ (.ref (g.2.2.2.1 (2000 + i))) (g.2.2.2.1 (1000 + i)) _ _ _
        rw [eK i (by omega), eV i (by omega)]; exact p3
      · show va_T _ (g.2.2.2.1 (2000 + i)) _ _ _ _ _
        rw [eV i (by omega)]; exact p4
    · have hi32 : i < 32 := hi
      have hj32 : j < 32 := hj
      have e : g.2.2.2.1 (1000 + i) = g.2.2.2.1 (1000 + j) := e
      rw [eK i (by omega), eK j (by omega)] at e
      exact hS.2 i j hi hj e
  · have h := hfm.narrow hAA
    rcases hv with rfl | rfl
    · exact h
    · exact h
  · obtain ⟨scr, h1, h2, h3, h4, h5⟩ := hX
    exact ⟨scr, h1, h2, h3, Nat.le_of_eq h4.symm, by rw [h4], h5, fun q => absurd (hAA b q) (Nat.not_le.mpr hbl)⟩
end STARTS
