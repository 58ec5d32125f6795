/-! a row of rows is made (multianewarray of two lengths): one cell, then the inner ones, each stored as it is made -/
section MULTI
def mrow (c : ClassId) (N h i : Nat) : Cell := arrV c N (fun j => if j < i then Value.ref (h + 1 + j) else .null)
def msta (S : State) (c k : ClassId) (N M : Nat) (v : Value) : Nat → State
  | 0 => S.pushCell (mrow c N S.heap.size 0)
  | i + 1 => ((msta S c k N M v i).pushCell (arrV k M (fun _ => v))).setCell S.heap.size (mrow c N S.heap.size (i + 1))
theorem arrV_ext_lt {c : ClassId} {N : Nat} {f g : Nat → Value} (h : ∀ j, j < N → f j = g j) : arrV c N f = arrV c N g := by
  unfold arrV
  congr 1
  apply Array.ext
  · simp
  · intro i h1 h2
    simp only [Array.getElem_ofFn]
    exact h i (by simpa using h1)
theorem mrow_0 (c : ClassId) (N h : Nat) : ({ cls := c, slots := Array.replicate N .null, vm := .none } : Cell) = mrow c N h 0 := by
  rw [arrV_new]
  unfold mrow
  congr 1
theorem mrow_s (c : ClassId) (N h i : Nat) : (mrow c N h i).setSlot i (.ref (h + 1 + i)) = mrow c N h (i + 1) := by
  unfold mrow
  rw [arrV_store]
  congr 1
  funext j
  by_cases e : j = i
  · subst e
    simp [updV]
  · have e2 : (j < i + 1) = (j < i) := propext ⟨fun h => by omega, fun h => by omega⟩
    simp [updV, e, e2]
theorem mrow_z (c : ClassId) (N h i : Nat) : (mrow c N h i).slots.size = N := arrV_size _ _ _
theorem msta_f (S : State) (c k : ClassId) (N M : Nat) (v : Value) : ∀ i, (msta S c k N M v i).heap.size = S.heap.size + 1 + i ∧ (msta S c k N M v i).heap[S.heap.size]? = some (mrow c N S.heap.size i) ∧ (msta S c k N M v i).vm = S.vm ∧ (msta S c k N M v i).slotsUsed = S.slotsUsed + N + i * M ∧
    (∀ a : Nat, a < S.heap.size → (msta S c k N M v i).heap[a]? = S.heap[a]?) ∧ ∀ j, j < i → (msta S c k N M v i).heap[S.heap.size + 1 + j]? = some (arrV k M (fun _ => v))
  | 0 => ⟨by simp [msta], by simp [msta], rfl, by simp [msta, mrow_z], fun a ha => State.heap_pushCell_of_lt _ _ ha, fun j hj => absurd hj (Nat.not_lt_zero _)⟩
  | i + 1 => by
    obtain ⟨f1, f2, f3, f4, f5, f6⟩ := msta_f S c k N M v i
    have lt : S.heap.size < (msta S c k N M v i).heap.size := by omega
    have hb : ((msta S c k N M v i).pushCell (arrV k M (fun _ => v))).heap[S.heap.size]? = some (mrow c N S.heap.size i) := by
      rw [State.heap_pushCell_of_lt (h := lt)]
      exact f2
    refine ⟨?_, State.heap_setCell_self hb, by simp [msta, f3], ?_, fun a ha => ?_, fun j hj => ?_⟩
    · simp [msta, State.setCell, f1]
      omega
    · simp [msta, f4, arrV_size, Nat.succ_mul]
      omega
    · show (((msta S c k N M v i).pushCell (arrV k M (fun _ => v))).setCell S.heap.size _).heap[a]? = _
      rw [State.heap_setCell_other (Nat.ne_of_gt ha), State.heap_pushCell_of_lt (h := Nat.lt_of_lt_of_le ha (by rw [f1]; omega))]
      exact f5 a ha
    · show (((msta S c k N M v i).pushCell (arrV k M (fun _ => v))).setCell S.heap.size _).heap[S.heap.size + 1 + j]? = _
      rw [State.heap_setCell_other (show S.heap.size ≠ S.heap.size + 1 + j by omega)]
      by_cases e : j = i
      · subst e
        rw [← f1]
        exact State.heap_pushCell_size _ _
      · have lt2 : S.heap.size + 1 + j < (msta S c k N M v i).heap.size := by omega
        rw [State.heap_pushCell_of_lt (h := lt2)]
        exact f6 j (by omega)
theorem msta_t (S : State) (f : JFrame) (c k : ClassId) (N M : Nat) (v : Value) : ∀ i, msta (S.setTop f) c k N M v i = (msta S c k N M v i).setTop f
  | 0 => rfl
  | i + 1 => by simp only [msta, msta_t S f c k N M v i, State.heap_setTop, State.pushCell_setTop, State.setCell_setTop]
theorem msta_X {p : Program} {l : Launch} {e : Env} {R : Room} {s : State} {m : MethodId} {args : Array Value} {below : List Frame} {meth : Method} {c : Code} {T : State} {locs : List Loc} {cells slots : Nat} (X : Stand p l e R s m args below meth c T locs cells slots) (cA k : ClassId) (N M : Nat) (v : Value) :
    ∀ i, Stand p l e R s m args below meth c (msta T cA k N M v i) (locs ++ (List.range i).map fun j => ⟨T.heap.size, j⟩) (cells + 1 + i) (slots + N + i * M)
  | 0 => by
    have h := X.pushed (mrow cA N T.heap.size 0)
    rw [mrow_z] at h
    simpa [msta] using h
  | i + 1 => by
    have Xi := msta_X X cA k N M v i
    obtain ⟨f1, f2, -, -, -, -⟩ := msta_f T cA k N M v i
    have lt : T.heap.size < (msta T cA k N M v i).heap.size := by omega
    have hb : ((msta T cA k N M v i).pushCell (arrV k M (fun _ => v))).heap[T.heap.size]? = some (mrow cA N T.heap.size i) := by
      rw [State.heap_pushCell_of_lt (h := lt)]
      exact f2
    have h := (Xi.pushed (arrV k M (fun _ => v))).stored hb i (.ref (T.heap.size + 1 + i))
    rw [mrow_s, arrV_size] at h
    have e1 : (locs ++ (List.range (i + 1)).map fun j => (⟨T.heap.size, j⟩ : Loc)) = (locs ++ (List.range i).map fun j => (⟨T.heap.size, j⟩ : Loc)) ++ [⟨T.heap.size, i⟩] := by simp [List.range_succ, List.append_assoc]
    have e2 : slots + N + (i + 1) * M = slots + N + i * M + M := by
      rw [Nat.succ_mul]
      omega
    rw [e1, e2]
    exact h
section WPM
variable {E : CtlPost} {e : Env} {d : Bool} {acts : List Action} {s : State}
theorem wpm_row {c comp : ClassId} {k : Class} {ty : FieldType} {len : Nat} {v : Value} (hk : s.vm.classes[c]? = some k) (hkind : k.kind = .array comp ty) (h1 : ¬ len > e.platform.arrayLengthLimit) (h2 : ¬ len * componentBytes ty > e.platform.maxHeapBytes) (hfit : fits ty v = true) (hdef : v.isDefault = true)
    {Q : Addr → Pre} (h3 : s.heap.size < e.platform.maxCells) (h4 : s.slotsUsed + len ≤ e.platform.maxSlots) (hq : Q s.heap.size d acts (s.pushCell (arrV c len (fun _ => v)))) : wp (Jvm.newArray c len v) Q E e d acts s := by
  have all : (Array.replicate len v).all (·.isDefault) = true := by
    rw [Array.all_replicate]
    split <;> simp [hdef]
  have fit : ∀ i w, (Array.replicate len v)[i]? = some w → s.fitsSlot c .none i w = true := by
    intro i w hw
    rw [Array.getElem?_replicate] at hw
    split at hw
    · cases hw
      simp [State.fitsSlot, State.slotType?, hk, hkind, hfit]
    · cases hw
  have act : allocActs (Array.replicate len v) s.heap.size acts = acts := by
    unfold allocActs
    rw [if_pos all]
  rw [← arrV_new] at hq
  simp only [Jvm.newArray, Jvm.arrayFits, wp_bind', W.ask, W.ite, h1, if_false, wp_pure', W.theClass, hk, hkind, h2, W.alloc, W.stop, Option.some.injEq, exists_eq_left', Array.size_replicate, act]
  rw [if_neg (by omega)]
  exact ⟨h3, h4, fit, hq⟩
theorem wpm_make {c comp cc : ClassId} {k kc : Class} {ty : FieldType} {n r : Int32} {N M : Nat} (hn : n.toNatClampNeg = N) (hr : r.toNatClampNeg = M) (hk : s.vm.classes[c]? = some k) (hkind : k.kind = .array comp (.array ty)) (hkc : s.vm.classes[comp]? = some kc) (hkindc : kc.kind = .array cc ty) (n0 : ¬ n < 0) (r0 : ¬ r < 0)
    (a1 : ¬ N > e.platform.arrayLengthLimit) (a2 : ¬ N * componentBytes (.array ty) > e.platform.maxHeapBytes) (a3 : ¬ M > e.platform.arrayLengthLimit) (a4 : ¬ M * componentBytes ty > e.platform.maxHeapBytes) (hdf : fits ty (defaultValue ty) = true) (hdd : (defaultValue ty).isDefault = true)
    (hc : s.heap.size + 1 + N ≤ e.platform.maxCells) (hs : s.slotsUsed + N + N * M ≤ e.platform.maxSlots) {Q : Addr → Pre} (hq : ∀ d' acts', Q s.heap.size d' acts' (msta s c comp N M (defaultValue ty) N)) : wp (multianewarray.make c [n, r]) Q E e d acts s := by
  have hfind : ([r].find? (· < 0)) = none := by simp [r0]
  rw [multianewarray.make]
  simp only [wp_bind', W.ite, n0, if_false, wp_pure', W.theClass, hk, hkind, Option.some.injEq, exists_eq_left', hn]
  refine wpm_row hk hkind a1 a2 rfl rfl (by omega) (by have := Nat.zero_le (N * M); omega) ?_
  rw [show arrV c N (fun _ => Value.null) = mrow c N s.heap.size 0 by rw [← arrV_new]; exact mrow_0 c N _]
  simp only [hfind]
  rw [ite_self, wp_bind', Std.Legacy.Range.forIn_eq_forIn_range', show ([:N] : Std.Legacy.Range).size = N by simp [Std.Legacy.Range.size]]
  show wp (forIn (List.range' 0 N 1) PUnit.unit _) _ E e d acts _
  refine wp_forIn_inv (fun rest s' => ∃ i, i ≤ N ∧ rest = List.range' i (N - i) ∧ s' = msta s c comp N M (defaultValue ty) i) _ _ ⟨0, Nat.zero_le _, rfl, rfl⟩ ?_ ?_
  · rintro x rest s' d' acts' Q' ⟨i, hi, hl, rfl⟩ next
    have lt : i < N := by
      rcases Nat.lt_or_ge i N with h | h
      · exact h
      · rw [show N - i = 0 by omega] at hl
        cases hl
    rw [show N - i = (N - (i + 1)) + 1 by omega, List.range'_succ] at hl
    obtain ⟨hx, hrest⟩ := List.cons.inj hl
    subst hx
    obtain ⟨f1, f2, f3, f4, -, -⟩ := msta_f s c comp N M (defaultValue ty) x
    have hm : x * M + M ≤ N * M := by
      have := Nat.mul_le_mul_right M (show x + 1 ≤ N from lt)
      rw [Nat.succ_mul] at this
      exact this
    have lt0 : s.heap.size < (msta s c comp N M (defaultValue ty) x).heap.size := by omega
    simp only [wp_bind']
    rw [multianewarray.make]
    simp only [wp_bind', W.ite, r0, if_false, wp_pure', W.theClass, f3, hkc, hkindc, Option.some.injEq, exists_eq_left', hr]
    refine wpm_row (by rw [f3]; exact hkc) hkindc a3 a4 hdf hdd (by omega) (by omega) ?_
    simp only [wp_bind', W.writeLoc, wp_pure']
    refine ⟨mrow c N s.heap.size x, by rw [State.heap_pushCell_of_lt (h := lt0)]; exact f2, by simp [mrow, arrV], by rw [mrow_z]; exact lt, ?_, next _ _ _ ⟨x + 1, lt, hrest, ?_⟩⟩
    · have hfit : ∀ a : Addr, fits (.array ty) (.ref a) = true := fun _ => rfl
      simp [State.fitsSlot, State.slotType?, mrow, arrV, f3, hk, hkind, hfit]
    · rw [f1, mrow_s]
      rfl
  · rintro s' d' acts' ⟨i, hi, hl, rfl⟩
    have e : i = N := by
      rcases Nat.lt_or_ge i N with h | h
      · rw [show N - i = (N - (i + 1)) + 1 by omega, List.range'_succ] at hl
        cases hl
      · omega
    subst e
    simp only [wp_pure']
    exact hq _ _
end WPM
theorem W_multi {p : Program} {l : Launch} {e : Env} {R : Room} {s : State} {m : MethodId} {args : Array Value} {below : List Frame} {meth : Method} {c : Code} {H : Heap} {locs : List Loc} {cells slots : Nat} {Q : State → Prop} {cc : ByteArray} {pc : Nat} {ls : Array Slot} {rest : List Value} (hexec : p.tables.exec = Jvm.exec) (hb : c.code = cc)
    {own nm : String} {index : Nat} {ty : FieldType} {cA comp ce : ClassId} {kA kC : Class} (hown : s.vm.findClass own = some m.cls) (hclink : (Cond.classLink own index nm).before args s = true) (hnm : s.vm.findClass nm = some cA)
    (hkA : s.vm.classes[cA]? = some kA) (hkindA : kA.kind = .array comp (.array ty)) (hkC : s.vm.classes[comp]? = some kC) (hkindC : kC.kind = .array ce ty)
    {n r : Int32} {N M : Nat} (hn : n.toNatClampNeg = N) (hr : r.toNatClampNeg = M) (n0 : ¬ n < 0) (r0 : ¬ r < 0) (b1 : N * 4 ≤ 536870912) (b2 : M * componentBytes ty ≤ 536870912) (b3 : M ≤ 536870912) (hdf : fits ty (defaultValue ty) = true) (hdd : (defaultValue ty).isDefault = true)
    (hcells : cells + (1 + N) ≤ R.cells) (hslots : slots + (N + N * M) ≤ R.slots) (hdg : decode cc pc = .ok (.multianewarray index 2, 4))
    (kk : ∀ (H1 : Heap) (L : List Loc), (∀ q ∈ L, q.base = H.size) → H1.size = H.size + 1 + N → H1[H.size]? = some (arrV cA N (fun j => .ref (H.size + 1 + j))) → (∀ a : Nat, a < H.size → H1[a]? = H[a]?) → (∀ j, j < N → H1[H.size + 1 + j]? = some (arrV comp M (fun _ => defaultValue ty))) →
      W p l e R s m args below meth c H1 (locs ++ L) (cells + 1 + N) (slots + N + N * M) Q (F0 m (pc + 4) ls (.ref H.size :: rest))) : W p l e R s m args below meth c H locs cells slots Q (F0 m pc ls (.int r :: .int n :: rest)) := by
  intro T hT X
  subst hT
  subst hb
  have hpl : e.platform.magicAccessors = ({} : Platform).magicAccessors := by rw [X.admits.platform]
  obtain ⟨c0, hfc0, hcl⟩ := Cond.classLink_spec hown hclink e.platform hpl
  cases hnm.symm.trans hfc0
  obtain ⟨hg₁, hwarm₁, hready₁⟩ := State.classEntry (e := e) X.warmed hcl
  generalize T.vm.noted m.cls index (.cls cA) = vm₁ at hg₁ hwarm₁ hready₁
  have hal : s.vm.Alike vm₁ := hwarm₁.alike
  obtain ⟨kA₁, hkA₁, heA⟩ := hal.2.2 _ _ hkA
  obtain ⟨kC₁, hkC₁, heC⟩ := hal.2.2 _ _ hkC
  have hkindA₁ : kA₁.kind = .array comp (.array ty) := by rw [heA]; exact hkindA
  have hkindC₁ : kC₁.kind = .array ce ty := by rw [heC]; exact hkindC
  have X₁ := X.noted hwarm₁
  obtain ⟨hr1, hr2⟩ := X.roomAbove hcells hslots
  have XF := msta_X X₁ cA comp N M (defaultValue ty) N
  obtain ⟨f1, f2, -, -, f5, f6⟩ := msta_f (T.setVm vm₁) cA comp N M (defaultValue ty) N
  obtain ⟨t, a1, q1⟩ := kk (msta (T.setVm vm₁) cA comp N M (defaultValue ty) N).heap ((List.range N).map fun j => ⟨T.heap.size, j⟩) (fun q hq => by
      obtain ⟨j, -, rfl⟩ := List.mem_map.mp hq
      rfl) f1 (by
      refine f2.trans (congrArg some ?_)
      apply arrV_ext_lt
      intro j hj
      rw [if_pos hj]
      rfl) f5 f6 _ rfl XF
  refine ⟨t, ?_, q1⟩
  have hl1 : ¬ N > e.platform.arrayLengthLimit := by rw [Launch.admits_arrayLengthLimit X.admits]; omega
  have hh1 : ¬ N * componentBytes (.array ty) > e.platform.maxHeapBytes := by
    rw [Launch.admits_maxHeapBytes X.admits]
    show ¬ N * 4 > 536870912
    omega
  have hl2 : ¬ M > e.platform.arrayLengthLimit := by rw [Launch.admits_arrayLengthLimit X.admits]; omega
  have hh2 : ¬ M * componentBytes ty > e.platform.maxHeapBytes := by rw [Launch.admits_maxHeapBytes X.admits]; omega
  jvm_step X.here [hexec, hdg]
  simp only [multianewarray.sem, wp_bind', W.resolveClassAt_links (State.method?_setTop (F0 m pc ls (.int r :: .int n :: rest)) X.here.top) hg₁]
  rw [W.popN, if_neg (by decide)]
  refine ⟨F0 m pc ls (.int r :: .int n :: rest), State.topJava?_setTop' (s := T.setVm vm₁) _ X.here.top, [.int n, .int r], rest, rfl, rfl, ?_⟩
  simp only [List.mapM_cons, List.mapM_nil, wp_bind', wp_pure']
  refine wpm_make (k := kA₁) (kc := kC₁) hn hr hkA₁ hkindA₁ hkC₁ hkindC₁ n0 r0 hl1 hh1 hl2 hh2 hdf hdd (by show T.heap.size + 1 + _ ≤ _; omega) (by show T.slotsUsed + _ + _ ≤ _; omega) (fun d' acts' => ?_)
  have eS : ((T.setTop (F0 m pc ls (.int r :: .int n :: rest))).setVm vm₁).setTop { F0 m pc ls (.int r :: .int n :: rest) with stack := rest } = (T.setVm vm₁).setTop { F0 m pc ls (.int r :: .int n :: rest) with stack := rest } := by
    show ((T.setVm vm₁).setTop _).setTop _ = _
    rw [State.setTop_setTop]
  rw [eS, msta_t]
  simp only [wp_bind', W.mark, W.pushRef, State.topJava?_setTop' _ XF.here.top, Option.some.injEq, exists_eq_left', State.setTop_setTop, State.heap_setTop]
  intro acts
  simp [jvm, XF.here.top]
  exact a1
end MULTI
