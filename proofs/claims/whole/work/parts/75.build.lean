/-! the building machine: the layout's cells while the constructors make them, in order, at addresses that follow each other -/
section BUILD
def GB (g : GE) : Prop := ∃ B, ∀ k, k < 400 → g.2.2.2.1 k = B + k
def wb (g : GE) : Nat → List va_E → va_W
  | _, [] => []
  | k, x :: t => (g.2.2.2.1 k, x) :: wb g (k + 1) t
def AB (g : GE) (lo : Nat) : Nat → Prop := fun q => g.2.2.2.1 lo ≤ q
theorem GB.inj {g : GE} (h : GB g) {i j : Nat} (hi : i < 400) (hj : j < 400) (e : g.2.2.2.1 i = g.2.2.2.1 j) : i = j := by
  obtain ⟨B, hB⟩ := h
  rw [hB i hi, hB j hj] at e
  omega
theorem GB.add {g : GE} (h : GB g) {lo j : Nat} (hj : lo + j < 400) : g.2.2.2.1 (lo + j) = g.2.2.2.1 lo + j := by
  obtain ⟨B, hB⟩ := h
  rw [hB _ hj, hB lo (by omega)]
  omega
theorem wb_get (g : GE) : ∀ (ws : List va_E) (lo j : Nat), (wb g lo ws)[j]? = (ws[j]?).map (fun x => (g.2.2.2.1 (lo + j), x))
  | [], _, _ => by simp [wb]
  | x :: t, lo, 0 => rfl
  | x :: t, lo, j + 1 => by
    show (wb g (lo + 1) t)[j]? = _
    rw [wb_get g t (lo + 1) j, show lo + 1 + j = lo + (j + 1) by omega]
    rfl
theorem wb_app (g : GE) : ∀ (a b : List va_E) (lo : Nat), wb g lo (a ++ b) = wb g lo a ++ wb g (lo + a.length) b
  | [], b, lo => rfl
  | x :: t, b, lo => by
    show _ :: wb g (lo + 1) (t ++ b) = _ :: (wb g (lo + 1) t ++ wb g (lo + (t.length + 1)) b)
    rw [wb_app g t b (lo + 1), show lo + 1 + t.length = lo + (t.length + 1) by omega]
theorem wb_set (g : GE) : ∀ (ws : List va_E) (lo j : Nat) (x : va_E), (wb g lo ws).set j (g.2.2.2.1 (lo + j), x) = wb g lo (ws.set j x)
  | [], _, _, _ => rfl
  | y :: t, lo, 0, x => rfl
  | y :: t, lo, j + 1, x => by
    show _ :: (wb g (lo + 1) t).set j (g.2.2.2.1 (lo + (j + 1)), x) = _ :: wb g (lo + 1) (t.set j x)
    rw [show lo + (j + 1) = lo + 1 + j by omega, wb_set g t (lo + 1) j x]
theorem wb_key {g : GE} {ws : List va_E} {lo k : Nat} {q : Nat × va_E} (h : (wb g lo ws)[k]? = some q) : k < ws.length ∧ q.1 = g.2.2.2.1 (lo + k) ∧ ws[k]? = some q.2 := by
  rw [wb_get] at h
  obtain ⟨x, hx, rfl⟩ := Option.map_eq_some_iff.mp h
  exact ⟨(List.getElem?_eq_some_iff.mp hx).1, rfl, hx⟩
theorem wb_D {g : GE} (hg : GB g) {ws : List va_E} {lo : Nat} (h : lo + ws.length < 400) : va_D (AB g lo) (wb g lo ws) := by
  refine ⟨fun i j p q hi hj e => ?_, fun k q hk => ?_⟩
  · obtain ⟨a1, a2, -⟩ := wb_key hi
    obtain ⟨b1, b2, -⟩ := wb_key hj
    have := hg.inj (i := lo + i) (j := lo + j) (by omega) (by omega) (a2.symm.trans (e.trans b2))
    omega
  · obtain ⟨a1, a2, -⟩ := wb_key hk
    show g.2.2.2.1 lo ≤ q.1
    rw [a2, hg.add (by omega)]
    omega
/-- what stays: classes, arrays' classes, links of nest mates -/
def KE (g : GE) (U : State) : Prop := va_K g.2.1 classes (tysG g) U ∧ (∀ q ∈ nestL, va_Nw (.methodLinkNest q.1 q.2.1 q.2.2.1 q.2.2.2) U) ∧ (va_AO RX0 U ∧ va_AO RX6 U) ∧
  (∃ kA : Class, U.vm.classes[g.2.2.1 4]? = some kA ∧ kA.kind = .array (g.2.2.1 0) (.array .int)) ∧ ∃ kA : Class, U.vm.classes[g.2.2.1 5]? = some kA ∧ kA.kind = .array (g.2.2.1 1) (.array .long)
theorem KE.warm {g : GE} {s U : State} (h : KE g s) (hW : s.WarmedH U.vm) : KE g U := by
  obtain ⟨h1, h2, ⟨h3, h4⟩, ⟨k5, h5, e5⟩, k6, h6, e6⟩ := h
  have hal := hW.alike
  refine ⟨va_K.moved hal h1, fun q hq => va_Nw.warmM hW (h2 q hq), ⟨va_AO.moved hal h3, va_AO.moved hal h4⟩, ?_, ?_⟩
  · obtain ⟨k, hk, he⟩ := hal.2.2 _ _ h5
    exact ⟨k, hk, by rw [he]; exact e5⟩
  · obtain ⟨k, hk, he⟩ := hal.2.2 _ _ h6
    exact ⟨k, hk, by rw [he]; exact e6⟩
theorem KE.same {g : GE} {s U : State} (h : KE g s) (e : s.vm = U.vm) : KE g U := by
  obtain ⟨h1, h2, ⟨h3, h4⟩, h5, h6⟩ := h
  have hal : s.vm.Alike U.vm := by rw [e]; exact Vm.Alike.refl _
  exact ⟨va_K.moved hal h1, fun q hq => va_Nw.same (u := s) (U := U) rfl e (h2 q hq), ⟨va_AO.moved hal h3, va_AO.moved hal h4⟩, by rw [← e]; exact h5, by rw [← e]; exact h6⟩
def FxB (Y : MI) (p : Program) (s : State) (mid : MethodId) (args : Array Value) (meth : Method) (c : Code) : Prop := Fx Y p s mid args meth c ∧ meth.name = (yN Y).name
abbrev PostB : Type := Room × (List Frame → Array Value → State → State → Prop)
def VB (g : GE) (Y : MI) (lo pc : Nat) (ls : List (Option AV)) (st : List AV) (ws : List va_E) (c sl : Nat) (Z : PostB) : Prop :=
  ∀ (p : Program) (e : Env) (s : State) (mid : MethodId) (args : Array Value) (below : List Frame) (meth : Method) (cc : Code) (H : Heap) (locs : List Loc) (la : Array Slot),
    FxB Y p s mid args meth cc → KE g s → g.2.2.2.1 lo ≤ s.heap.size → s.heap.size + c = g.2.2.2.1 lo + ws.length → va_P g.2.1 classes (wb g lo ws) H → va_S (AB g lo) s.heap H locs → lhas g la (yL Y) ls →
    W p g.1 e Z.1 s mid args below meth cc H locs c sl (Z.2 below args s) (F0 mid pc la (st.map (tr g)))
theorem szB {g : GE} {lo : Nat} {ws : List va_E} {p : Program} {l : Launch} {e : Env} {R : Room} {s : State} {m : MethodId} {args : Array Value} {below : List Frame} {meth : Method} {cc : Code} {T : State} {H : Heap} {locs : List Loc} {c sl : Nat} (hg : GB g) (hw : lo + ws.length < 400) (X : Stand p l e R s m args below meth cc T locs c sl) (hT : T.heap = H) (hb : g.2.2.2.1 lo ≤ s.heap.size) (hz : s.heap.size + c = g.2.2.2.1 lo + ws.length) (hP : va_P g.2.1 classes (wb g lo ws) H) (hS : va_S (AB g lo) s.heap H locs) : H.size = g.2.2.2.1 lo + ws.length := by
  have h1 := X.heapSize
  rw [hT] at h1
  have h2 := hS.1
  rcases Nat.eq_zero_or_pos ws.length with h | h
  · omega
  · have hq : (wb g lo ws)[ws.length - 1]? = some (g.2.2.2.1 (lo + (ws.length - 1)), ws[ws.length - 1]'(by omega)) := by
      rw [wb_get, List.getElem?_eq_getElem (by omega)]
      rfl
    have h3 : g.2.2.2.1 (lo + (ws.length - 1)) < H.size := (hP _ _ hq).lt
    rw [hg.add (by omega)] at h3
    omega
section BR
variable {g : GE} {Y : MI} {lo pc : Nat} {ls : List (Option AV)} {st : List AV} {ws : List va_E} {c sl : Nat} {Z : PostB}
theorem B_iconst {n : Int} {v : Int32} (hd : decode (yC Y) pc = .ok (.iconst n, 1)) (hv : Int32.ofInt n = v) (h : VB g Y lo (pc + 1) ls (vi v :: st) ws c sl Z) : VB g Y lo pc ls st ws c sl Z := by
  intro p e s mid args below meth cc H locs la hF hE hb hz hP hS hL
  exact lv_iconst hF.1.1 hF.1.2.1 hd hv (h p e s mid args below meth cc H locs la hF hE hb hz hP hS hL)
theorem B_bipush {n : Int} {v : Int32} (hd : decode (yC Y) pc = .ok (.bipush n, 2)) (hv : (Int8.ofInt n).toInt32 = v) (h : VB g Y lo (pc + 2) ls (vi v :: st) ws c sl Z) : VB g Y lo pc ls st ws c sl Z := by
  intro p e s mid args below meth cc H locs la hF hE hb hz hP hS hL
  exact lv_bipush hF.1.1 hF.1.2.1 hd hv (h p e s mid args below meth cc H locs la hF hE hb hz hP hS hL)
theorem B_sipush {n : Int} {v : Int32} (hd : decode (yC Y) pc = .ok (.sipush n, 3)) (hv : (Int16.ofInt n).toInt32 = v) (h : VB g Y lo (pc + 3) ls (vi v :: st) ws c sl Z) : VB g Y lo pc ls st ws c sl Z := by
  intro p e s mid args below meth cc H locs la hF hE hb hz hP hS hL
  exact lv_sipush hF.1.1 hF.1.2.1 hd hv (h p e s mid args below meth cc H locs la hF hE hb hz hP hS hL)
theorem B_ldc {idx : Nat} {v : Int32} (hd : decode (yC Y) pc = .ok (.ldc idx, 2)) (hw : Cond.constant (yO Y) idx v ∈ AW) (h : VB g Y lo (pc + 2) ls (vi v :: st) ws c sl Z) : VB g Y lo pc ls st ws c sl Z := by
  intro p e s mid args below meth cc H locs la hF hE hb hz hP hS hL
  exact lv_ldc hF.1.1 hF.1.2.1 hF.1.2.2.2.2.1 (hF.1.AW hw) hd (h p e s mid args below meth cc H locs la hF hE hb hz hP hS hL)
theorem B_iload_n {k : Fin 4} {i : Nat} {x : Int32} (hd : decode (yC Y) pc = .ok (.iload_n k, 1)) (hi : (k : Nat) = i) (hl : ls[i]? = some (some (vi x))) (h : VB g Y lo (pc + 1) ls (vi x :: st) ws c sl Z) : VB g Y lo pc ls st ws c sl Z := by
  intro p e s mid args below meth cc H locs la hF hE hb hz hP hS hL
  exact lv_iload_n hF.1.1 hF.1.2.1 hd hi (hL.2.2 _ _ hl) (h p e s mid args below meth cc H locs la hF hE hb hz hP hS hL)
theorem B_aload_n {k : Fin 4} {i x : Nat} (hd : decode (yC Y) pc = .ok (.aload_n k, 1)) (hi : (k : Nat) = i) (hx : x ≠ 0) (hl : ls[i]? = some (some (vr x))) (h : VB g Y lo (pc + 1) ls (vr x :: st) ws c sl Z) : VB g Y lo pc ls st ws c sl Z := by
  intro p e s mid args below meth cc H locs la hF hE hb hz hP hS hL
  have h2 := hL.2.2 _ _ hl
  have h3 := h p e s mid args below meth cc H locs la hF hE hb hz hP hS hL
  rw [List.map_cons, tr_r g hx] at h3
  rw [tr_r g hx] at h2
  exact lv_aload_n hF.1.1 hF.1.2.1 hd hi h2 h3
theorem B_istore_n {k : Fin 4} {i : Nat} {x : Int32} (hd : decode (yC Y) pc = .ok (.istore_n k, 1)) (hi : (k : Nat) = i) {ls' : List (Option AV)} (hn : i < yL Y) (hl : lset ls i (vi x) = ls') (h : VB g Y lo (pc + 1) ls' st ws c sl Z) : VB g Y lo pc ls (vi x :: st) ws c sl Z := by
  intro p e s mid args below meth cc H locs la hF hE hb hz hP hS hL
  subst hl
  exact lv_istore_n hF.1.1 hF.1.2.1 hd hi hL.lv hn rfl (fun la' hl' => h p e s mid args below meth cc H locs la' hF hE hb hz hP hS (lhas.set1 rfl hl'))
theorem B_astore_n {k : Fin 4} {i x : Nat} (hd : decode (yC Y) pc = .ok (.astore_n k, 1)) (hi : (k : Nat) = i) (hx : x ≠ 0) {ls' : List (Option AV)} (hn : i < yL Y) (hl : lset ls i (vr x) = ls') (h : VB g Y lo (pc + 1) ls' st ws c sl Z) : VB g Y lo pc ls (vr x :: st) ws c sl Z := by
  intro p e s mid args below meth cc H locs la hF hE hb hz hP hS hL
  subst hl
  have key : ∀ la' : Array Slot, lv_has la' (yL Y) ((i, tr g (vr x)) :: (toLv g 0 ls).filter (fun q => !(q.1 == i) && !(q.1 + 1 == i && q.2.category == 2))) → W p g.1 e Z.1 s mid args below meth cc H locs c sl (Z.2 below args s) (F0 mid (pc + 1) la' (st.map (tr g))) :=
    fun la' hl' => h p e s mid args below meth cc H locs la' hF hE hb hz hP hS (lhas.set1 rfl hl')
  rw [List.map_cons]
  rw [tr_r g hx] at key ⊢
  exact lv_astore_n hF.1.1 hF.1.2.1 hd hi hL.lv hn rfl key
theorem B_iinc {i : Nat} {n : Int} {x v : Int32} (hd : decode (yC Y) pc = .ok (.iinc i n, 3)) (hx : ls[i]? = some (some (vi x))) (hv : x + Int32.ofInt n = v) {ls' : List (Option AV)} (hn : i < yL Y) (hl : lset ls i (vi v) = ls') (h : VB g Y lo (pc + 3) ls' st ws c sl Z) : VB g Y lo pc ls st ws c sl Z := by
  intro p e s mid args below meth cc H locs la hF hE hb hz hP hS hL
  subst hl
  obtain ⟨k, hk⟩ := List.getElem?_of_mem (toLv_in g ls 0 i (vi x) hx)
  rw [Nat.zero_add] at hk
  exact lv_iinc (k := k) hF.1.1 hF.1.2.1 hd hL.lv hk hv hn rfl (fun la' hl' => h p e s mid args below meth cc H locs la' hF hE hb hz hP hS (lhas.set1 (v := vi v) rfl hl'))
theorem B_goto {off : Int} {tgt : Nat} (hd : decode (yC Y) pc = .ok (.goto off, 3)) (ht : (pc : Int) + off = (tgt : Int)) (h : VB g Y lo tgt ls st ws c sl Z) : VB g Y lo pc ls st ws c sl Z := by
  intro p e s mid args below meth cc H locs la hF hE hb hz hP hS hL
  exact lv_goto hF.1.1 hF.1.2.1 hd ht (h p e s mid args below meth cc H locs la hF hE hb hz hP hS hL)
theorem B_icmp_ge {x y : Int32} {off : Int} {tgt : Nat} (hd : decode (yC Y) pc = .ok (.if_icmp .ge off, 3)) (ht : (pc : Int) + off = (tgt : Int)) (kt : y ≤ x → VB g Y lo tgt ls st ws c sl Z) (kf : ¬ y ≤ x → VB g Y lo (pc + 3) ls st ws c sl Z) : VB g Y lo pc ls (vi y :: vi x :: st) ws c sl Z := by
  intro p e s mid args below meth cc H locs la hF hE hb hz hP hS hL
  exact lv_icmp_ge hF.1.1 hF.1.2.1 hd ht (fun q => kt q p e s mid args below meth cc H locs la hF hE hb hz hP hS hL) (fun q => kf q p e s mid args below meth cc H locs la hF hE hb hz hP hS hL)
theorem B_dupr {x : Nat} (hd : decode (yC Y) pc = .ok (.dup, 1)) (h : VB g Y lo (pc + 1) ls (vr x :: vr x :: st) ws c sl Z) : VB g Y lo pc ls (vr x :: st) ws c sl Z := by
  intro p e s mid args below meth cc H locs la hF hE hb hz hP hS hL
  exact lv_dup hF.1.1 hF.1.2.1 hd (tr_cat1 g) (h p e s mid args below meth cc H locs la hF hE hb hz hP hS hL)
end BR
end BUILD
