/-! THE ABSTRACT MACHINE: values, a memory of two functions over the fixed layout, and the judgement V: from here on the method ends with this answer and this memory. -/
abbrev AV : Type := Int32 ⊕ Int64 ⊕ Nat
abbrev vi (x : Int32) : AV := .inl x
abbrev vl (x : Int64) : AV := .inr (.inl x)
abbrev vr (k : Nat) : AV := .inr (.inr k)
/-- the launch; classes and slots; the arrays' classes; the addresses of the layout's places; the script -/
abbrev GE : Type := Launch × va_G × (Nat → ClassId) × (Nat → Nat) × Nat × (Nat → Int32)
def tr (g : GE) : AV → Value
  | .inl x => .int x
  | .inr (.inl x) => .long x
  | .inr (.inr k) => if k = 0 then .null else .ref (g.2.2.2.1 k)
theorem tr_i (g : GE) (x : Int32) : tr g (vi x) = .int x := rfl
theorem tr_l (g : GE) (x : Int64) : tr g (vl x) = .long x := rfl
theorem tr_r (g : GE) {k : Nat} (h : k ≠ 0) : tr g (vr k) = .ref (g.2.2.2.1 k) := if_neg h
theorem tr_0 (g : GE) : tr g (vr 0) = .null := by
  simp [tr]
theorem tr_cat1 (g : GE) {k : Nat} : (tr g (vr k)).category = 1 := by
  by_cases h : k = 0
  · rw [h, tr_0]; rfl
  · rw [tr_r g h]; rfl
def isL : AV → Bool
  | .inr (.inl _) => true
  | _ => false
theorem tr_cat (g : GE) (v : AV) : (tr g v).category = if isL v = true then 2 else 1 := by
  rcases v with x | x | k
  · rfl
  · rfl
  · exact tr_cat1 g
/-- the memory: the whole numbers of 32 bits, those of 64 bits, by place and index -/
abbrev Mem : Type := (Nat → Nat → Int32) × (Nat → Nat → Int64)
abbrev rI (m : Mem) (a i : Nat) : Int32 := m.1 a i
abbrev rL (m : Mem) (a i : Nat) : Int64 := m.2 a i
def wI (m : Mem) (a i : Nat) (v : Int32) : Mem := (fun b j => if b = a ∧ j = i then v else m.1 b j, m.2)
def wL (m : Mem) (a i : Nat) (v : Int64) : Mem := (m.1, fun b j => if b = a ∧ j = i then v else m.2 b j)
theorem kd_lt {a : Nat} (h : kd a ≠ 0) : 1 ≤ a ∧ a ≤ NW := by
  constructor
  · rcases Nat.eq_zero_or_pos a with e | e
    · subst e; exact absurd rfl h
    · exact e
  · rcases Nat.lt_or_ge NW a with e | e
    · refine absurd ?_ h
      unfold kd
      rw [show Nat.blt NW a = true from Nat.ble_eq_true_of_le e]
      rfl
    · exact e
/-- a cell of the layout -/
def fv (g : GE) (m : Mem) (c k j : Nat) : Value := if (ftL.getD c []).getD j 0 = 0 then .int (m.1 k j) else if (ftL.getD c []).getD j 0 = 1 then .long (m.2 k j) else .ref (g.2.2.2.1 (k + ofs (c + 1) j))
def ent (g : GE) (m : Mem) (k : Nat) : va_E :=
  if kd k ≤ 12 then .inr (kd k - 1, (List.range (nfL.getD (kd k - 1) 0)).map (fv g m (kd k - 1) k))
  else if kd k = 21 then .inl (g.2.2.1 1, al k, .inr (.inl (m.2 k)))
  else if kd k < 24 then .inl (g.2.2.1 (kd k - 20), al k, .inl (m.1 k))
  else .inl (g.2.2.1 (kd k - 20), al k, .inr (.inr (.inr (.inr (fun i => some (g.2.2.2.1 (k + ofs (kd k) i)))))))
def WS (g : GE) (m : Mem) : va_W := (List.range NW).map (fun j => (g.2.2.2.1 (j + 1), ent g m (j + 1)))
theorem WS_at (g : GE) (m : Mem) {k : Nat} (h1 : 1 ≤ k) (h2 : k ≤ NW) : (WS g m)[k - 1]? = some (g.2.2.2.1 k, ent g m k) := by
  unfold WS
  rw [List.getElem?_map, List.getElem?_range (by omega)]
  simp only [Option.map_some]
  rw [Nat.sub_add_cancel h1]
theorem WS_set (g : GE) (m m' : Mem) {k : Nat} (h1 : 1 ≤ k) (h2 : k ≤ NW) (ho : ∀ j, j ≠ k → ent g m' j = ent g m j) : (WS g m).set (k - 1) (g.2.2.2.1 k, ent g m' k) = WS g m' := by
  apply List.ext_getElem?
  intro j
  by_cases hj : j = k - 1
  · subst hj
    rw [List.getElem?_set_self (by simp [WS]; omega), WS_at g m' h1 h2]
  · rw [List.getElem?_set_ne (Ne.symm hj)]
    unfold WS
    rw [List.getElem?_map, List.getElem?_map]
    rcases Nat.lt_or_ge j NW with q | q
    · rw [List.getElem?_range q]
      simp only [Option.map_some]
      rw [ho (j + 1) (by omega)]
    · rw [List.getElem?_eq_none (by simpa using q)]
      rfl
theorem wI_1 (m : Mem) {a b i : Nat} (h : b ≠ a) (v : Int32) : (wI m a i v).1 b = m.1 b := by
  funext j
  show (if b = a ∧ j = i then v else m.1 b j) = m.1 b j
  rw [if_neg (fun q => h q.1)]
theorem wL_2 (m : Mem) {a b i : Nat} (h : b ≠ a) (v : Int64) : (wL m a i v).2 b = m.2 b := by
  funext j
  show (if b = a ∧ j = i then v else m.2 b j) = m.2 b j
  rw [if_neg (fun q => h q.1)]
theorem fv_wI (g : GE) (m : Mem) {a k : Nat} (h : k ≠ a) (c i j : Nat) (v : Int32) : fv g (wI m a i v) c k j = fv g m c k j := by
  unfold fv
  rw [wI_1 m h v]
  rfl
theorem fv_wL (g : GE) (m : Mem) {a k : Nat} (h : k ≠ a) (c i j : Nat) (v : Int64) : fv g (wL m a i v) c k j = fv g m c k j := by
  unfold fv
  rw [wL_2 m h v]
  rfl
theorem ent_wI (g : GE) (m : Mem) {a k : Nat} (h : k ≠ a) (i : Nat) (v : Int32) : ent g (wI m a i v) k = ent g m k := by
  unfold ent
  rw [wI_1 m h v, show fv g (wI m a i v) (kd k - 1) k = fv g m (kd k - 1) k from funext fun j => fv_wI g m h _ i j v]
  rfl
theorem ent_wL (g : GE) (m : Mem) {a k : Nat} (h : k ≠ a) (i : Nat) (v : Int64) : ent g (wL m a i v) k = ent g m k := by
  unfold ent
  rw [wL_2 m h v, show fv g (wL m a i v) (kd k - 1) k = fv g m (kd k - 1) k from funext fun j => fv_wL g m h _ i j v]
  rfl
/-- the words -/
def AW : List Cond := lw_tbl.filter goodWord
theorem AW_ok {w : Cond} (h : w ∈ AW) : w ∈ lw_tbl ∧ goodWord w = true := List.mem_filter.mp h
/-- name, code, locals, answer's type, own class, frames, words of locals below -/
abbrev MI : Type := MethodName × ByteArray × Nat × Option FieldType × String × Nat × Nat
abbrev yN (Y : MI) : MethodName := Y.1
abbrev yC (Y : MI) : ByteArray := Y.2.1
abbrev yL (Y : MI) : Nat := Y.2.2.1
abbrev yR (Y : MI) : Option FieldType := Y.2.2.2.1
abbrev yO (Y : MI) : String := Y.2.2.2.2.1
abbrev yF (Y : MI) : Nat := Y.2.2.2.2.2.1
abbrev yQ (Y : MI) : Nat := Y.2.2.2.2.2.2
def cdM (Y : MI) : Cond := Cond.code (yN Y) (yC Y) (yL Y) (yR Y)
def wsM (Y : MI) : List Cond := cdM Y :: AW
def rmM (Y : MI) : Room := { frames := yF Y, cells := 0, slots := 0, locals := yQ Y }
theorem goodM {Z : MI} (h : cdM Z ∈ AW) : GoodIn AW (wsM Z) := by
  intro w hw
  have hw2 : w ∈ AW := by
    rcases List.mem_cons.mp hw with e | e
    · rw [e]; exact h
    · exact e
  exact ⟨hw2, good_of_word (AW_ok hw2).2⟩
/-- which cells a method may change: the layout's -/
def AA (g : GE) : Nat → Prop := fun q => ∃ k, 1 ≤ k ∧ k ≤ NW ∧ q = g.2.2.2.1 k
/-- array classes of the kinds 20 .. 27 -/
def tysG (g : GE) : List (ClassId × FieldType) := [(g.2.2.1 0, .int), (g.2.2.1 1, .long), (g.2.2.1 2, .byte), (g.2.2.1 3, .boolean), (g.2.2.1 4, .array .int), (g.2.2.1 5, .array .long), (g.2.2.1 6, .object RX0), (g.2.2.1 7, .object RX6)]
/-- the strings: own class, place in its pool, text, which -/
abbrev vS (i : Nat) : AV := vr (1000 + i)
def STR (g : GE) (U : State) (H : Heap) : Prop :=
  vk_S nS lenS bytS (fun i => g.2.2.2.1 (1000 + i)) (fun i => g.2.2.2.1 (2000 + i)) (AA g) U H ∧ va_Z "java/lang/String" "COMPACT_STRINGS" "Z" (.int 1) (AA g) U H ∧ ∃ v : Nat, va_Z "jdk/internal/util/Preconditions" "SIOOBE_FORMATTER" "Ljava/util/function/BiFunction;" (tr g (vr v)) (AA g) U H
/-- what stays: classes, arrays' classes, links of nest mates, strings -/
def SE (g : GE) (U : State) (H : Heap) : Prop :=
  va_K g.2.1 classes (tysG g) U ∧ (∀ q ∈ nestL, va_Nw (.methodLinkNest q.1 q.2.1 q.2.2.1 q.2.2.2) U) ∧ (∀ q ∈ strL, vk_R q.1 q.2.1 q.2.2.1 (g.2.2.2.1 (1000 + q.2.2.2)) U) ∧ STR g U H ∧ va_T .int (g.2.2.2.1 3000) g.2.2.2.2.1 (fun j => .int (g.2.2.2.2.2 j)) (AA g) U H
/-- the addresses are apart -/
def GK (g : GE) : Prop := ∀ i j, 1 ≤ i → i ≤ NW → 1 ≤ j → j ≤ NW → g.2.2.2.1 i = g.2.2.2.1 j → i = j
theorem WS_D (g : GE) (m : Mem) (h : GK g) : va_D (AA g) (WS g m) := by
  have key : ∀ (k : Nat) (q : Nat × va_E), (WS g m)[k]? = some q → k < NW ∧ q.1 = g.2.2.2.1 (k + 1) := by
    intro k q hq
    unfold WS at hq
    rw [List.getElem?_map] at hq
    rcases Nat.lt_or_ge k NW with r | r
    · rw [List.getElem?_range r] at hq
      cases hq
      exact ⟨r, rfl⟩
    · rw [List.getElem?_eq_none (by simpa using r)] at hq
      cases hq
  refine ⟨fun i j p q hi hj e => ?_, fun k q hk => ?_⟩
  · obtain ⟨a1, a2⟩ := key i p hi
    obtain ⟨b1, b2⟩ := key j q hj
    have := h (i + 1) (j + 1) (by omega) (by omega) (by omega) (by omega) (a2.symm.trans (e.trans b2))
    omega
  · obtain ⟨a1, a2⟩ := key k q hk
    exact ⟨k + 1, by omega, by omega, a2⟩
theorem SE.warm {g : GE} {s U : State} {H0 H : Heap} {locs : List Loc} (h : SE g s H0) (hW : s.WarmedH U.vm) (hS : va_S (AA g) H0 H locs) : SE g U H := by
  obtain ⟨h1, h2, h3, ⟨h4, h5, v, h6⟩, h7⟩ := h
  refine ⟨va_K.moved hW.alike h1, fun q hq => va_Nw.warmM hW (h2 q hq), fun q hq => vk_R.warm hW (h3 q hq), ⟨?_, ?_, v, ?_⟩, va_T.kept (va_T.moved hW.alike h7) (fun a ha hn => hS.2.1 a ha hn)⟩
  · exact vk_S.kept (vk_S.moved hW.alike h4) (fun a ha hn => hS.2.1 a ha hn)
  · exact va_Z.kept (va_Z.moved hW.alike h5) (fun a ha hn => hS.2.1 a ha hn)
  · exact va_Z.kept (va_Z.moved hW.alike h6) (fun a ha hn => hS.2.1 a ha hn)
/-- a method's end -/
def QM (g : GE) (r : Option AV) (m' : Mem) : Array Value → State → Outcome → State → Prop := fun _ st oc t => oc = .returned (r.map (tr g)) ∧ va_P g.2.1 classes (WS g m') t.heap ∧ va_F (AA g) st t
/-- A CONTRACT: with these arguments and this memory the method returns r and leaves m' -/
def Ev (g : GE) (Y : MI) (as : List AV) (m : Mem) (r : Option AV) (m' : Mem) : Prop :=
  GK g → Met g.1 (yN Y) (wsM Y) (rmM Y) (va_Pc (as.map (tr g)) (fun U => SE g U U.heap ∧ va_P g.2.1 classes (WS g m) U.heap)) (QM g r m') 0 0 (AA g)
/-- the locals -/
def lhas (g : GE) (la : Array Slot) (n : Nat) (ls : List (Option AV)) : Prop := la.size = n ∧ lv_wf la ∧ ∀ (i : Nat) (v : AV), ls[i]? = some (some v) → la[i]? = some (.val (tr g v))
def Fx (Y : MI) (p : Program) (s : State) (mid : MethodId) (args : Array Value) (meth : Method) (c : Code) : Prop :=
  p.tables.exec = Jvm.exec ∧ c.code = yC Y ∧ meth.sig.returnType = yR Y ∧ c.maxLocals = yL Y ∧ s.vm.findClass (yO Y) = some mid.cls ∧ (∀ w ∈ AW, w.before args s = true) ∧ meth.locks = false
/-- how it ends: the room, the cells and slots made so far, the end -/
abbrev Post : Type := Room × Nat × Nat × (List Frame → Array Value → State → State → Prop)
/-- a method's own end: with r, and m' -/
def PM (g : GE) (Y : MI) (r : Option AV) (m' : Mem) : Post := (rmM Y, 0, 0, fun below args s => MQ below (QM g r m') args s 0 0 (AA g))
/-- from here on it ends so -/
def V (g : GE) (Y : MI) (pc : Nat) (ls : List (Option AV)) (st : List AV) (m : Mem) (Z : Post) : Prop :=
  ∀ (p : Program) (e : Env) (s : State) (mid : MethodId) (args : Array Value) (below : List Frame) (meth : Method) (c : Code) (H : Heap) (locs : List Loc) (la : Array Slot),
    GK g → Fx Y p s mid args meth c → SE g s s.heap → va_P g.2.1 classes (WS g m) H → va_S (AA g) s.heap H locs → lhas g la (yL Y) ls →
    W p g.1 e Z.1 s mid args below meth c H locs Z.2.1 Z.2.2.1 (Z.2.2.2 below args s) (F0 mid pc la (st.map (tr g)))
