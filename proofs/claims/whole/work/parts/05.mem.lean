/-! rows of V on the memory, calls, ends -/
abbrev ix (i : Int32) : Nat := i.toNatClampNeg
abbrev inb (i : Int32) (n : Nat) : Prop := ¬ (i < 0 ∨ n ≤ i.toNatClampNeg)
theorem ent_obj (g : GE) (m : Mem) {a c : Nat} (hk : kd a = c + 1) (hc : c < 12) : ent g m a = .inr (c, (List.range (nfL.getD c 0)).map (fv g m c a)) := by
  unfold ent
  rw [if_pos (by omega), hk, Nat.add_sub_cancel]
theorem ent_ints (g : GE) (m : Mem) {a k : Nat} (hk : kd a = 20 + k) (h : k = 0 ∨ k = 2 ∨ k = 3) : ent g m a = .inl (g.2.2.1 k, al a, .inl (m.1 a)) := by
  unfold ent
  rw [if_neg (by omega), if_neg (by omega), if_pos (by omega), hk, Nat.add_sub_cancel_left]
theorem ent_longs (g : GE) (m : Mem) {a : Nat} (hk : kd a = 21) : ent g m a = .inl (g.2.2.1 1, al a, .inr (.inl (m.2 a))) := by
  unfold ent
  rw [if_neg (by omega), if_pos hk]
theorem ent_refs (g : GE) (m : Mem) {a k : Nat} (hk : kd a = 20 + k) (h : 4 ≤ k) : ent g m a = .inl (g.2.2.1 k, al a, .inr (.inr (.inr (.inr (fun i => some (g.2.2.2.1 (a + ofs (kd a) i))))))) := by
  unfold ent
  rw [if_neg (by omega), if_neg (by omega), if_neg (by omega), hk, Nat.add_sub_cancel_left]
/-- a class's facts; a field's -/
def CF (c : Nat) (q : vw_C) : Prop := classes[c]? = some q ∧ c < 12 ∧ nfL.getD c 0 = q.2.2 ∧ (∀ w ∈ u_ws q.1 q.2.1 q.2.2, w ∈ AW) ∧ (∃ ty0 : Nat → FieldType, ∀ k, k < q.2.2 → parseFieldDescriptor (q.2.1 k).2.2.1 = some (ty0 k)) ∧ ∀ a, a < q.2.2 → ∀ b, b < q.2.2 → a ≠ b → (q.2.1 a).2.1 ≠ (q.2.1 b).2.1
def FL (own : String) (idx c j : Nat) : Prop := ∃ q : vw_C, CF c q ∧ j < q.2.2 ∧ Cond.fieldLink own idx (q.2.1 j).1 (q.2.1 j).2.1 (q.2.1 j).2.2.1 ∈ AW
def FP (own : String) (idx c j : Nat) (ty : FieldType) : Prop := ∃ q : vw_C, CF c q ∧ j < q.2.2 ∧ Cond.fieldLink own idx (q.2.1 j).1 (q.2.1 j).2.1 (q.2.1 j).2.2.1 ∈ AW ∧ (q.2.1 j).2.2.2 = false ∧ parseFieldDescriptor (q.2.1 j).2.2.1 = some ty
theorem Fx.AW {Y : MI} {p : Program} {s : State} {mid : MethodId} {args : Array Value} {meth : Method} {c : Code} (hF : Fx Y p s mid args meth c) {w : Cond} (h : w ∈ AW) : w.before args s = true := hF.2.2.2.2.2.1 w h
theorem set_map_range {α : Type} (f f' : Nat → α) (n j : Nat) (x : α) (hj : f' j = x) (ho : ∀ i, i ≠ j → f' i = f i) : ((List.range n).map f).set j x = (List.range n).map f' := by
  apply List.ext_getElem?
  intro i
  by_cases hi : i = j
  · subst hi
    rcases Nat.lt_or_ge i n with q | q
    · rw [List.getElem?_set_self (by simpa using q), List.getElem?_map, List.getElem?_range q, Option.map_some, hj]
    · rw [List.getElem?_eq_none (by simpa using q), List.getElem?_eq_none (by simpa using q)]
  · rw [List.getElem?_set_ne (Ne.symm hi), List.getElem?_map, List.getElem?_map]
    rcases Nat.lt_or_ge i n with q | q
    · rw [List.getElem?_range q, Option.map_some, Option.map_some, ho i hi]
    · rw [List.getElem?_eq_none (by simpa using q)]; rfl
section MEM
variable {g : GE} {Y : MI} {pc : Nat} {ls : List (Option AV)} {st : List AV} {m : Mem} {Z : Post}
theorem V_get {a c j idx : Nat} (v : AV) (hd : decode (yC Y) pc = .ok (.getfield idx, 3)) (hf : FL (yO Y) idx c j) (hk : kd a = c + 1) (hv : fv g m c a j = tr g v) (h : V g Y (pc + 3) ls (v :: st) m Z) : V g Y pc ls (vr a :: st) m Z := by
  intro p e s mid args below meth cc H locs la hG hF hE hP hS hL
  obtain ⟨q, ⟨hc, hc2, hn, hin, -, -⟩, hj, hl⟩ := hf
  have ha := kd_lt (a := a) (by omega)
  have hent := WS_at g m ha.1 ha.2
  rw [ent_obj g m hk hc2] at hent
  have h3 := h p e s mid args below meth cc H locs la hG hF hE hP hS hL
  rw [List.map_cons, tr_r g (by omega)]
  rw [List.map_cons] at h3
  exact va_get hF.1 hF.2.1 hF.2.2.2.2.2.1 hin hF.2.2.2.2.1 hE.1 hP (a - 1) hent hc j hj (hF.AW hl) (fun x hx => hx) (v := tr g v) (by rw [List.getElem?_map, List.getElem?_range (by rw [hn]; exact hj), Option.map_some, hv]) hd h3
theorem V_getI {a c j idx : Nat} (hd : decode (yC Y) pc = .ok (.getfield idx, 3)) (hf : FL (yO Y) idx c j) (hk : kd a = c + 1) (ht : (ftL.getD c []).getD j 0 = 0) (h : V g Y (pc + 3) ls (vi (rI m a j) :: st) m Z) : V g Y pc ls (vr a :: st) m Z :=
  V_get (vi (rI m a j)) hd hf hk (by unfold fv; rw [if_pos ht]; rfl) h
theorem V_getL {a c j idx : Nat} (hd : decode (yC Y) pc = .ok (.getfield idx, 3)) (hf : FL (yO Y) idx c j) (hk : kd a = c + 1) (ht : (ftL.getD c []).getD j 0 = 1) (h : V g Y (pc + 3) ls (vl (rL m a j) :: st) m Z) : V g Y pc ls (vr a :: st) m Z :=
  V_get (vl (rL m a j)) hd hf hk (by unfold fv; rw [if_neg (by rw [ht]; decide), if_pos ht]; rfl) h
theorem V_getR {a b c j idx : Nat} (hd : decode (yC Y) pc = .ok (.getfield idx, 3)) (hf : FL (yO Y) idx c j) (hk : kd a = c + 1) (ht : (ftL.getD c []).getD j 0 = 2) (ho : a + ofs (c + 1) j = b) (h : V g Y (pc + 3) ls (vr b :: st) m Z) : V g Y pc ls (vr a :: st) m Z := by
  have ha := kd_lt (a := a) (by omega)
  refine V_get (vr b) hd hf hk ?_ h
  unfold fv
  rw [if_neg (by rw [ht]; decide), if_neg (by rw [ht]; decide), ho, tr_r g (by omega)]
theorem V_put {a c j idx : Nat} {ty : FieldType} (v : AV) {m1 : Mem} (hd : decode (yC Y) pc = .ok (.putfield idx, 3)) (hf : FP (yO Y) idx c j ty) (hk : kd a = c + 1) (hv : fv g m1 c a j = tr g v) (ho : ∀ i, i ≠ j → fv g m1 c a i = fv g m c a i) (hx : ∀ k, k ≠ a → ent g m1 k = ent g m k) (hnar : narrow ty (tr g v) = tr g v) (hfit : fits ty (tr g v) = true) (h : V g Y (pc + 3) ls st m1 Z) : V g Y pc ls (v :: vr a :: st) m Z := by
  intro p e s mid args below meth cc H locs la hG hF hE hP hS hL
  obtain ⟨q, ⟨hc, hc2, hn, hin, ⟨ty0, hty⟩, hnm⟩, hj, hl, hfin, hpd⟩ := hf
  have ha := kd_lt (a := a) (by omega)
  have hent := WS_at g m ha.1 ha.2
  rw [ent_obj g m hk hc2] at hent
  rw [List.map_cons, List.map_cons, tr_r g (k := a) (by omega)]
  refine va_put hF.1 hF.2.1 hF.2.2.2.2.2.1 hin ty0 hty hnm hF.2.2.2.2.1 hE.1 hP (WS_D g m hG) hS (a - 1) hent hc j hj (hF.AW hl) (fun x hx => hx) hfin hpd hnar hfit (by rw [List.length_map, List.length_range, hn]; exact hj) hd (fun H1 locs1 hP1 _ hS1 => ?_)
  refine h p e s mid args below meth cc H1 locs1 la hG hF hE ?_ hS1 hL
  have e1 := set_map_range (fv g m c a) (fv g m1 c a) (nfL.getD c 0) j (tr g v) hv ho
  rw [e1, ← ent_obj g m1 hk hc2, WS_set g m m1 ha.1 ha.2 hx] at hP1
  exact hP1
theorem V_putI {a c j idx : Nat} {ty : FieldType} {x : Int32} (hd : decode (yC Y) pc = .ok (.putfield idx, 3)) (hf : FP (yO Y) idx c j ty) (hk : kd a = c + 1) (ht : (ftL.getD c []).getD j 0 = 0) (hnar : narrow ty (.int x) = .int x) (hfit : fits ty (.int x) = true) (h : V g Y (pc + 3) ls st (wI m a j x) Z) : V g Y pc ls (vi x :: vr a :: st) m Z := by
  refine V_put (vi x) hd hf hk ?_ (fun i hi => ?_) (fun k hka => ent_wI g m hka j x) hnar hfit h
  · unfold fv
    rw [if_pos ht]
    show Value.int (if a = a ∧ j = j then x else _) = _
    rw [if_pos ⟨rfl, rfl⟩]; rfl
  · unfold fv
    rw [show (wI m a j x).1 a i = m.1 a i from if_neg (fun q => hi q.2)]
    rfl
theorem V_putL {a c j idx : Nat} {x : Int64} (hd : decode (yC Y) pc = .ok (.putfield idx, 3)) (hf : FP (yO Y) idx c j .long) (hk : kd a = c + 1) (ht : (ftL.getD c []).getD j 0 = 1) (h : V g Y (pc + 3) ls st (wL m a j x) Z) : V g Y pc ls (vl x :: vr a :: st) m Z := by
  refine V_put (vl x) hd hf hk ?_ (fun i hi => ?_) (fun k hka => ent_wL g m hka j x) rfl rfl h
  · unfold fv
    rw [if_neg (by rw [ht]; decide), if_pos ht]
    show Value.long (if a = a ∧ j = j then x else _) = _
    rw [if_pos ⟨rfl, rfl⟩]; rfl
  · unfold fv
    rw [show (wL m a j x).2 a i = m.2 a i from if_neg (fun q => hi q.2)]
    rfl
theorem V_iald {a n : Nat} {i : Int32} (hd : decode (yC Y) pc = .ok (.iaload, 1)) (hk : kd a = 20) (hn : al a = n) (hin : inb i n) (h : V g Y (pc + 1) ls (vi (rI m a (ix i)) :: st) m Z) : V g Y pc ls (vi i :: vr a :: st) m Z := by
  intro p e s mid args below meth cc H locs la hG hF hE hP hS hL
  subst hn
  have ha := kd_lt (a := a) (by omega)
  have hent := WS_at g m ha.1 ha.2
  rw [ent_ints g m (k := 0) hk (Or.inl rfl)] at hent
  have h3 := h p e s mid args below meth cc H locs la hG hF hE hP hS hL
  rw [List.map_cons, List.map_cons, tr_r g (by omega)]
  exact va_iald hF.1 hF.2.1 hE.1 hP (a - 1) 0 hent rfl hin hd h3
theorem V_lald {a n : Nat} {i : Int32} (hd : decode (yC Y) pc = .ok (.laload, 1)) (hk : kd a = 21) (hn : al a = n) (hin : inb i n) (h : V g Y (pc + 1) ls (vl (rL m a (ix i)) :: st) m Z) : V g Y pc ls (vi i :: vr a :: st) m Z := by
  intro p e s mid args below meth cc H locs la hG hF hE hP hS hL
  subst hn
  have ha := kd_lt (a := a) (by omega)
  have hent := WS_at g m ha.1 ha.2
  rw [ent_longs g m hk] at hent
  have h3 := h p e s mid args below meth cc H locs la hG hF hE hP hS hL
  rw [List.map_cons, List.map_cons, tr_r g (by omega)]
  exact va_lald hF.1 hF.2.1 hE.1 hP (a - 1) 1 hent rfl hin hd h3
theorem V_bald {a n : Nat} {i : Int32} (hd : decode (yC Y) pc = .ok (.baload, 1)) (hk : kd a = 22) (hn : al a = n) (hin : inb i n) (h : V g Y (pc + 1) ls (vi (rI m a (ix i)) :: st) m Z) : V g Y pc ls (vi i :: vr a :: st) m Z := by
  intro p e s mid args below meth cc H locs la hG hF hE hP hS hL
  subst hn
  have ha := kd_lt (a := a) (by omega)
  have hent := WS_at g m ha.1 ha.2
  rw [ent_ints g m (k := 2) hk (Or.inr (Or.inl rfl))] at hent
  have h3 := h p e s mid args below meth cc H locs la hG hF hE hP hS hL
  rw [List.map_cons, List.map_cons, tr_r g (by omega)]
  exact va_bald hF.1 hF.2.1 hE.1 hP (a - 1) 2 hent rfl hin hd h3
theorem V_zald {a n : Nat} {i : Int32} (hd : decode (yC Y) pc = .ok (.baload, 1)) (hk : kd a = 23) (hn : al a = n) (hin : inb i n) (h : V g Y (pc + 1) ls (vi (rI m a (ix i)) :: st) m Z) : V g Y pc ls (vi i :: vr a :: st) m Z := by
  intro p e s mid args below meth cc H locs la hG hF hE hP hS hL
  subst hn
  have ha := kd_lt (a := a) (by omega)
  have hent := WS_at g m ha.1 ha.2
  rw [ent_ints g m (k := 3) hk (Or.inr (Or.inr rfl))] at hent
  have h3 := h p e s mid args below meth cc H locs la hG hF hE hP hS hL
  rw [List.map_cons, List.map_cons, tr_r g (by omega)]
  exact va_zald hF.1 hF.2.1 hE.1 hP (a - 1) 3 hent rfl hin hd h3
theorem upd_wI (m : Mem) (a i : Nat) (x : Int32) : upd (m.1 a) i x = (wI m a i x).1 a := by
  funext j
  show (if j = i then x else m.1 a j) = (if a = a ∧ j = i then x else m.1 a j)
  by_cases h : j = i
  · rw [if_pos h, if_pos ⟨rfl, h⟩]
  · rw [if_neg h, if_neg (fun q => h q.2)]
theorem upd_wL (m : Mem) (a i : Nat) (x : Int64) : vp_updL (m.2 a) i x = (wL m a i x).2 a := by
  funext j
  show (if j = i then x else m.2 a j) = (if a = a ∧ j = i then x else m.2 a j)
  by_cases h : j = i
  · rw [if_pos h, if_pos ⟨rfl, h⟩]
  · rw [if_neg h, if_neg (fun q => h q.2)]
theorem V_iast {a n : Nat} {i x : Int32} (hd : decode (yC Y) pc = .ok (.iastore, 1)) (hk : kd a = 20) (hn : al a = n) (hin : inb i n) (h : V g Y (pc + 1) ls st (wI m a (ix i) x) Z) : V g Y pc ls (vi x :: vi i :: vr a :: st) m Z := by
  intro p e s mid args below meth cc H locs la hG hF hE hP hS hL
  subst hn
  have ha := kd_lt (a := a) (by omega)
  have hent := WS_at g m ha.1 ha.2
  rw [ent_ints g m (k := 0) hk (Or.inl rfl)] at hent
  rw [List.map_cons, List.map_cons, List.map_cons, tr_r g (by omega)]
  refine va_iast hF.1 hF.2.1 hE.1 hP (WS_D g m hG) hS (a - 1) 0 hent rfl hin hd (fun H1 locs1 hP1 _ hS1 => ?_)
  refine h p e s mid args below meth cc H1 locs1 la hG hF hE ?_ hS1 hL
  rw [upd_wI, ← ent_ints g (wI m a (ix i) x) (k := 0) hk (Or.inl rfl), WS_set g m _ ha.1 ha.2 (fun j hj => ent_wI g m hj _ x)] at hP1
  exact hP1
theorem V_last {a n : Nat} {i : Int32} {x : Int64} (hd : decode (yC Y) pc = .ok (.lastore, 1)) (hk : kd a = 21) (hn : al a = n) (hin : inb i n) (h : V g Y (pc + 1) ls st (wL m a (ix i) x) Z) : V g Y pc ls (vl x :: vi i :: vr a :: st) m Z := by
  intro p e s mid args below meth cc H locs la hG hF hE hP hS hL
  subst hn
  have ha := kd_lt (a := a) (by omega)
  have hent := WS_at g m ha.1 ha.2
  rw [ent_longs g m hk] at hent
  rw [List.map_cons, List.map_cons, List.map_cons, tr_r g (by omega)]
  refine va_last hF.1 hF.2.1 hE.1 hP (WS_D g m hG) hS (a - 1) 1 hent rfl hin hd (fun H1 locs1 hP1 _ hS1 => ?_)
  refine h p e s mid args below meth cc H1 locs1 la hG hF hE ?_ hS1 hL
  rw [upd_wL, ← ent_longs g (wL m a (ix i) x) hk, WS_set g m _ ha.1 ha.2 (fun j hj => ent_wL g m hj _ x)] at hP1
  exact hP1
theorem V_bast {a n : Nat} {i x : Int32} (hd : decode (yC Y) pc = .ok (.bastore, 1)) (hk : kd a = 22) (hn : al a = n) (hin : inb i n) (h : V g Y (pc + 1) ls st (wI m a (ix i) (vp_nar .byte x)) Z) : V g Y pc ls (vi x :: vi i :: vr a :: st) m Z := by
  intro p e s mid args below meth cc H locs la hG hF hE hP hS hL
  subst hn
  have ha := kd_lt (a := a) (by omega)
  have hent := WS_at g m ha.1 ha.2
  rw [ent_ints g m (k := 2) hk (Or.inr (Or.inl rfl))] at hent
  rw [List.map_cons, List.map_cons, List.map_cons, tr_r g (by omega)]
  refine va_bast hF.1 hF.2.1 hE.1 hP (WS_D g m hG) hS (a - 1) 2 hent rfl hin hd (fun H1 locs1 hP1 _ hS1 => ?_)
  refine h p e s mid args below meth cc H1 locs1 la hG hF hE ?_ hS1 hL
  rw [upd_wI, ← ent_ints g (wI m a (ix i) (vp_nar .byte x)) (k := 2) hk (Or.inr (Or.inl rfl)), WS_set g m _ ha.1 ha.2 (fun j hj => ent_wI g m hj _ _)] at hP1
  exact hP1
theorem V_zast {a n : Nat} {i x : Int32} (hd : decode (yC Y) pc = .ok (.bastore, 1)) (hk : kd a = 23) (hn : al a = n) (hin : inb i n) (h : V g Y (pc + 1) ls st (wI m a (ix i) (vp_nar .boolean x)) Z) : V g Y pc ls (vi x :: vi i :: vr a :: st) m Z := by
  intro p e s mid args below meth cc H locs la hG hF hE hP hS hL
  subst hn
  have ha := kd_lt (a := a) (by omega)
  have hent := WS_at g m ha.1 ha.2
  rw [ent_ints g m (k := 3) hk (Or.inr (Or.inr rfl))] at hent
  rw [List.map_cons, List.map_cons, List.map_cons, tr_r g (by omega)]
  refine va_zast hF.1 hF.2.1 hE.1 hP (WS_D g m hG) hS (a - 1) 3 hent rfl hin hd (fun H1 locs1 hP1 _ hS1 => ?_)
  refine h p e s mid args below meth cc H1 locs1 la hG hF hE ?_ hS1 hL
  rw [upd_wI, ← ent_ints g (wI m a (ix i) (vp_nar .boolean x)) (k := 3) hk (Or.inr (Or.inr rfl)), WS_set g m _ ha.1 ha.2 (fun j hj => ent_wI g m hj _ _)] at hP1
  exact hP1
theorem V_aald {a b n k : Nat} {i : Int32} (hd : decode (yC Y) pc = .ok (.aaload, 1)) (hk : kd a = 20 + k) (h4 : k = 4 ∨ k = 5 ∨ k = 6 ∨ k = 7) (hn : al a = n) (hin : inb i n) (ho : a + ofs (20 + k) (ix i) = b) (h : V g Y (pc + 1) ls (vr b :: st) m Z) : V g Y pc ls (vi i :: vr a :: st) m Z := by
  intro p e s mid args below meth cc H locs la hG hF hE hP hS hL
  subst hn
  have ha := kd_lt (a := a) (by omega)
  have hent := WS_at g m ha.1 ha.2
  rw [ent_refs g m (k := k) hk (by omega)] at hent
  have h3 := h p e s mid args below meth cc H locs la hG hF hE hP hS hL
  rw [List.map_cons, tr_r g (by omega)] at h3
  rw [List.map_cons, List.map_cons, tr_r g (by omega)]
  have hcell := hP (a - 1) _ hent
  change H[g.2.2.2.1 a]? = some (vp_cell _ _) at hcell
  rw [vp_cell_q] at hcell
  have hlt : ix i < al a := Nat.not_le.mp fun q => hin (Or.inr q)
  obtain ⟨ty, hty, harr⟩ : ∃ ty : FieldType, ty.isReference = true ∧ ∀ (n : Nat) (z : Nat → Value), s.isArrayOf (arrV (g.2.2.1 k) n z) ty := by
    rcases h4 with rfl | rfl | rfl | rfl
    · exact ⟨.array .int, rfl, (hE.1.2 4 _ rfl).1⟩
    · exact ⟨.array .long, rfl, (hE.1.2 5 _ rfl).1⟩
    · exact ⟨.object RX0, rfl, (hE.1.2 6 _ rfl).1⟩
    · exact ⟨.object RX6, rfl, (hE.1.2 7 _ rfl).1⟩
  refine W.aald (v := .ref (g.2.2.2.1 b)) (ty := ty) hF.1 hF.2.1 hcell (harr _ _) hty (fun q => by cases q) (by rw [arrV_size]; exact hin) ?_ rfl rfl hd h3
  rw [arrV_read _ _ hlt]
  show some (Value.ref (g.2.2.2.1 (a + ofs (kd a) (ix i)))) = _
  rw [hk, ho]
theorem V_alen {a k n : Nat} (hd : decode (yC Y) pc = .ok (.arraylength, 1)) (hk : kd a = 20 + k) (h4 : k < 8) (hn : al a = n) (h : V g Y (pc + 1) ls (vi (Int32.ofNat n) :: st) m Z) : V g Y pc ls (vr a :: st) m Z := by
  intro p e s mid args below meth cc H locs la hG hF hE hP hS hL
  subst hn
  have ha := kd_lt (a := a) (by omega)
  have hent := WS_at g m ha.1 ha.2
  have h3 := h p e s mid args below meth cc H locs la hG hF hE hP hS hL
  rw [List.map_cons, tr_r g (by omega)]
  obtain ⟨x, hx, hx1⟩ : ∃ x : vp_A, ent g m a = .inl (g.2.2.1 k, x) ∧ x.1 = al a := by
    rcases (show k = 1 ∨ (k = 0 ∨ k = 2 ∨ k = 3) ∨ 4 ≤ k by omega) with q | q | q
    · subst q; exact ⟨_, ent_longs g m hk, rfl⟩
    · exact ⟨_, ent_ints g m hk q, rfl⟩
    · exact ⟨_, ent_refs g m hk q, rfl⟩
  rw [hx] at hent
  obtain ⟨ty, hty⟩ : ∃ ty : FieldType, (tysG g)[k]? = some (g.2.2.1 k, ty) := by
    rcases (show k = 0 ∨ k = 1 ∨ k = 2 ∨ k = 3 ∨ k = 4 ∨ k = 5 ∨ k = 6 ∨ k = 7 by omega) with rfl | rfl | rfl | rfl | rfl | rfl | rfl | rfl <;> exact ⟨_, rfl⟩
  exact va_alen hF.1 hF.2.1 hE.1 hP (a - 1) k hent hty (by rw [hx1]) hd h3
end MEM
