/-! rows of the building machine on the heap -/
section BROWS
variable {g : GE} {Y : MI} {lo pc : Nat} {ls : List (Option AV)} {st : List AV} {ws : List va_E} {c sl : Nat} {Z : PostB}
theorem tyK {U : State} (hE : KE g U) {k : Nat} {ty : FieldType} (hk : (tysG g)[k]? = some (g.2.2.1 k, ty)) (hn : ∀ C, ty ≠ .object C) : U.vm.findClass ("[" ++ ty.toString) = some (g.2.2.1 k) := by
  have h := (hE.1.2 k _ hk).2
  cases ty with
  | object C => exact absurd rfl (hn C)
  | _ => exact h
theorem wb_push (hg : GB g) {H H1 : Heap} {x : va_E} (hw : lo + ws.length < 400) (hP : va_P g.2.1 classes (wb g lo ws) H) (o1 : ∀ a : Nat, a < H.size → H1[a]? = H[a]?) (hx : va_at g.2.1 classes (g.2.2.2.1 (lo + ws.length), x) H1) : va_P g.2.1 classes (wb g lo (ws ++ [x])) H1 := by
  rw [wb_app]
  refine va_P.app (hP.kept (fun k q hk => o1 q.1 (hP k q hk).lt)) (fun k q hk => ?_)
  obtain ⟨a1, a2, a3⟩ := wb_key hk
  have a1 : k < 1 := a1
  rw [show k = 0 by omega] at a2 a3
  have a4 : x = q.2 := Option.some.inj a3
  have e : q = (g.2.2.2.1 (lo + ws.length), x) := Prod.ext a2 a4.symm
  rw [e]
  exact hx
theorem S_push {H0 H H1 : Heap} {locs : List Loc} {A : Nat → Prop} (hS : va_S A H0 H locs) (hz : H.size ≤ H1.size) (o1 : ∀ a : Nat, a < H.size → H1[a]? = H[a]?) : va_S A H0 H1 locs :=
  ⟨Nat.le_trans hS.1 hz, fun x h1 h2 => (o1 x (Nat.lt_of_lt_of_le h1 hS.1)).trans (hS.2.1 x h1 h2), hS.2.2⟩
theorem len1 {S A c : Nat} {x : va_E} (hz : S + c = A + ws.length) : S + (c + 1) = A + (ws ++ [x]).length := by
  rw [List.length_append, List.length_cons, List.length_nil]
  omega
theorem B_new (hg : GB g) {ci idx : Nat} {q : vw_C} {fs : List Value} (ty0 : Nat → FieldType) (hw : lo + ws.length < 399) (h0 : 0 < lo) (hd : decode (yC Y) pc = .ok (.new idx, 3)) (hc : CF ci q) (hl : Cond.classLink (yO Y) idx q.1 ∈ AW) (hi : Cond.instantiable q.1 q.2.2 ∈ AW) (hini : Cond.initialized q.1 ∈ AW)
    (hty : ∀ k, k < q.2.2 → parseFieldDescriptor (q.2.1 k).2.2.1 = some (ty0 k)) (hfs : ∀ j, j < q.2.2 → defaultValue (ty0 j) = vp_V fs j) (hcc : c + 1 ≤ Z.1.cells) (hss : sl + q.2.2 ≤ Z.1.slots) (h : VB g Y lo (pc + 3) ls (vr (lo + ws.length) :: st) (ws ++ [.inr (ci, fs)]) (c + 1) (sl + q.2.2) Z) : VB g Y lo pc ls st ws c sl Z := by
  intro p e s mid args below meth cc H locs la hF hE hb hz hP hS hL T hT X
  have hsz := szB hg (by omega) X hT hb hz hP hS
  obtain ⟨hc1, hc2, hn, hin, -, -⟩ := hc
  have hKn := hE.1.1 ci q hc1
  refine (show W p g.1 e Z.1 s mid args below meth cc H locs c sl (Z.2 below args s) (F0 mid pc la (st.map (tr g))) from W.newcK hF.1.1 hF.1.2.1 hF.1.2.2.2.2.1 (hF.1.AW hl) (hF.1.AW hi) (hF.1.AW hini) rfl hd hcc hss hKn.2.1 rfl (fun H1 kC hkC e1 z1 o1 => ?_)) T hT X
  have ez := len1 (x := .inr (ci, fs)) hz
  have ea : g.2.2.2.1 (lo + ws.length) = H.size := by rw [hg.add (by omega), hsz]
  have hx : va_at g.2.1 classes (g.2.2.2.1 (lo + ws.length), .inr (ci, fs)) H1 := by
    rw [ea]
    exact ⟨q, hc1, (u_born ty0 hF.1.2.2.2.2.2.1 hin hKn hkC e1 hty).to hfs⟩
  have hP1 := wb_push hg (by omega) hP o1 hx
  have hS1 := S_push hS (Nat.le_of_lt (by rw [z1]; exact Nat.lt_succ_self _)) o1
  have h3 := h p e s mid args below meth cc H1 locs la hF hE hb ez hP1 hS1 hL
  rw [List.map_cons, tr_r g (k := lo + ws.length) (by omega), ea] at h3
  exact h3
theorem B_newa (hg : GB g) {atype : ArrayType} {k : Nat} {ty : FieldType} {n : Int32} {N : Nat} {z : (Nat → Int32) ⊕ (Nat → Int64) ⊕ (Nat → UInt32) ⊕ (Nat → UInt64) ⊕ (Nat → Option Nat)} (hw : lo + ws.length < 399) (h0 : 0 < lo) (hd : decode (yC Y) pc = .ok (.newarray atype, 2)) (hty : Op.newarray.typeOf atype = ty) (harr : Cond.arrayClass ty ∈ AW) (hk : (tysG g)[k]? = some (g.2.2.1 k, ty)) (hno : ∀ C, ty ≠ .object C)
    (hv : ∀ cA : ClassId, vp_cell cA (N, z) = arrV cA N (fun _ => defaultValue ty)) (hn0 : ¬ n < 0) (hN : n.toNatClampNeg = N) (hby : N * componentBytes ty ≤ 536870912) (hcc : c + 1 ≤ Z.1.cells) (hss : sl + N ≤ Z.1.slots) (h : VB g Y lo (pc + 2) ls (vr (lo + ws.length) :: st) (ws ++ [.inl (g.2.2.1 k, N, z)]) (c + 1) (sl + N) Z) : VB g Y lo pc ls (vi n :: st) ws c sl Z := by
  intro p e s mid args below meth cc H locs la hF hE hb hz hP hS hL T hT X
  have hsz := szB hg (by omega) X hT hb hz hP hS
  subst hty
  refine (show W p g.1 e Z.1 s mid args below meth cc H locs c sl (Z.2 below args s) (F0 mid pc la ((vi n :: st).map (tr g))) from va_newaK hF.1.1 hF.1.2.1 (hF.1.AW harr) rfl hd rfl hn0 hN hby hcc hss rfl (fun H1 cA e1 z1 o1 hAr hNm => ?_)) T hT X
  have ec : cA = g.2.2.1 k := Option.some.inj (hNm.symm.trans (tyK hE hk hno))
  subst ec
  have ez := len1 (x := .inl (g.2.2.1 k, N, z)) hz
  have ea : g.2.2.2.1 (lo + ws.length) = H.size := by rw [hg.add (by omega), hsz]
  have hx : va_at g.2.1 classes (g.2.2.2.1 (lo + ws.length), .inl (g.2.2.1 k, N, z)) H1 := by
    rw [ea]
    show H1[H.size]? = some (vp_cell _ _)
    rw [hv]
    exact e1
  have hP1 := wb_push hg (by omega) hP o1 hx
  have hS1 := S_push hS (Nat.le_of_lt (by rw [z1]; exact Nat.lt_succ_self _)) o1
  have h3 := h p e s mid args below meth cc H1 locs la hF hE hb ez hP1 hS1 hL
  rw [List.map_cons, tr_r g (k := lo + ws.length) (by omega), ea] at h3
  exact h3
theorem B_newq (hg : GB g) {idx k : Nat} {C : String} {n : Int32} {N : Nat} (hw : lo + ws.length < 399) (h0 : 0 < lo) (hd : decode (yC Y) pc = .ok (.anewarray idx, 3)) (hl : Cond.classLink (yO Y) idx C ∈ AW) (hao : C = RX0 ∨ C = RX6) (hk : (tysG g)[k]? = some (g.2.2.1 k, .object C)) (hn0 : ¬ n < 0) (hN : n.toNatClampNeg = N) (hby : N * 4 ≤ 536870912) (hcc : c + 1 ≤ Z.1.cells) (hss : sl + N ≤ Z.1.slots)
    (h : VB g Y lo (pc + 3) ls (vr (lo + ws.length) :: st) (ws ++ [.inl (g.2.2.1 k, N, .inr (.inr (.inr (.inr (fun _ => none)))))]) (c + 1) (sl + N) Z) : VB g Y lo pc ls (vi n :: st) ws c sl Z := by
  intro p e s mid args below meth cc H locs la hF hE hb hz hP hS hL T hT X
  have hsz := szB hg (by omega) X hT hb hz hP hS
  have hAO : va_AO C s := by
    rcases hao with rfl | rfl
    · exact hE.2.2.1.1
    · exact hE.2.2.1.2
  subst hN
  refine (show W p g.1 e Z.1 s mid args below meth cc H locs c sl (Z.2 below args s) (F0 mid pc la ((vi n :: st).map (tr g))) from W.anew hF.1.1 hF.1.2.1 hF.1.2.2.2.2.1 (hF.1.AW hl) (va_AO.use hAO) rfl hd rfl hn0 hby hcc hss (fun cA kA comp f1 f2 f3 f4 => ?_)) T hT X
  obtain ⟨kA', comp', g1, g2, g3, g4⟩ := (hE.1.2 k _ hk).2
  have ec : cA = g.2.2.1 k := Option.some.inj (f1.symm.trans g4)
  subst ec
  generalize hH1 : H.push ({ cls := g.2.2.1 k, slots := Array.replicate n.toNatClampNeg .null, vm := .none } : Cell) = H1
  have z1 : H1.size = H.size + 1 := by rw [← hH1, Array.size_push]
  have e1 : H1[H.size]? = some (arrV (g.2.2.1 k) n.toNatClampNeg (fun _ => .null)) := by rw [← hH1, Array.getElem?_push_size, ← arrV_new]
  have o1 : ∀ a : Nat, a < H.size → H1[a]? = H[a]? := fun a ha => by rw [← hH1, Array.getElem?_push, if_neg (Nat.ne_of_lt ha)]
  have ez := len1 (x := .inl (g.2.2.1 k, n.toNatClampNeg, .inr (.inr (.inr (.inr (fun _ => none)))))) hz
  have ea : g.2.2.2.1 (lo + ws.length) = H.size := by rw [hg.add (by omega), hsz]
  have hx : va_at g.2.1 classes (g.2.2.2.1 (lo + ws.length), .inl (g.2.2.1 k, n.toNatClampNeg, .inr (.inr (.inr (.inr (fun _ => none)))))) H1 := by
    rw [ea]
    show H1[H.size]? = some (vp_cell _ _)
    rw [vp_cell_q]
    exact e1
  have hP1 := wb_push hg (by omega) hP o1 hx
  have hS1 := S_push hS (Nat.le_of_lt (by rw [z1]; exact Nat.lt_succ_self _)) o1
  have h3 := h p e s mid args below meth cc H1 locs la hF hE hb ez hP1 hS1 hL
  rw [List.map_cons, tr_r g (k := lo + ws.length) (by omega), ea] at h3
  exact h3
theorem B_multi (hg : GB g) {idx a k : Nat} {ty : FieldType} {nm : String} {n r : Int32} {N M : Nat} {z : (Nat → Int32) ⊕ (Nat → Int64) ⊕ (Nat → UInt32) ⊕ (Nat → UInt64) ⊕ (Nat → Option Nat)} (hw : lo + ws.length + N < 398) (h0 : 0 < lo) (hd : decode (yC Y) pc = .ok (.multianewarray idx 2, 4)) (hl : Cond.classLink (yO Y) idx nm ∈ AW) (hnm : nm = "[" ++ (FieldType.array ty).toString)
    (ha : (tysG g)[a]? = some (g.2.2.1 a, .array ty)) (hk : (tysG g)[k]? = some (g.2.2.1 k, ty)) (hcl : ∀ U, KE g U → ∃ kA : Class, U.vm.classes[g.2.2.1 a]? = some kA ∧ kA.kind = .array (g.2.2.1 k) (.array ty)) (hv : ∀ cA : ClassId, vp_cell cA (M, z) = arrV cA M (fun _ => defaultValue ty))
    (hn : n.toNatClampNeg = N) (hr : r.toNatClampNeg = M) (n0 : ¬ n < 0) (r0 : ¬ r < 0) (b1 : N * 4 ≤ 536870912) (b2 : M * componentBytes ty ≤ 536870912) (b3 : M ≤ 536870912) (hdf : fits ty (defaultValue ty) = true) (hdd : (defaultValue ty).isDefault = true) (hcc : c + (1 + N) ≤ Z.1.cells) (hss : sl + (N + N * M) ≤ Z.1.slots)
    (h : VB g Y lo (pc + 4) ls (vr (lo + ws.length) :: st) (ws ++ (.inl (g.2.2.1 a, N, .inr (.inr (.inr (.inr (fun i => some (g.2.2.2.1 (lo + ws.length + (1 + i)))))))) :: List.replicate N (.inl (g.2.2.1 k, M, z)))) (c + 1 + N) (sl + N + N * M) Z) : VB g Y lo pc ls (vi r :: vi n :: st) ws c sl Z := by
  intro p e s mid args below meth cc H locs la hF hE hb hz hP hS hL T hT X
  have hsz := szB hg (by omega) X hT hb hz hP hS
  obtain ⟨kA, hkA, hkindA⟩ := hcl s hE
  obtain ⟨kC, hkC, ce, hkindC⟩ := ((hE.1.2 k _ hk).1 0 (fun _ => .null)).2
  refine W_multi hF.1.1 hF.1.2.1 hF.1.2.2.2.2.1 (hF.1.AW hl) (by rw [hnm]; exact tyK hE ha (fun C q => by cases q)) hkA hkindA hkC hkindC hn hr n0 r0 b1 b2 b3 hdf hdd hcc hss hd (fun H1 L hL1 z1 e1 o1 e2 => ?_) T hT X
  have hlen : (ws ++ ((.inl (g.2.2.1 a, N, .inr (.inr (.inr (.inr (fun i => some (g.2.2.2.1 (lo + ws.length + (1 + i)))))))) : va_E) :: List.replicate N (.inl (g.2.2.1 k, M, z)))).length = ws.length + (1 + N) := by
    rw [List.length_append, List.length_cons, List.length_replicate]
    omega
  have h3 := h p e s mid args below meth cc H1 (locs ++ L) la hF hE hb (by rw [hlen]; omega) ?_ ⟨Nat.le_trans hS.1 (by omega), fun x h1 h2 => (o1 x (Nat.lt_of_lt_of_le h1 hS.1)).trans (hS.2.1 x h1 h2), fun l hl2 => ?_⟩ hL
  · rw [List.map_cons, tr_r g (by omega), hg.add (by omega), ← hsz] at h3
    exact h3
  · rw [wb_app]
    refine va_P.app (hP.kept (fun k q hk => o1 q.1 (hP k q hk).lt)) (fun j q hj => ?_)
    obtain ⟨a1, a2, a3⟩ := wb_key hj
    rw [List.length_cons, List.length_replicate] at a1
    cases j with
    | zero =>
      have a4 : ((.inl (g.2.2.1 a, N, .inr (.inr (.inr (.inr (fun i => some (g.2.2.2.1 (lo + ws.length + (1 + i)))))))) : va_E)) = q.2 := Option.some.inj a3
      have e : q = (H.size, _) := Prod.ext (by rw [a2, hg.add (by omega), hg.add (by omega), ← hsz, Nat.add_zero]) a4.symm
      rw [e]
      show H1[H.size]? = some (vp_cell _ _)
      rw [vp_cell_q, e1]
      refine congrArg some (arrV_ext_lt (fun i hi => ?_))
      show Value.ref (H.size + 1 + i) = Value.ref (g.2.2.2.1 (lo + ws.length + (1 + i)))
      rw [hg.add (by omega), hg.add (by omega), ← hsz, Nat.add_assoc]
    | succ j =>
      rw [List.getElem?_cons_succ, List.getElem?_replicate, if_pos (by omega)] at a3
      have e : q = (H.size + (j + 1), _) := Prod.ext (by rw [a2, hg.add (by omega), hg.add (by omega), ← hsz]) (Option.some.inj a3).symm
      rw [e]
      show H1[H.size + (j + 1)]? = some (vp_cell _ _)
      rw [hv, show H.size + (j + 1) = H.size + 1 + j by omega]
      exact e2 j (by omega)
  · rcases List.mem_append.mp hl2 with q | q
    · exact hS.2.2 l q
    · show g.2.2.2.1 lo ≤ l.base
      rw [hL1 l q, hsz]
      omega
def FPB (Y : MI) (idx c j : Nat) (ty : FieldType) : Prop := ∃ q : vw_C, CF c q ∧ j < q.2.2 ∧ Cond.fieldLink (yO Y) idx (q.2.1 j).1 (q.2.1 j).2.1 (q.2.1 j).2.2.1 ∈ AW ∧ ((q.2.1 j).2.2.2 = false ∨ ((q.2.1 j).2.2.2 = true ∧ (q.2.1 j).1 = yO Y ∧ (yN Y).name = "<init>")) ∧ parseFieldDescriptor (q.2.1 j).2.2.1 = some ty
theorem B_put (hg : GB g) {a ci j j0 idx : Nat} {ty : FieldType} {v : AV} {fs : List Value} {ws' : List va_E} (hw : lo + ws.length < 400) (h0 : 0 < lo) (hd : decode (yC Y) pc = .ok (.putfield idx, 3)) (hf : FPB Y idx ci j ty) (ha : lo + j0 = a) (he : ws[j0]? = some (.inr (ci, fs))) (hnar : narrow ty (tr g v) = tr g v) (hfit : fits ty (tr g v) = true) (hl : j < fs.length) (hws : ws.set j0 (.inr (ci, fs.set j (tr g v))) = ws')
    (h : VB g Y lo (pc + 3) ls st ws' c sl Z) : VB g Y lo pc ls (v :: vr a :: st) ws c sl Z := by
  intro p e s mid args below meth cc H locs la hF hE hb hz hP hS hL
  obtain ⟨q, ⟨hc, hc2, hn, hin, ⟨ty0, hty⟩, hnm⟩, hj, hlk, hfin, hpd⟩ := hf
  subst ha; subst hws
  have hq : (wb g lo ws)[j0]? = some (g.2.2.2.1 (lo + j0), .inr (ci, fs)) := by rw [wb_get, he]; rfl
  have kk : ∀ (H1 : Heap) (locs1 : List Loc), va_P g.2.1 classes ((wb g lo ws).set j0 (g.2.2.2.1 (lo + j0), .inr (ci, fs.set j (tr g v)))) H1 → va_D (AB g lo) ((wb g lo ws).set j0 (g.2.2.2.1 (lo + j0), .inr (ci, fs.set j (tr g v)))) → va_S (AB g lo) s.heap H1 locs1 → W p g.1 e Z.1 s mid args below meth cc H1 locs1 c sl (Z.2 below args s) (F0 mid (pc + 3) la (st.map (tr g))) := by
    intro H1 locs1 hP1 _ hS1
    rw [wb_set] at hP1
    exact h p e s mid args below meth cc H1 locs1 la hF hE hb (by rw [List.length_set]; exact hz) hP1 hS1 hL
  rw [List.map_cons, List.map_cons, tr_r g (k := lo + j0) (by omega)]
  rcases hfin with hfin | ⟨hfin, hdec, hini⟩
  · exact va_put hF.1.1 hF.1.2.1 hF.1.2.2.2.2.2.1 hin ty0 hty hnm hF.1.2.2.2.2.1 hE.1 hP (wb_D hg hw) hS j0 hq hc j hj (hF.1.AW hlk) (fun x hx => hx) hfin hpd hnar hfit hl hd kk
  · exact va_putF hF.1.1 hF.1.2.1 hF.1.2.2.2.2.2.1 hin ty0 hty hnm hF.1.2.2.2.2.1 hE.1 hP (wb_D hg hw) hS j0 hq hc j hj (hF.1.AW hlk) (fun x hx => hx) hfin (hF.2.trans hini) hdec hpd hnar hfit hl hd kk
theorem B_getR (hg : GB g) {a b ci j j0 idx : Nat} {fs : List Value} (h0 : 0 < lo) (hd : decode (yC Y) pc = .ok (.getfield idx, 3)) (hf : FL (yO Y) idx ci j) (ha : lo + j0 = a) (he : ws[j0]? = some (.inr (ci, fs))) (hv : fs[j]? = some (tr g (vr b))) (h : VB g Y lo (pc + 3) ls (vr b :: st) ws c sl Z) : VB g Y lo pc ls (vr a :: st) ws c sl Z := by
  intro p e s mid args below meth cc H locs la hF hE hb hz hP hS hL
  obtain ⟨q, ⟨hc, hc2, hn, hin, -, -⟩, hj, hlk⟩ := hf
  subst ha
  have hq : (wb g lo ws)[j0]? = some (g.2.2.2.1 (lo + j0), .inr (ci, fs)) := by rw [wb_get, he]; rfl
  have h3 := h p e s mid args below meth cc H locs la hF hE hb hz hP hS hL
  rw [List.map_cons] at h3
  rw [List.map_cons, tr_r g (k := lo + j0) (by omega)]
  exact va_get hF.1.1 hF.1.2.1 hF.1.2.2.2.2.2.1 hin hF.1.2.2.2.2.1 hE.1 hP j0 hq hc j hj (hF.1.AW hlk) (fun x hx => hx) (v := tr g (vr b)) hv hd h3
theorem B_iast (hg : GB g) {a j0 N : Nat} {i x : Int32} {f : Nat → Int32} {ws' : List va_E} (hw : lo + ws.length < 400) (h0 : 0 < lo) (hd : decode (yC Y) pc = .ok (.iastore, 1)) (ha : lo + j0 = a) (he : ws[j0]? = some (.inl (g.2.2.1 0, N, .inl f))) (hin : inb i N) (hws : ws.set j0 (.inl (g.2.2.1 0, N, .inl (upd f (ix i) x))) = ws') (h : VB g Y lo (pc + 1) ls st ws' c sl Z) : VB g Y lo pc ls (vi x :: vi i :: vr a :: st) ws c sl Z := by
  intro p e s mid args below meth cc H locs la hF hE hb hz hP hS hL
  subst ha; subst hws
  have hq : (wb g lo ws)[j0]? = some (g.2.2.2.1 (lo + j0), .inl (g.2.2.1 0, N, .inl f)) := by rw [wb_get, he]; rfl
  rw [List.map_cons, List.map_cons, List.map_cons, tr_r g (k := lo + j0) (by omega)]
  refine va_iast hF.1.1 hF.1.2.1 hE.1 hP (wb_D hg hw) hS j0 0 hq rfl hin hd (fun H1 locs1 hP1 _ hS1 => ?_)
  rw [wb_set] at hP1
  exact h p e s mid args below meth cc H1 locs1 la hF hE hb (by rw [List.length_set]; exact hz) hP1 hS1 hL
theorem B_aast (hg : GB g) {a j0 jk t0 ci N v : Nat} {i : Int32} {f : Nat → Option Nat} {r : vw_C} {vs : List Value} {ws' : List va_E} (hw : lo + ws.length < 400) (h0 : 0 < lo) (hd : decode (yC Y) pc = .ok (.aastore, 1)) (ha : lo + j0 = a) (hv : lo + jk = v) (he : ws[j0]? = some (.inl (g.2.2.1 t0, N, .inr (.inr (.inr (.inr f)))))) (ht : (tysG g)[t0]? = some (g.2.2.1 t0, .object r.1)) (hvv : ws[jk]? = some (.inr (ci, vs))) (hc : classes[ci]? = some r) (hin : inb i N)
    (hws : ws.set j0 (.inl (g.2.2.1 t0, N, .inr (.inr (.inr (.inr (va_up f (ix i) (some (g.2.2.2.1 v)))))))) = ws') (h : VB g Y lo (pc + 1) ls st ws' c sl Z) : VB g Y lo pc ls (vr v :: vi i :: vr a :: st) ws c sl Z := by
  intro p e s mid args below meth cc H locs la hF hE hb hz hP hS hL
  subst ha; subst hv; subst hws
  have hq : (wb g lo ws)[j0]? = some (g.2.2.2.1 (lo + j0), .inl (g.2.2.1 t0, N, .inr (.inr (.inr (.inr f))))) := by rw [wb_get, he]; rfl
  have hk : (wb g lo ws)[jk]? = some (g.2.2.2.1 (lo + jk), .inr (ci, vs)) := by rw [wb_get, hvv]; rfl
  rw [List.map_cons, List.map_cons, List.map_cons, tr_r g (k := lo + j0) (by omega), tr_r g (k := lo + jk) (by omega)]
  refine va_astq hF.1.1 hF.1.2.1 hE.1 hP (wb_D hg hw) hS j0 t0 jk ci hq ht hk hc hin hd (fun H1 locs1 hP1 _ hS1 => ?_)
  rw [wb_set] at hP1
  exact h p e s mid args below meth cc H1 locs1 la hF hE hb (by rw [List.length_set]; exact hz) hP1 hS1 hL
/-- the same cells, told otherwise -/
theorem B_conv {ws' : List va_E} (hl : ws'.length = ws.length) (he : ∀ (k : Nat) (x x' : va_E), ws[k]? = some x → ws'[k]? = some x' → ∀ (a : Nat) (H : Heap), va_at g.2.1 classes (a, x) H → va_at g.2.1 classes (a, x') H) (h : VB g Y lo pc ls st ws' c sl Z) : VB g Y lo pc ls st ws c sl Z := by
  intro p e s mid args below meth cc H locs la hF hE hb hz hP hS hL
  refine h p e s mid args below meth cc H locs la hF hE hb (by rw [hl]; exact hz) (fun k q hk => ?_) hS hL
  obtain ⟨a1, a2, a3⟩ := wb_key hk
  have hx : ws[k]? = some (ws[k]'(by omega)) := List.getElem?_eq_getElem (by omega)
  have e : q = (g.2.2.2.1 (lo + k), q.2) := by rw [← a2]
  rw [e]
  exact he k _ q.2 hx a3 _ _ (hP k _ (by rw [wb_get, hx]; rfl))
theorem B_max {x y : Int32} {idx : Nat} (hd : decode (yC Y) pc = .ok (.invokestatic idx, 3)) (hw : IM (yO Y) idx Lib.Math.max.name Lib.Math.max.code 2) (hR : (1 ≤ Z.1.frames ∧ 21 ≤ Z.1.locals) ∧ c ≤ Z.1.cells ∧ sl ≤ Z.1.slots) (hst : catS st ≤ 8) (h : VB g Y lo (pc + 3) ls (vi (jmax x y) :: st) ws c sl Z) : VB g Y lo pc ls (vi y :: vi x :: st) ws c sl Z := by
  intro p e s mid args below meth cc H locs la hF hE hb hz hP hS hL
  exact va_mmax hF.1.1 hF.1.2.1 (hF.1.2.2.2.1.trans hL.1.symm) hF.1.2.2.2.2.1 (hF.1.AW hw.1) (hF.1.AW hw.2.1) (hF.1.AW hw.2.2.1) (hF.1.AW hw.2.2.2) hR.1.1 (by rw [catS_eq]; have := hR.1.2; omega) hR.2.1 hR.2.2 hd (h p e s mid args below meth cc H locs la hF hE hb hz hP hS hL)
theorem B_obj0 {a idx : Nat} (ha : a ≠ 0) (hd : decode (yC Y) pc = .ok (.invokespecial idx, 3)) (hl : Cond.methodLink (yO Y) idx Lib.objectInit ∈ AW) (hi : Cond.instanceMethod Lib.objectInit ∈ AW) (hc : Cond.code Lib.objectInit ⟨#[0xb1]⟩ 1 none ∈ AW) (hf : 1 ≤ Z.1.frames) (hlo : catS st + 12 ≤ Z.1.locals) (h : VB g Y lo (pc + 3) ls st ws c sl Z) : VB g Y lo pc ls (vr a :: st) ws c sl Z := by
  intro p e s mid args below meth cc H locs la hF hE hb hz hP hS hL
  have h3 := h p e s mid args below meth cc H locs la hF hE hb hz hP hS hL
  rw [List.map_cons, tr_r g ha]
  refine W.objInit hF.1.1 hF.1.2.1 hF.1.2.2.2.2.1 (hF.1.AW hl) (hF.1.AW hi) (hF.1.AW hc) rfl (hL.1.trans hF.1.2.2.2.1.symm) rfl hd hf ?_ h3
  rw [catS_eq]
  show 2 * 0 + catS st + 12 ≤ Z.1.locals
  omega
end BROWS
/-! contracts of the constructors -/
section BCALLS
def rmB (Y : MI) (kc ks : Nat) : Room := { frames := yF Y, cells := kc, slots := ks, locals := yQ Y }
def QB (g : GE) (q : Nat) (ws' : List va_E) : Array Value → State → Outcome → State → Prop := fun _ st oc t => oc = .returned none ∧ va_P g.2.1 classes (wb g q ws') t.heap ∧ va_F (AB g q) st t
def PcB (g : GE) (q : Nat) (as : List AV) (ws : List va_E) : Array Value → State → Prop := va_Pc (as.map (tr g)) (fun U => KE g U ∧ va_P g.2.1 classes (wb g q ws) U.heap ∧ U.heap.size = g.2.2.2.1 q + ws.length)
/-- with these arguments, the world of the places from q on being ws, the method makes kc cells of ks slots, and leaves ws' -/
def EvB (g : GE) (Y : MI) (q : Nat) (as : List AV) (ws ws' : List va_E) (kc ks : Nat) : Prop :=
  Met g.1 (yN Y) (wsM Y) (rmB Y kc ks) (PcB g q as ws) (QB g q ws') kc ks (AB g q)
def PMB (g : GE) (Y : MI) (q : Nat) (ws' : List va_E) (kc ks : Nat) : PostB := (rmB Y kc ks, fun below args s => MQ below (QB g q ws') args s kc ks (AB g q))
theorem EvB_of {g : GE} {Y : MI} {q : Nat} {as : List AV} {ws ws' : List va_E} {kc ks : Nat} {ls : List (Option AV)} (hg : GB g) (hq : q + ws.length < 400) (k : Nat) (hy : plainName (yN Y).cls = true) (ho : yO Y = (yN Y).cls) (hn : (argL as).length ≤ yL Y) (hls : argL as ++ List.replicate k none = ls) (hV : VB g Y q 0 ls [] ws 0 0 (PMB g Y q ws' kc ks)) : EvB g Y q as ws ws' kc ks := by
  refine Met.ofW (cc := yC Y) (maxL := yL Y) (ret := yR Y) hy rfl ?_
  intro p e s mid args below meth c s₁ B hml hv
  obtain ⟨rfl, hE, hP, hz⟩ := hv
  have hts := atoms_spec (ws := wsM Y) B.pre
  have hown : s.vm.findClass (yO Y) = some mid.cls := by rw [ho]; exact findClass_of_methodNamed B.named
  rw [lg_entry_eq]
  have hn2 : (lg_sl (as.map (tr g))).length ≤ yL Y := by rw [argL_len]; exact hn
  obtain ⟨l1, l2, l3⟩ := lv_entry (as.map (tr g)) hn2
  refine hV p e s mid _ below meth c s.heap [] _ ⟨⟨B.exec, B.bytes, B.returns, hml, hown, fun w hw => hts w (List.mem_cons_of_mem _ hw), B.notSynchronized⟩, (name_of_methodNamed B.named B.method).1⟩ hE (by rw [hz]; omega) (by rw [hz]; rfl) hP va_S.rf ⟨l1, l2, fun i v h => ?_⟩
  subst hls
  refine l3 (i, tr g v) ?_
  rcases Nat.lt_or_ge i (argL as).length with q | q
  · rw [List.getElem?_append_left q] at h
    have := argL_in g as 0 i v h
    rwa [Nat.zero_add] at this
  · rw [List.getElem?_append_right q] at h
    have := List.mem_of_getElem? h
    have := List.eq_of_mem_replicate this
    simp at this
theorem blindB (g : GE) (q : Nat) (as : List AV) (ws : List va_E) : FrameBlind (PcB g q as ws) := by
  intro a U gg mk h
  obtain ⟨h1, h2, h3, h4⟩ := h
  exact ⟨h1, h2.same rfl, h3, h4⟩
section BC
variable {g : GE} {Y : MI} {lo pc : Nat} {ls : List (Option AV)} {st : List AV} {ws : List va_E} {c sl : Nat} {Z : PostB}
theorem B_ret {ws' : List va_E} (hd : decode (yC Y) pc = .ok (.return_, 1)) (hr : yR Y = none) (hw : ws = ws') : VB g Y lo pc ls [] ws c sl (PMB g Y lo ws' c sl) := by
  intro p e s mid args below meth cc H locs la hF hE hb hz hP hS hL
  subst hw
  have hlocks := hF.1.2.2.2.2.2.2
  exact W.vret hF.1.1 hF.1.2.1 (hF.1.2.2.1.trans hr) (fun t ht hW => ⟨rfl, by rw [ht]; exact hP, hS.F ht⟩) hS.2.2 hd
/-- behind a call that worked on the last places -/
theorem W_callB (hg : GB g) {p : Program} {e : Env} {R : Room} {s : State} {mid : MethodId} {args : Array Value} {below : List Frame} {meth : Method} {cc : Code} {H : Heap} {locs : List Loc} {la : Array Slot} {st0 : List Value} {a : Array Value} {pre wc wc' : List va_E} {c sl kc ks : Nat} {Q : State → Prop} (hw : lo + (pre ++ wc).length < 400) (hb : g.2.2.2.1 lo ≤ s.heap.size)
    (hz : H.size = g.2.2.2.1 lo + (pre ++ wc).length) (hP : va_P g.2.1 classes (wb g lo (pre ++ wc)) H) (hS : va_S (AB g lo) s.heap H locs)
    (hr : va_Run p g.1 e R s mid args below meth cc H locs c sl kc ks (F0 mid pc la st0) (st.map (tr g)) (QB g (lo + pre.length) wc' a) (AB g (lo + pre.length)))
    (kk : ∀ (H1 : Heap) (locs1 : List Loc), va_P g.2.1 classes (wb g lo (pre ++ wc')) H1 → va_S (AB g lo) s.heap H1 locs1 → W p g.1 e R s mid args below meth cc H1 locs1 (c + kc) (sl + ks) Q (F0 mid (pc + 3) la (st.map (tr g)))) : W p g.1 e R s mid args below meth cc H locs c sl Q (F0 mid pc la st0) := by
  intro T hT X
  obtain ⟨v, st₀, t, T', L, h0, X', hL, e1, e2, ⟨hv, hp, hz1, hk⟩, stp⟩ := hr T hT X
  rw [h0] at hz1 hk
  have hAB : ∀ x, AB g (lo + pre.length) x → AB g lo x := by
    intro x hx
    have hx : g.2.2.2.1 (lo + pre.length) ≤ x := hx
    show g.2.2.2.1 lo ≤ x
    rw [List.length_append] at hw
    rw [hg.add (by omega)] at hx
    omega
  rw [wb_app] at hP
  have hpre : va_P g.2.1 classes (wb g lo pre) T'.heap := by
    intro k q hq
    have hq2 := hq
    obtain ⟨a1, a2, -⟩ := wb_key hq
    rw [List.length_append] at hw
    have hin : (wb g lo pre ++ wb g (lo + pre.length) wc)[k]? = some q := by
      rw [List.getElem?_append_left (List.getElem?_eq_some_iff.mp hq2).1]
      exact hq2
    refine (hP k q hin).kept ?_
    rw [e1]
    refine hk q.1 (hP k q hin).lt (fun z => ?_)
    have z : g.2.2.2.1 (lo + pre.length) ≤ q.1 := z
    rw [a2, hg.add (by omega), hg.add (by omega)] at z
    omega
  obtain ⟨t2, a1, b1⟩ := kk T'.heap (locs ++ L) (by
      rw [wb_app]
      exact va_P.app hpre (by rw [e1]; exact hp))
    ⟨Nat.le_trans hS.1 (by rw [e1]; exact hz1), fun q h1 h2 => by
      rw [e1, hk q (Nat.lt_of_lt_of_le h1 hS.1) (fun z => h2 (hAB q z))]
      exact hS.2.1 q h1 h2, fun q hq => by
      rcases List.mem_append.mp hq with h | h
      · exact hS.2.2 q h
      · exact hAB _ (hL q h)⟩ T' rfl X'
  cases hv
  exact ⟨t2, stp t2 a1, b1⟩
def IVI (own : String) (idx : Nat) (Q : MI) (n : Nat) : Prop := cdM Q ∈ AW ∧ Cond.methodLink own idx (yN Q) ∈ AW ∧ Cond.instanceMethod (yN Q) ∈ AW ∧ Cond.initialized (yN Q).cls ∈ AW ∧ (yN Q).name = "<init>" ∧ yR Q = none ∧ nmOK Q n
def IVIN (own : String) (idx : Nat) (Q : MI) (n : Nat) (host : String) : Prop := cdM Q ∈ AW ∧ (own, idx, yN Q, host) ∈ nestL ∧ Cond.instanceMethod (yN Q) ∈ AW ∧ Cond.initialized (yN Q).cls ∈ AW ∧ (yN Q).name = "<init>" ∧ yR Q = none ∧ nmOK Q n
def RMB (Z : PostB) (Q : MI) (c sl kc ks : Nat) : Prop := (yF Q + 1 ≤ Z.1.frames ∧ 8 + (yL Q + 11) + yQ Q ≤ Z.1.locals) ∧ c + kc ≤ Z.1.cells ∧ sl + ks ≤ Z.1.slots
theorem B_invI (hg : GB g) {Q : MI} {as S : List AV} {a n idx kc ks : Nat} {pre wc wc' ws' : List va_E} (hpre : pre ++ wc = ws) (hw : lo + ws.length < 400) (h0 : 0 < lo) (hd : decode (yC Y) pc = .ok (.invokespecial idx, 3)) (hev : EvB g Q (lo + pre.length) (vr a :: as) wc wc' kc ks) (hi : IVI (yO Y) idx Q n) (hR : RMB Z Q c sl kc ks) (hn : as.length = n) (ha : a ≠ 0)
    (hst : catS st ≤ 8) (hss : as.reverse ++ vr a :: st = S) (hlen : wc'.length = wc.length + kc) (hws : pre ++ wc' = ws') (h : VB g Y lo (pc + 3) ls st ws' (c + kc) (sl + ks) Z) : VB g Y lo pc ls S ws c sl Z := by
  intro p e s mid args below meth cc H locs la hF hE hb hz hP hS hL T hT X
  subst hpre; subst hws; subst hss
  have hsz := szB hg hw X hT hb hz hP hS
  obtain ⟨w1, w2, w3, w4, w5, w9, w6, w7, w8⟩ := hi
  have hrest : (as.reverse ++ vr a :: st).map (tr g) = (as.map (tr g)).reverse ++ .ref (g.2.2.2.1 a) :: st.map (tr g) := by
    rw [stk_eq, List.map_cons, tr_r g ha]
  have hmap : (vr a :: as).map (tr g) = .ref (g.2.2.2.1 a) :: as.map (tr g) := by rw [List.map_cons, tr_r g ha]
  have hP2 : va_P g.2.1 classes (wb g (lo + pre.length) wc) H := by
    have hP' := hP
    rw [wb_app] at hP'
    intro k q hq
    refine hP' ((wb g lo pre).length + k) q ?_
    rw [List.getElem?_append_right (by omega), Nat.add_sub_cancel_left]
    exact hq
  rw [hrest]
  refine W_callB hg hw hb hsz hP hS (va_runI (As := as.map (tr g)) (rest := st.map (tr g)) ⟨hF.1.1, hF.1.2.1, hF.1.2.2.2.1, hF.1.2.2.2.2.1, hF.1.2.2.2.2.2.1⟩ hev (cwI n hF.1.2.2.2.2.2.1 (goodM w1) (show wsM Q = Cond.code (yN Q) (yC Q) (yL Q) none :: AW by rw [← w9]; rfl) rfl rfl (hF.1.AW w4) (hF.1.AW w2) (hF.1.AW w3) w5 ⟨w6, w7, w8⟩ hR.1) ⟨blindB g _ _ _, fun U hU hW => ⟨by rw [hmap], hE.warm hW, by rw [hU]; exact hP2, ?_⟩⟩ rfl (by rw [List.length_map]; exact hn) hL.1 rfl (lv_room (by rw [catS_eq]; exact hst)) hd hR.2) (fun H1 locs1 hP1 hS1 => ?_) T hT X
  · rw [hU, hsz, List.length_append] 
    rw [List.length_append] at hw
    rw [hg.add (by omega)]
    omega
  · exact h p e s mid args below meth cc H1 locs1 la hF hE hb (by rw [List.length_append] at hz ⊢; omega) hP1 hS1 hL
theorem B_invIN (hg : GB g) {Q : MI} {as S : List AV} {a n idx kc ks : Nat} {host : String} {pre wc wc' ws' : List va_E} (hpre : pre ++ wc = ws) (hw : lo + ws.length < 400) (h0 : 0 < lo) (hd : decode (yC Y) pc = .ok (.invokespecial idx, 3)) (hev : EvB g Q (lo + pre.length) (vr a :: as) wc wc' kc ks) (hi : IVIN (yO Y) idx Q n host) (hR : RMB Z Q c sl kc ks) (hn : as.length = n) (ha : a ≠ 0)
    (hst : catS st ≤ 8) (hss : as.reverse ++ vr a :: st = S) (hlen : wc'.length = wc.length + kc) (hws : pre ++ wc' = ws') (h : VB g Y lo (pc + 3) ls st ws' (c + kc) (sl + ks) Z) : VB g Y lo pc ls S ws c sl Z := by
  intro p e s mid args below meth cc H locs la hF hE hb hz hP hS hL T hT X
  subst hpre; subst hws; subst hss
  have hsz := szB hg hw X hT hb hz hP hS
  obtain ⟨w1, w2, w3, w4, w5, w9, w6, w7, w8⟩ := hi
  have hrest : (as.reverse ++ vr a :: st).map (tr g) = (as.map (tr g)).reverse ++ .ref (g.2.2.2.1 a) :: st.map (tr g) := by
    rw [stk_eq, List.map_cons, tr_r g ha]
  have hmap : (vr a :: as).map (tr g) = .ref (g.2.2.2.1 a) :: as.map (tr g) := by rw [List.map_cons, tr_r g ha]
  have hP2 : va_P g.2.1 classes (wb g (lo + pre.length) wc) H := by
    have hP' := hP
    rw [wb_app] at hP'
    intro k q hq
    refine hP' ((wb g lo pre).length + k) q ?_
    rw [List.getElem?_append_right (by omega), Nat.add_sub_cancel_left]
    exact hq
  rw [hrest]
  refine W_callB hg hw hb hsz hP hS (va_runIN (As := as.map (tr g)) (rest := st.map (tr g)) (host := host) ⟨hF.1.1, hF.1.2.1, hF.1.2.2.2.1, hF.1.2.2.2.2.1, hF.1.2.2.2.2.2.1⟩ hev ⟨va_cnB n hF.1.2.2.2.2.2.1 (goodM w1) (show wsM Q = Cond.code (yN Q) (yC Q) (yL Q) none :: AW by rw [← w9]; rfl) rfl rfl (hE.2.1 _ w2) (hF.1.AW w4) ⟨w6, w7, w8⟩ hR.1, w5, hF.1.AW w3⟩ ⟨blindB g _ _ _, fun U hU hW => ⟨by rw [hmap], hE.warm hW, by rw [hU]; exact hP2, ?_⟩⟩ rfl (by rw [List.length_map]; exact hn) hL.1 rfl (lv_room (by rw [catS_eq]; exact hst)) hd hR.2) (fun H1 locs1 hP1 hS1 => ?_) T hT X
  · rw [hU, hsz, List.length_append]
    rw [List.length_append] at hw
    rw [hg.add (by omega)]
    omega
  · exact h p e s mid args below meth cc H1 locs1 la hF hE hb (by rw [List.length_append] at hz ⊢; omega) hP1 hS1 hL
theorem B_invV (hg : GB g) {Q : MI} {as S : List AV} {j0 ci n idx ks : Nat} {fs : List Value} {q : vw_C} {wc' : List va_E} (hw : lo + ws.length < 400) (h0 : 0 < lo) (hd : decode (yC Y) pc = .ok (.invokevirtual idx, 3)) (hev : EvB g Q lo (vr (lo + j0) :: as) ws wc' 0 ks) (hi : IV (yO Y) idx Q n) (hR : RMB Z Q c sl 0 ks) (hn : as.length = n)
    (he : ws[j0]? = some (.inr (ci, fs))) (hc : CF ci q) (hC : q.1 = (yN Q).cls) (hrt : yR Q = none) (hst : catS st ≤ 8) (hss : as.reverse ++ vr (lo + j0) :: st = S) (hlen : wc'.length = ws.length) (h : VB g Y lo (pc + 3) ls st wc' (c + 0) (sl + ks) Z) : VB g Y lo pc ls S ws c sl Z := by
  intro p e s mid args below meth cc H locs la hF hE hb hz hP hS hL T hT X
  subst hss
  have hsz := szB hg hw X hT hb hz hP hS
  obtain ⟨w1, w2, w3, w4, w5, w6, w7, w8⟩ := hi
  have hq : (wb g lo ws)[j0]? = some (g.2.2.2.1 (lo + j0), .inr (ci, fs)) := by rw [wb_get, he]; rfl
  obtain ⟨rr, hrr, cell, hcell, hst1, hst2, -⟩ := hP j0 _ hq
  have hrq : rr = q := Option.some.inj (hrr.symm.trans hc.1)
  subst hrq
  have hkn := (hE.1.1 ci rr hc.1).2
  have hrest : (as.reverse ++ vr (lo + j0) :: st).map (tr g) = (as.map (tr g)).reverse ++ .ref (g.2.2.2.1 (lo + j0)) :: st.map (tr g) := by
    rw [stk_eq, List.map_cons, tr_r g (by omega)]
  have hmap : (vr (lo + j0) :: as).map (tr g) = .ref (g.2.2.2.1 (lo + j0)) :: as.map (tr g) := by rw [List.map_cons, tr_r g (by omega)]
  have hgood : GoodIn AW (wsV (yO Y) idx (yN Q).cls (yN Q) (wsM Q)) := by
    refine goodIn_app2 (fun w hw => ?_) (goodM w1)
    have hwA : w ∈ AW := by
      simp only [List.mem_cons, List.not_mem_nil, or_false] at hw
      rcases hw with rfl | rfl | rfl | rfl <;> assumption
    exact ⟨hwA, good_of_word (AW_ok hwA).2⟩
  rw [hrest]
  refine W_callB hg (pre := []) (wc := ws) (wc' := wc') hw hb hsz hP hS (va_runV (As := as.map (tr g)) (rest := st.map (tr g)) (C := (yN Q).cls) ⟨hF.1.1, hF.1.2.1, hF.1.2.2.2.1, hF.1.2.2.2.2.1, hF.1.2.2.2.2.2.1⟩ hev (cwV n hF.1.2.2.2.2.2.1 hgood rfl rfl rfl ⟨rfl, w6, w7, w8⟩ hR.1) ⟨blindB g _ _ _, ⟨cell, hcell, ?_, ?_⟩, fun U hU hW => ⟨by rw [hmap], hE.warm hW, by rw [hU]; exact hP, by rw [hU]; exact hsz⟩⟩ rfl (by rw [List.length_map]; exact hn) hL.1 rfl (lv_room (by rw [catS_eq]; exact hst)) hd hR.2) (fun H1 locs1 hP1 hS1 => ?_) T hT X
  · rw [hst2]; rfl
  · rw [← hC, hst1]; exact hkn.1
  · exact h p e s mid args below meth cc H1 locs1 la hF hE hb (by rw [hlen]; exact hz) hP1 hS1 hL
theorem B_invS (hg : GB g) {Q : MI} {as S : List AV} {n idx ks : Nat} {wc' : List va_E} (hw : lo + ws.length < 400) (hd : decode (yC Y) pc = .ok (.invokestatic idx, 3)) (hev : EvB g Q lo as ws wc' 0 ks) (hi : IS (yO Y) idx Q n) (hR : RMB Z Q c sl 0 ks) (hn : as.length = n)
    (hst : catS st ≤ 8) (hss : as.reverse ++ st = S) (hlen : wc'.length = ws.length) (h : VB g Y lo (pc + 3) ls st wc' (c + 0) (sl + ks) Z) : VB g Y lo pc ls S ws c sl Z := by
  intro p e s mid args below meth cc H locs la hF hE hb hz hP hS hL T hT X
  subst hss
  have hsz := szB hg hw X hT hb hz hP hS
  obtain ⟨w1, w2, w3, w5, w6, w7, w8⟩ := hi
  rw [stk_eq]
  refine W_callB hg (pre := []) (wc := ws) (wc' := wc') hw hb hsz hP hS (va_runS (As := as.map (tr g)) (rest := st.map (tr g)) ⟨hF.1.1, hF.1.2.1, hF.1.2.2.2.1, hF.1.2.2.2.2.1, hF.1.2.2.2.2.2.1⟩ hev ⟨callB_of n hF.1.2.2.2.2.2.1 (goodM w1) rfl rfl rfl (hF.1.AW w5) (hF.1.AW w2) ⟨w6, w7, w8⟩ hR.1, hF.1.AW w3⟩ ⟨blindB g _ _ _, fun U hU hW => ⟨rfl, hE.warm hW, by rw [hU]; exact hP, by rw [hU]; exact hsz⟩⟩ rfl (by rw [List.length_map]; exact hn) hL.1 rfl (lv_room (by rw [catS_eq]; exact hst)) hd hR.2) (fun H1 locs1 hP1 hS1 => ?_) T hT X
  exact h p e s mid args below meth cc H1 locs1 la hF hE hb (by rw [hlen]; exact hz) hP1 hS1 hL
end BC
end BCALLS
/-! rows as the constructors use them -/
section BUSE
variable {g : GE} {Y : MI} {lo pc : Nat} {ls : List (Option AV)} {st : List AV} {ws : List va_E} {c sl : Nat} {Z : PostB}
theorem B_putR (hg : GB g) {a b ci j j0 idx : Nat} {ty : FieldType} {fs : List Value} {ws' : List va_E} (hw : lo + ws.length < 400) (h0 : 0 < lo) (hd : decode (yC Y) pc = .ok (.putfield idx, 3)) (hf : FPB Y idx ci j ty) (ha : lo + j0 = a) (hb : b ≠ 0) (he : ws[j0]? = some (.inr (ci, fs))) (hr : ∀ x : Nat, narrow ty (.ref x) = .ref x ∧ fits ty (.ref x) = true) (hl : j < fs.length) (hws : ws.set j0 (.inr (ci, fs.set j (.ref (g.2.2.2.1 b)))) = ws')
    (h : VB g Y lo (pc + 3) ls st ws' c sl Z) : VB g Y lo pc ls (vr b :: vr a :: st) ws c sl Z :=
  B_put hg (v := vr b) hw h0 hd hf ha he (by rw [tr_r g hb]; exact (hr _).1) (by rw [tr_r g hb]; exact (hr _).2) hl (by rw [tr_r g hb]; exact hws) h
theorem B_putI (hg : GB g) {a ci j j0 idx : Nat} {x : Int32} {fs : List Value} {ws' : List va_E} (hw : lo + ws.length < 400) (h0 : 0 < lo) (hd : decode (yC Y) pc = .ok (.putfield idx, 3)) (hf : FPB Y idx ci j .int) (ha : lo + j0 = a) (he : ws[j0]? = some (.inr (ci, fs))) (hl : j < fs.length) (hws : ws.set j0 (.inr (ci, fs.set j (.int x))) = ws')
    (h : VB g Y lo (pc + 3) ls st ws' c sl Z) : VB g Y lo pc ls (vi x :: vr a :: st) ws c sl Z :=
  B_put hg (v := vi x) hw h0 hd hf ha he rfl rfl hl hws h
theorem B_get (hg : GB g) {a b ci j j0 idx : Nat} {fs : List Value} (h0 : 0 < lo) (hd : decode (yC Y) pc = .ok (.getfield idx, 3)) (hf : FL (yO Y) idx ci j) (ha : lo + j0 = a) (hb : b ≠ 0) (he : ws[j0]? = some (.inr (ci, fs))) (hv : fs[j]? = some (.ref (g.2.2.2.1 b))) (h : VB g Y lo (pc + 3) ls (vr b :: st) ws c sl Z) : VB g Y lo pc ls (vr a :: st) ws c sl Z :=
  B_getR hg h0 hd hf ha he (by rw [tr_r g hb]; exact hv) h
theorem B_conv1 {j0 : Nat} {x x' : va_E} {ws' : List va_E} (he : ws[j0]? = some x) (hx : ∀ (a : Nat) (H : Heap), va_at g.2.1 classes (a, x) H → va_at g.2.1 classes (a, x') H) (hws : ws.set j0 x' = ws') (h : VB g Y lo pc ls st ws' c sl Z) : VB g Y lo pc ls st ws c sl Z := by
  subst hws
  refine B_conv (ws' := ws.set j0 x') (List.length_set ..) (fun k y y' h1 h2 a H hy => ?_) h
  by_cases e : k = j0
  · subst e
    rw [he] at h1
    rw [List.getElem?_set_self (List.getElem?_eq_some_iff.mp he).1] at h2
    rw [← Option.some.inj h2]
    refine hx a H ?_
    rw [Option.some.inj h1]
    exact hy
  · rw [List.getElem?_set_ne (Ne.symm e), h1] at h2
    rw [← Option.some.inj h2]
    exact hy
theorem cv_i {N : Nat} {k : ClassId} {f f' : Nat → Int32} (h : ∀ i, i < N → f i = f' i) (a : Nat) (H : Heap) (q : va_at g.2.1 classes (a, .inl (k, N, .inl f)) H) : va_at g.2.1 classes (a, .inl (k, N, .inl f')) H := by
  have q : H[a]? = some (vp_cell k (N, .inl f)) := q
  show H[a]? = some (vp_cell k (N, .inl f'))
  rw [q, vp_cell_i, vp_cell_i]
  exact congrArg some (arrV_ext_lt (fun i hi => by rw [h i hi]))
theorem cv_q {N : Nat} {k : ClassId} {f f' : Nat → Option Nat} (h : ∀ i, i < N → f i = f' i) (a : Nat) (H : Heap) (q : va_at g.2.1 classes (a, .inl (k, N, .inr (.inr (.inr (.inr f))))) H) : va_at g.2.1 classes (a, .inl (k, N, .inr (.inr (.inr (.inr f'))))) H := by
  have q : H[a]? = some (vp_cell k (N, .inr (.inr (.inr (.inr f))))) := q
  show H[a]? = some (vp_cell k (N, .inr (.inr (.inr (.inr f')))))
  rw [q, vp_cell_q, vp_cell_q]
  exact congrArg some (arrV_ext_lt (fun i hi => by rw [h i hi]))
theorem B_ret2 {ws' : List va_E} {kc ks : Nat} (hd : decode (yC Y) pc = .ok (.return_, 1)) (hr : yR Y = none) (hw : ws = ws') (hc : c = kc) (hs : sl = ks) : VB g Y lo pc ls [] ws c sl (PMB g Y lo ws' kc ks) := by
  subst hc; subst hs
  exact B_ret hd hr hw
end BUSE
theorem B_as {g : GE} {Y : MI} {lo pc : Nat} {ls : List (Option AV)} {st st' : List AV} {ws ws' : List va_E} {c c' sl sl' : Nat} {Z : PostB} (h1 : st = st') (h2 : ws = ws') (h3 : c = c') (h4 : sl = sl') (k : VB g Y lo pc ls st' ws' c' sl' Z) : VB g Y lo pc ls st ws c sl Z := by
  subst h1; subst h2; subst h3; subst h4
  exact k
