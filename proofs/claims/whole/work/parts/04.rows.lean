/-! rows of V, one for each instruction -/
def lset : List (Option AV) → Nat → AV → List (Option AV)
  | [], _, _ => []
  | _ :: t, 0, v => some v :: (if isL v = true then (match t with | [] => [] | _ :: t2 => none :: t2) else t)
  | o :: t, i + 1, v => (if i = 0 then (match o with | some u => if isL u = true then none else some u | none => none) else o) :: lset t i v
theorem lset_at : ∀ (ls : List (Option AV)) (i : Nat) (v : AV) (j : Nat) (w : AV), (lset ls i v)[j]? = some (some w) → (j = i ∧ w = v) ∨ (ls[j]? = some (some w) ∧ j ≠ i ∧ (j + 1 = i → isL w = false) ∧ (isL v = true → j ≠ i + 1))
  | [], i, v, j, w, h => by simp [lset] at h
  | o :: t, 0, v, 0, w, h => by
    simp [lset] at h
    exact Or.inl ⟨rfl, h.symm⟩
  | o :: t, 0, v, j + 1, w, h => by
    refine Or.inr ?_
    unfold lset at h
    rw [List.getElem?_cons_succ] at h
    rw [List.getElem?_cons_succ]
    by_cases hv : isL v = true
    · rw [if_pos hv] at h
      cases t with
      | nil => simp at h
      | cons a t2 =>
        cases j with
        | zero => simp at h
        | succ j =>
          rw [List.getElem?_cons_succ] at h
          exact ⟨by rw [List.getElem?_cons_succ]; exact h, by omega, by omega, by omega⟩
    · rw [if_neg hv] at h
      exact ⟨h, by omega, by omega, fun q => absurd q hv⟩
  | o :: t, i + 1, v, 0, w, h => by
    refine Or.inr ?_
    unfold lset at h
    rw [List.getElem?_cons_zero] at h
    rw [List.getElem?_cons_zero]
    by_cases hi : i = 0
    · rw [if_pos hi] at h
      cases o with
      | none => simp at h
      | some u =>
        simp only at h
        by_cases hu : isL u = true
        · rw [if_pos hu] at h; simp at h
        · rw [if_neg hu] at h
          simp at h
          subst h
          refine ⟨rfl, by omega, fun _ => by simpa using hu, fun _ => by omega⟩
    · rw [if_neg hi] at h
      exact ⟨h, by omega, by omega, by omega⟩
  | o :: t, i + 1, v, j + 1, w, h => by
    unfold lset at h
    rw [List.getElem?_cons_succ] at h
    rcases lset_at t i v j w h with ⟨h1, h2⟩ | ⟨h1, h2, h3, h4⟩
    · exact Or.inl ⟨by omega, h2⟩
    · exact Or.inr ⟨by rw [List.getElem?_cons_succ]; exact h1, by omega, fun q => h3 (by omega), fun q => by have := h4 q; omega⟩
def toLv (g : GE) : Nat → List (Option AV) → List (Nat × Value)
  | _, [] => []
  | i, none :: t => toLv g (i + 1) t
  | i, some v :: t => (i, tr g v) :: toLv g (i + 1) t
theorem toLv_mem (g : GE) : ∀ (ls : List (Option AV)) (o : Nat) (q : Nat × Value), q ∈ toLv g o ls → ∃ (j : Nat) (v : AV), q.1 = o + j ∧ ls[j]? = some (some v) ∧ q.2 = tr g v
  | [], o, q, h => by simp [toLv] at h
  | none :: t, o, q, h => by
    obtain ⟨j, v, h1, h2, h3⟩ := toLv_mem g t (o + 1) q h
    exact ⟨j + 1, v, by omega, by rw [List.getElem?_cons_succ]; exact h2, h3⟩
  | some u :: t, o, q, h => by
    rcases List.mem_cons.mp h with e | h
    · subst e; exact ⟨0, u, rfl, rfl, rfl⟩
    · obtain ⟨j, v, h1, h2, h3⟩ := toLv_mem g t (o + 1) q h
      exact ⟨j + 1, v, by omega, by rw [List.getElem?_cons_succ]; exact h2, h3⟩
theorem toLv_in (g : GE) : ∀ (ls : List (Option AV)) (o j : Nat) (v : AV), ls[j]? = some (some v) → (o + j, tr g v) ∈ toLv g o ls
  | [], o, j, v, h => by simp at h
  | none :: t, o, 0, v, h => by simp at h
  | none :: t, o, j + 1, v, h => by
    rw [List.getElem?_cons_succ] at h
    have := toLv_in g t (o + 1) j v h
    rw [show o + (j + 1) = o + 1 + j by omega]
    exact this
  | some u :: t, o, 0, v, h => by
    simp at h
    subst h
    exact List.mem_cons_self
  | some u :: t, o, j + 1, v, h => by
    rw [List.getElem?_cons_succ] at h
    have := toLv_in g t (o + 1) j v h
    rw [show o + (j + 1) = o + 1 + j by omega]
    exact List.mem_cons_of_mem _ this
theorem lhas.lv {g : GE} {la : Array Slot} {n : Nat} {ls : List (Option AV)} (h : lhas g la n ls) : lv_has la n (toLv g 0 ls) := by
  refine ⟨h.1, h.2.1, fun q hq => ?_⟩
  obtain ⟨j, v, h1, h2, h3⟩ := toLv_mem g ls 0 q hq
  rw [h3, h1, Nat.zero_add]
  exact h.2.2 j v h2
theorem lhas.set1 {g : GE} {la : Array Slot} {n i : Nat} {ls : List (Option AV)} {v : AV} (hc : isL v = false) (h : lv_has la n ((i, tr g v) :: (toLv g 0 ls).filter (fun q => !(q.1 == i) && !(q.1 + 1 == i && q.2.category == 2)))) : lhas g la n (lset ls i v) := by
  refine ⟨h.1, h.2.1, fun j w hw => ?_⟩
  rcases lset_at ls i v j w hw with ⟨rfl, rfl⟩ | ⟨h1, h2, h3, -⟩
  · exact h.2.2 (j, tr g w) List.mem_cons_self
  · refine h.2.2 (j, tr g w) (List.mem_cons_of_mem _ (List.mem_filter.mpr ⟨?_, ?_⟩))
    · have := toLv_in g ls 0 j w h1
      rwa [Nat.zero_add] at this
    · by_cases hj : j + 1 = i
      · simp [h2, hj, tr_cat, h3 hj]
      · simp [h2, hj]
theorem lhas.set2 {g : GE} {la : Array Slot} {n i : Nat} {ls : List (Option AV)} {v : AV} (hc : isL v = true) (h : lv_has la n ((i, tr g v) :: (toLv g 0 ls).filter (fun q => !(q.1 == i) && (!(q.1 == i + 1) && !(q.1 + 1 == i && q.2.category == 2))))) : lhas g la n (lset ls i v) := by
  refine ⟨h.1, h.2.1, fun j w hw => ?_⟩
  rcases lset_at ls i v j w hw with ⟨rfl, rfl⟩ | ⟨h1, h2, h3, h4⟩
  · exact h.2.2 (j, tr g w) List.mem_cons_self
  · refine h.2.2 (j, tr g w) (List.mem_cons_of_mem _ (List.mem_filter.mpr ⟨?_, ?_⟩))
    · have := toLv_in g ls 0 j w h1
      rwa [Nat.zero_add] at this
    · have h5 := h4 hc
      by_cases hj : j + 1 = i
      · simp [h2, hj, tr_cat, h3 hj, h5]
      · simp [h2, hj, h5]
/-- fewer locals -/
def LSub : List (Option AV) → List (Option AV) → Prop
  | [], _ => True
  | none :: a, [] => LSub a []
  | none :: a, _ :: b => LSub a b
  | some _ :: _, [] => False
  | some v :: a, w :: b => w = some v ∧ LSub a b
theorem LSub.at : ∀ (a b : List (Option AV)), LSub a b → ∀ (i : Nat) (v : AV), a[i]? = some (some v) → b[i]? = some (some v)
  | [], b, _, i, v, h => by simp at h
  | none :: a, [], hs, 0, v, h => by simp at h
  | none :: a, [], hs, i + 1, v, h => by
    rw [List.getElem?_cons_succ] at h
    have := LSub.at a [] hs i v h
    simp at this
  | none :: a, u :: b, hs, 0, v, h => by simp at h
  | none :: a, u :: b, hs, i + 1, v, h => by
    rw [List.getElem?_cons_succ] at h
    rw [List.getElem?_cons_succ]
    exact LSub.at a b hs i v h
  | some u :: a, [], hs, i, v, h => hs.elim
  | some u :: a, x :: b, hs, 0, v, h => by
    rw [List.getElem?_cons_zero] at h ⊢
    rw [hs.1]; exact h
  | some u :: a, x :: b, hs, i + 1, v, h => by
    rw [List.getElem?_cons_succ] at h
    rw [List.getElem?_cons_succ]
    exact LSub.at a b hs.2 i v h
def argL : List AV → List (Option AV)
  | [] => []
  | v :: t => if isL v = true then some v :: none :: argL t else some v :: argL t
theorem argL_len (g : GE) : ∀ as : List AV, (lg_sl (as.map (tr g))).length = (argL as).length
  | [] => rfl
  | v :: t => by
    have ih := argL_len g t
    unfold lg_sl at ih
    simp only [lg_sl, List.map_cons, List.flatMap_cons, List.length_append, argL, tr_cat]
    by_cases h : isL v = true
    · simp [h, ih]; omega
    · simp [h, ih]; omega
theorem argL_in (g : GE) : ∀ (as : List AV) (o i : Nat) (v : AV), (argL as)[i]? = some (some v) → (o + i, tr g v) ∈ lv_args o (as.map (tr g))
  | [], o, i, v, h => by simp [argL] at h
  | u :: t, o, i, v, h => by
    simp only [List.map_cons, lv_args, tr_cat]
    unfold argL at h
    by_cases hu : isL u = true
    · rw [if_pos hu] at h
      rw [if_pos hu, if_pos rfl]
      match i, h with
      | 0, h => simp at h; subst h; exact List.mem_cons_self
      | 1, h => simp at h
      | i + 2, h =>
        rw [List.getElem?_cons_succ, List.getElem?_cons_succ] at h
        have := argL_in g t (o + 2) i v h
        rw [show o + (i + 2) = o + 2 + i by omega]
        exact List.mem_cons_of_mem _ this
    · rw [if_neg hu] at h
      rw [if_neg hu, if_neg (by decide)]
      match i, h with
      | 0, h => simp at h; subst h; exact List.mem_cons_self
      | i + 1, h =>
        rw [List.getElem?_cons_succ] at h
        have := argL_in g t (o + 1) i v h
        rw [show o + (i + 1) = o + 1 + i by omega]
        exact List.mem_cons_of_mem _ this
theorem Ev_of {g : GE} {Y : MI} {as : List AV} {m m' : Mem} {r : Option AV} {ls : List (Option AV)} (k : Nat) (hy : plainName (yN Y).cls = true) (ho : yO Y = (yN Y).cls) (hn : (argL as).length ≤ yL Y) (hls : argL as ++ List.replicate k none = ls) (hV : V g Y 0 ls [] m (PM g Y r m')) : Ev g Y as m r m' := by
  intro hG
  refine Met.ofW (cc := yC Y) (maxL := yL Y) (ret := yR Y) hy rfl ?_
  intro p e s mid args below meth c s₁ B hml hv
  obtain ⟨rfl, hSE, hP⟩ := hv
  have hts := atoms_spec (ws := wsM Y) B.pre
  have hown : s.vm.findClass (yO Y) = some mid.cls := by rw [ho]; exact findClass_of_methodNamed B.named
  rw [lg_entry_eq]
  have hn2 : (lg_sl (as.map (tr g))).length ≤ yL Y := by rw [argL_len]; exact hn
  obtain ⟨l1, l2, l3⟩ := lv_entry (as.map (tr g)) hn2
  refine hV p e s mid _ below meth c s.heap [] _ hG ⟨B.exec, B.bytes, B.returns, hml, hown, fun w hw => hts w (List.mem_cons_of_mem _ hw), B.notSynchronized⟩ hSE hP va_S.rf ⟨l1, l2, fun i v h => ?_⟩
  subst hls
  refine l3 (i, tr g v) ?_
  rcases Nat.lt_or_ge i (argL as).length with q | q
  · rw [List.getElem?_append_left q] at h
    have := argL_in g as 0 i v h
    rwa [Nat.zero_add] at this
  · rw [List.getElem?_append_right q] at h
    have := List.mem_of_getElem? h
    have := List.eq_of_mem_replicate this
    simp at this
section ROWS
variable {g : GE} {Y : MI} {pc : Nat} {ls : List (Option AV)} {st : List AV} {m : Mem} {Z : Post}
theorem V_sub {ls' : List (Option AV)} (h : LSub ls' ls) (k : V g Y pc ls' st m Z) : V g Y pc ls st m Z := by
  intro p e s mid args below meth c H locs la hG hF hE hP hS hL
  exact k p e s mid args below meth c H locs la hG hF hE hP hS ⟨hL.1, hL.2.1, fun i v q => hL.2.2 i v (LSub.at _ _ h i v q)⟩
theorem V_iconst {n : Int} {v : Int32}  (hd : decode (yC Y) pc = .ok (.iconst n, 1)) (hv : Int32.ofInt n = v) (h : V g Y (pc + 1) ls (vi v :: st) m Z) : V g Y pc ls st m Z := by
  intro p e s mid args below meth c H locs la hG hF hE hP hS hL
  exact lv_iconst hF.1 hF.2.1 hd hv (h p e s mid args below meth c H locs la hG hF hE hP hS hL)
theorem V_bipush {n : Int} {v : Int32}  (hd : decode (yC Y) pc = .ok (.bipush n, 2)) (hv : (Int8.ofInt n).toInt32 = v) (h : V g Y (pc + 2) ls (vi v :: st) m Z) : V g Y pc ls st m Z := by
  intro p e s mid args below meth c H locs la hG hF hE hP hS hL
  exact lv_bipush hF.1 hF.2.1 hd hv (h p e s mid args below meth c H locs la hG hF hE hP hS hL)
theorem V_sipush {n : Int} {v : Int32}  (hd : decode (yC Y) pc = .ok (.sipush n, 3)) (hv : (Int16.ofInt n).toInt32 = v) (h : V g Y (pc + 3) ls (vi v :: st) m Z) : V g Y pc ls st m Z := by
  intro p e s mid args below meth c H locs la hG hF hE hP hS hL
  exact lv_sipush hF.1 hF.2.1 hd hv (h p e s mid args below meth c H locs la hG hF hE hP hS hL)
theorem V_lconst {n : Fin 2} {v : Int64}  (hd : decode (yC Y) pc = .ok (.lconst n, 1)) (hv : Int64.ofNat (n : Nat) = v) (h : V g Y (pc + 1) ls (vl v :: st) m Z) : V g Y pc ls st m Z := by
  intro p e s mid args below meth c H locs la hG hF hE hP hS hL
  exact lv_lconst hF.1 hF.2.1 hd hv (h p e s mid args below meth c H locs la hG hF hE hP hS hL)
theorem V_iload_n {k : Fin 4} {i : Nat} {x : Int32}  (hd : decode (yC Y) pc = .ok (.iload_n k, 1)) (hi : (k : Nat) = i) (hl : ls[i]? = some (some (vi x))) (h : V g Y (pc + 1) ls (vi x :: st) m Z) : V g Y pc ls st m Z := by
  intro p e s mid args below meth c H locs la hG hF hE hP hS hL
  exact lv_iload_n hF.1 hF.2.1 hd hi (hL.2.2 _ _ hl) (h p e s mid args below meth c H locs la hG hF hE hP hS hL)
theorem V_iload {i : Nat} {x : Int32}  (hd : decode (yC Y) pc = .ok (.iload i, 2)) (hl : ls[i]? = some (some (vi x))) (h : V g Y (pc + 2) ls (vi x :: st) m Z) : V g Y pc ls st m Z := by
  intro p e s mid args below meth c H locs la hG hF hE hP hS hL
  exact lv_iload hF.1 hF.2.1 hd (hL.2.2 _ _ hl) (h p e s mid args below meth c H locs la hG hF hE hP hS hL)
theorem V_lload_n {k : Fin 4} {i : Nat} {x : Int64}  (hd : decode (yC Y) pc = .ok (.lload_n k, 1)) (hi : (k : Nat) = i) (hl : ls[i]? = some (some (vl x))) (h : V g Y (pc + 1) ls (vl x :: st) m Z) : V g Y pc ls st m Z := by
  intro p e s mid args below meth c H locs la hG hF hE hP hS hL
  exact lv_lload_n hF.1 hF.2.1 hd hi (hL.2.2 _ _ hl) (h p e s mid args below meth c H locs la hG hF hE hP hS hL)
theorem V_lload {i : Nat} {x : Int64}  (hd : decode (yC Y) pc = .ok (.lload i, 2)) (hl : ls[i]? = some (some (vl x))) (h : V g Y (pc + 2) ls (vl x :: st) m Z) : V g Y pc ls st m Z := by
  intro p e s mid args below meth c H locs la hG hF hE hP hS hL
  exact lv_lload hF.1 hF.2.1 hd (hL.2.2 _ _ hl) (h p e s mid args below meth c H locs la hG hF hE hP hS hL)
theorem V_aload_n {k : Fin 4} {i : Nat} {x : Nat} (hd : decode (yC Y) pc = .ok (.aload_n k, 1)) (hi : (k : Nat) = i) (hl : ls[i]? = some (some (vr x))) (h : V g Y (pc + 1) ls (vr x :: st) m Z) : V g Y pc ls st m Z := by
  intro p e s mid args below meth c H locs la hG hF hE hP hS hL
  have h2 := hL.2.2 _ _ hl
  have h3 := h p e s mid args below meth c H locs la hG hF hE hP hS hL
  by_cases hx : x = 0
  · subst hx
    rw [List.map_cons, tr_0] at h3
    rw [tr_0] at h2
    exact lv_aload_nN hF.1 hF.2.1 hd hi h2 h3
  · rw [List.map_cons, tr_r g hx] at h3
    rw [tr_r g hx] at h2
    exact lv_aload_n hF.1 hF.2.1 hd hi h2 h3
theorem V_aload {i : Nat} {x : Nat} (hd : decode (yC Y) pc = .ok (.aload i, 2)) (hl : ls[i]? = some (some (vr x))) (h : V g Y (pc + 2) ls (vr x :: st) m Z) : V g Y pc ls st m Z := by
  intro p e s mid args below meth c H locs la hG hF hE hP hS hL
  have h2 := hL.2.2 _ _ hl
  have h3 := h p e s mid args below meth c H locs la hG hF hE hP hS hL
  by_cases hx : x = 0
  · subst hx
    rw [List.map_cons, tr_0] at h3
    rw [tr_0] at h2
    exact lv_aloadN hF.1 hF.2.1 hd h2 h3
  · rw [List.map_cons, tr_r g hx] at h3
    rw [tr_r g hx] at h2
    exact lv_aload hF.1 hF.2.1 hd h2 h3
theorem V_istore_n {k : Fin 4} {i : Nat} {x : Int32} (hd : decode (yC Y) pc = .ok (.istore_n k, 1)) (hi : (k : Nat) = i) {ls' : List (Option AV)} (hn : (i < yL Y)) (hl : lset ls i (vi x) = ls') (h : V g Y (pc + 1) ls' st m Z) : V g Y pc ls (vi x :: st) m Z := by
  intro p e s mid args below meth c H locs la hG hF hE hP hS hL
  subst hl
  exact lv_istore_n hF.1 hF.2.1 hd hi hL.lv hn rfl (fun la' hl' => h p e s mid args below meth c H locs la' hG hF hE hP hS (lhas.set1 rfl hl'))
theorem V_istore {i : Nat} {x : Int32} (hd : decode (yC Y) pc = .ok (.istore i, 2)) {ls' : List (Option AV)} (hn : (i < yL Y)) (hl : lset ls i (vi x) = ls') (h : V g Y (pc + 2) ls' st m Z) : V g Y pc ls (vi x :: st) m Z := by
  intro p e s mid args below meth c H locs la hG hF hE hP hS hL
  subst hl
  exact lv_istore hF.1 hF.2.1 hd hL.lv hn rfl (fun la' hl' => h p e s mid args below meth c H locs la' hG hF hE hP hS (lhas.set1 rfl hl'))
theorem V_lstore_n {k : Fin 4} {i : Nat} {x : Int64} (hd : decode (yC Y) pc = .ok (.lstore_n k, 1)) (hi : (k : Nat) = i) {ls' : List (Option AV)} (hn : (i + 1 < yL Y)) (hl : lset ls i (vl x) = ls') (h : V g Y (pc + 1) ls' st m Z) : V g Y pc ls (vl x :: st) m Z := by
  intro p e s mid args below meth c H locs la hG hF hE hP hS hL
  subst hl
  exact lv_lstore_n hF.1 hF.2.1 hd hi hL.lv hn rfl (fun la' hl' => h p e s mid args below meth c H locs la' hG hF hE hP hS (lhas.set2 rfl hl'))
theorem V_lstore {i : Nat} {x : Int64} (hd : decode (yC Y) pc = .ok (.lstore i, 2)) {ls' : List (Option AV)} (hn : (i + 1 < yL Y)) (hl : lset ls i (vl x) = ls') (h : V g Y (pc + 2) ls' st m Z) : V g Y pc ls (vl x :: st) m Z := by
  intro p e s mid args below meth c H locs la hG hF hE hP hS hL
  subst hl
  exact lv_lstore hF.1 hF.2.1 hd hL.lv hn rfl (fun la' hl' => h p e s mid args below meth c H locs la' hG hF hE hP hS (lhas.set2 rfl hl'))
theorem V_astore_n {k : Fin 4} {i : Nat} {x : Nat} (hd : decode (yC Y) pc = .ok (.astore_n k, 1)) (hi : (k : Nat) = i) {ls' : List (Option AV)} (hn : (i < yL Y)) (hl : lset ls i (vr x) = ls') (h : V g Y (pc + 1) ls' st m Z) : V g Y pc ls (vr x :: st) m Z := by
  intro p e s mid args below meth c H locs la hG hF hE hP hS hL
  subst hl
  have key : ∀ la' : Array Slot, lv_has la' (yL Y) ((i, tr g (vr x)) :: (toLv g 0 ls).filter (fun q => !(q.1 == i) && !(q.1 + 1 == i && q.2.category == 2))) → W p g.1 e Z.1 s mid args below meth c H locs Z.2.1 Z.2.2.1 (Z.2.2.2 below args s) (F0 mid (pc + 1) la' (st.map (tr g))) :=
    fun la' hl' => h p e s mid args below meth c H locs la' hG hF hE hP hS (lhas.set1 rfl hl')
  by_cases hx : x = 0
  · subst hx
    rw [List.map_cons]
    rw [tr_0] at key ⊢
    exact lv_astore_nN hF.1 hF.2.1 hd hi hL.lv hn rfl key
  · rw [List.map_cons]
    rw [tr_r g hx] at key ⊢
    exact lv_astore_n hF.1 hF.2.1 hd hi hL.lv hn rfl key
theorem V_astore {i : Nat} {x : Nat} (hd : decode (yC Y) pc = .ok (.astore i, 2)) {ls' : List (Option AV)} (hn : (i < yL Y)) (hl : lset ls i (vr x) = ls') (h : V g Y (pc + 2) ls' st m Z) : V g Y pc ls (vr x :: st) m Z := by
  intro p e s mid args below meth c H locs la hG hF hE hP hS hL
  subst hl
  have key : ∀ la' : Array Slot, lv_has la' (yL Y) ((i, tr g (vr x)) :: (toLv g 0 ls).filter (fun q => !(q.1 == i) && !(q.1 + 1 == i && q.2.category == 2))) → W p g.1 e Z.1 s mid args below meth c H locs Z.2.1 Z.2.2.1 (Z.2.2.2 below args s) (F0 mid (pc + 2) la' (st.map (tr g))) :=
    fun la' hl' => h p e s mid args below meth c H locs la' hG hF hE hP hS (lhas.set1 rfl hl')
  by_cases hx : x = 0
  · subst hx
    rw [List.map_cons]
    rw [tr_0] at key ⊢
    exact lv_astoreN hF.1 hF.2.1 hd hL.lv hn rfl key
  · rw [List.map_cons]
    rw [tr_r g hx] at key ⊢
    exact lv_astore hF.1 hF.2.1 hd hL.lv hn rfl key
theorem V_iinc {i : Nat} {n : Int} {x v : Int32} (hd : decode (yC Y) pc = .ok (.iinc i n, 3)) (hx : ls[i]? = some (some (vi x))) (hv : x + Int32.ofInt n = v) {ls' : List (Option AV)} (hn : i < yL Y) (hl : lset ls i (vi v) = ls') (h : V g Y (pc + 3) ls' st m Z) : V g Y pc ls st m Z := by
  intro p e s mid args below meth c H locs la hG hF hE hP hS hL
  subst hl
  obtain ⟨k, hk⟩ := List.getElem?_of_mem (toLv_in g ls 0 i (vi x) hx)
  rw [Nat.zero_add] at hk
  exact lv_iinc (k := k) hF.1 hF.2.1 hd hL.lv hk hv hn rfl (fun la' hl' => h p e s mid args below meth c H locs la' hG hF hE hP hS (lhas.set1 (v := vi v) rfl hl'))
theorem V_iadd {x y : Int32} (hd : decode (yC Y) pc = .ok (.iadd, 1))  (h : V g Y (pc + 1) ls (vi (x + y) :: st) m Z) : V g Y pc ls (vi y :: vi x :: st) m Z := by
  intro p e s mid args below meth c H locs la hG hF hE hP hS hL
  exact lv_iadd hF.1 hF.2.1 hd  (h p e s mid args below meth c H locs la hG hF hE hP hS hL)
theorem V_isub {x y : Int32} (hd : decode (yC Y) pc = .ok (.isub, 1))  (h : V g Y (pc + 1) ls (vi (x - y) :: st) m Z) : V g Y pc ls (vi y :: vi x :: st) m Z := by
  intro p e s mid args below meth c H locs la hG hF hE hP hS hL
  exact lv_isub hF.1 hF.2.1 hd  (h p e s mid args below meth c H locs la hG hF hE hP hS hL)
theorem V_imul {x y : Int32} (hd : decode (yC Y) pc = .ok (.imul, 1))  (h : V g Y (pc + 1) ls (vi (x * y) :: st) m Z) : V g Y pc ls (vi y :: vi x :: st) m Z := by
  intro p e s mid args below meth c H locs la hG hF hE hP hS hL
  exact lv_imul hF.1 hF.2.1 hd  (h p e s mid args below meth c H locs la hG hF hE hP hS hL)
theorem V_iand {x y : Int32} (hd : decode (yC Y) pc = .ok (.iand, 1))  (h : V g Y (pc + 1) ls (vi (x &&& y) :: st) m Z) : V g Y pc ls (vi y :: vi x :: st) m Z := by
  intro p e s mid args below meth c H locs la hG hF hE hP hS hL
  exact lv_iand hF.1 hF.2.1 hd  (h p e s mid args below meth c H locs la hG hF hE hP hS hL)
theorem V_ior {x y : Int32} (hd : decode (yC Y) pc = .ok (.ior, 1))  (h : V g Y (pc + 1) ls (vi (x ||| y) :: st) m Z) : V g Y pc ls (vi y :: vi x :: st) m Z := by
  intro p e s mid args below meth c H locs la hG hF hE hP hS hL
  exact lv_ior hF.1 hF.2.1 hd  (h p e s mid args below meth c H locs la hG hF hE hP hS hL)
theorem V_ixor {x y : Int32} (hd : decode (yC Y) pc = .ok (.ixor, 1))  (h : V g Y (pc + 1) ls (vi (x ^^^ y) :: st) m Z) : V g Y pc ls (vi y :: vi x :: st) m Z := by
  intro p e s mid args below meth c H locs la hG hF hE hP hS hL
  exact lv_ixor hF.1 hF.2.1 hd  (h p e s mid args below meth c H locs la hG hF hE hP hS hL)
theorem V_ishl {x y : Int32} (hd : decode (yC Y) pc = .ok (.ishl, 1))  (h : V g Y (pc + 1) ls (vi (x <<< (y &&& 31)) :: st) m Z) : V g Y pc ls (vi y :: vi x :: st) m Z := by
  intro p e s mid args below meth c H locs la hG hF hE hP hS hL
  exact lv_ishl hF.1 hF.2.1 hd  (h p e s mid args below meth c H locs la hG hF hE hP hS hL)
theorem V_ishr {x y : Int32} (hd : decode (yC Y) pc = .ok (.ishr, 1))  (h : V g Y (pc + 1) ls (vi (x >>> (y &&& 31)) :: st) m Z) : V g Y pc ls (vi y :: vi x :: st) m Z := by
  intro p e s mid args below meth c H locs la hG hF hE hP hS hL
  exact lv_ishr hF.1 hF.2.1 hd  (h p e s mid args below meth c H locs la hG hF hE hP hS hL)
theorem V_ineg {x : Int32} (hd : decode (yC Y) pc = .ok (.ineg, 1))  (h : V g Y (pc + 1) ls (vi (-x) :: st) m Z) : V g Y pc ls (vi x :: st) m Z := by
  intro p e s mid args below meth c H locs la hG hF hE hP hS hL
  exact lv_ineg hF.1 hF.2.1 hd  (h p e s mid args below meth c H locs la hG hF hE hP hS hL)
theorem V_idiv {x y : Int32}  (hd : decode (yC Y) pc = .ok (.idiv, 1)) (hne : ¬ y = 0) (h : V g Y (pc + 1) ls (vi (x / y) :: st) m Z) : V g Y pc ls (vi y :: vi x :: st) m Z := by
  intro p e s mid args below meth c H locs la hG hF hE hP hS hL
  exact lv_idiv hF.1 hF.2.1 hd hne (h p e s mid args below meth c H locs la hG hF hE hP hS hL)
theorem V_irem {x y : Int32}  (hd : decode (yC Y) pc = .ok (.irem, 1)) (hne : ¬ y = 0) (h : V g Y (pc + 1) ls (vi (x - x / y * y) :: st) m Z) : V g Y pc ls (vi y :: vi x :: st) m Z := by
  intro p e s mid args below meth c H locs la hG hF hE hP hS hL
  exact lv_irem hF.1 hF.2.1 hd hne (h p e s mid args below meth c H locs la hG hF hE hP hS hL)
theorem V_ladd {x y : Int64} (hd : decode (yC Y) pc = .ok (.ladd, 1))  (h : V g Y (pc + 1) ls (vl (x + y) :: st) m Z) : V g Y pc ls (vl y :: vl x :: st) m Z := by
  intro p e s mid args below meth c H locs la hG hF hE hP hS hL
  exact lv_ladd hF.1 hF.2.1 hd  (h p e s mid args below meth c H locs la hG hF hE hP hS hL)
theorem V_lsub {x y : Int64} (hd : decode (yC Y) pc = .ok (.lsub, 1))  (h : V g Y (pc + 1) ls (vl (x - y) :: st) m Z) : V g Y pc ls (vl y :: vl x :: st) m Z := by
  intro p e s mid args below meth c H locs la hG hF hE hP hS hL
  exact lv_lsub hF.1 hF.2.1 hd  (h p e s mid args below meth c H locs la hG hF hE hP hS hL)
theorem V_lmul {x y : Int64} (hd : decode (yC Y) pc = .ok (.lmul, 1))  (h : V g Y (pc + 1) ls (vl (x * y) :: st) m Z) : V g Y pc ls (vl y :: vl x :: st) m Z := by
  intro p e s mid args below meth c H locs la hG hF hE hP hS hL
  exact lv_lmul hF.1 hF.2.1 hd  (h p e s mid args below meth c H locs la hG hF hE hP hS hL)
theorem V_land {x y : Int64} (hd : decode (yC Y) pc = .ok (.land, 1))  (h : V g Y (pc + 1) ls (vl (x &&& y) :: st) m Z) : V g Y pc ls (vl y :: vl x :: st) m Z := by
  intro p e s mid args below meth c H locs la hG hF hE hP hS hL
  exact lv_land hF.1 hF.2.1 hd  (h p e s mid args below meth c H locs la hG hF hE hP hS hL)
theorem V_lor {x y : Int64} (hd : decode (yC Y) pc = .ok (.lor, 1))  (h : V g Y (pc + 1) ls (vl (x ||| y) :: st) m Z) : V g Y pc ls (vl y :: vl x :: st) m Z := by
  intro p e s mid args below meth c H locs la hG hF hE hP hS hL
  exact lv_lor hF.1 hF.2.1 hd  (h p e s mid args below meth c H locs la hG hF hE hP hS hL)
theorem V_lxor {x y : Int64} (hd : decode (yC Y) pc = .ok (.lxor, 1))  (h : V g Y (pc + 1) ls (vl (x ^^^ y) :: st) m Z) : V g Y pc ls (vl y :: vl x :: st) m Z := by
  intro p e s mid args below meth c H locs la hG hF hE hP hS hL
  exact lv_lxor hF.1 hF.2.1 hd  (h p e s mid args below meth c H locs la hG hF hE hP hS hL)
theorem V_ldiv {x y : Int64}  (hd : decode (yC Y) pc = .ok (.ldiv, 1)) (hne : ¬ y = 0) (h : V g Y (pc + 1) ls (vl (x / y) :: st) m Z) : V g Y pc ls (vl y :: vl x :: st) m Z := by
  intro p e s mid args below meth c H locs la hG hF hE hP hS hL
  exact lv_ldiv hF.1 hF.2.1 hd hne (h p e s mid args below meth c H locs la hG hF hE hP hS hL)
theorem V_lrem {x y : Int64}  (hd : decode (yC Y) pc = .ok (.lrem, 1)) (hne : ¬ y = 0) (h : V g Y (pc + 1) ls (vl (x - x / y * y) :: st) m Z) : V g Y pc ls (vl y :: vl x :: st) m Z := by
  intro p e s mid args below meth c H locs la hG hF hE hP hS hL
  exact lv_lrem hF.1 hF.2.1 hd hne (h p e s mid args below meth c H locs la hG hF hE hP hS hL)
theorem V_lshl {x : Int64} {y : Int32} (hd : decode (yC Y) pc = .ok (.lshl, 1))  (h : V g Y (pc + 1) ls (vl (x <<< (y.toInt64 &&& 63)) :: st) m Z) : V g Y pc ls (vi y :: vl x :: st) m Z := by
  intro p e s mid args below meth c H locs la hG hF hE hP hS hL
  exact lv_lshl hF.1 hF.2.1 hd rfl (h p e s mid args below meth c H locs la hG hF hE hP hS hL)
theorem V_lshr {x : Int64} {y : Int32} (hd : decode (yC Y) pc = .ok (.lshr, 1))  (h : V g Y (pc + 1) ls (vl (x >>> (y.toInt64 &&& 63)) :: st) m Z) : V g Y pc ls (vi y :: vl x :: st) m Z := by
  intro p e s mid args below meth c H locs la hG hF hE hP hS hL
  exact lv_lshr hF.1 hF.2.1 hd rfl (h p e s mid args below meth c H locs la hG hF hE hP hS hL)
theorem V_iushr {x y : Int32} (hd : decode (yC Y) pc = .ok (.iushr, 1))  (h : V g Y (pc + 1) ls (vi ((x.toUInt32 >>> (y.toUInt32 &&& Int32.toUInt32 31)).toInt32) :: st) m Z) : V g Y pc ls (vi y :: vi x :: st) m Z := by
  intro p e s mid args below meth c H locs la hG hF hE hP hS hL
  exact lv_iushr hF.1 hF.2.1 hd rfl (h p e s mid args below meth c H locs la hG hF hE hP hS hL)
theorem V_i2l {x : Int32} (hd : decode (yC Y) pc = .ok (.i2l, 1))  (h : V g Y (pc + 1) ls (vl x.toInt64 :: st) m Z) : V g Y pc ls (vi x :: st) m Z := by
  intro p e s mid args below meth c H locs la hG hF hE hP hS hL
  exact lv_i2l hF.1 hF.2.1 hd rfl (h p e s mid args below meth c H locs la hG hF hE hP hS hL)
theorem V_l2i {x : Int64} (hd : decode (yC Y) pc = .ok (.l2i, 1))  (h : V g Y (pc + 1) ls (vi x.toInt32 :: st) m Z) : V g Y pc ls (vl x :: st) m Z := by
  intro p e s mid args below meth c H locs la hG hF hE hP hS hL
  exact lv_l2i hF.1 hF.2.1 hd rfl (h p e s mid args below meth c H locs la hG hF hE hP hS hL)
theorem V_i2b {x : Int32} (hd : decode (yC Y) pc = .ok (.i2b, 1))  (h : V g Y (pc + 1) ls (vi x.toInt8.toInt32 :: st) m Z) : V g Y pc ls (vi x :: st) m Z := by
  intro p e s mid args below meth c H locs la hG hF hE hP hS hL
  exact lv_i2b hF.1 hF.2.1 hd rfl (h p e s mid args below meth c H locs la hG hF hE hP hS hL)
theorem V_i2s {x : Int32} (hd : decode (yC Y) pc = .ok (.i2s, 1))  (h : V g Y (pc + 1) ls (vi x.toInt16.toInt32 :: st) m Z) : V g Y pc ls (vi x :: st) m Z := by
  intro p e s mid args below meth c H locs la hG hF hE hP hS hL
  exact lv_i2s hF.1 hF.2.1 hd rfl (h p e s mid args below meth c H locs la hG hF hE hP hS hL)
theorem V_i2c {x : Int32} (hd : decode (yC Y) pc = .ok (.i2c, 1))  (h : V g Y (pc + 1) ls (vi (x.toUInt32 % 65536).toInt32 :: st) m Z) : V g Y pc ls (vi x :: st) m Z := by
  intro p e s mid args below meth c H locs la hG hF hE hP hS hL
  exact lv_i2c hF.1 hF.2.1 hd rfl (h p e s mid args below meth c H locs la hG hF hE hP hS hL)
theorem V_lcmp {x y : Int64} (hd : decode (yC Y) pc = .ok (.lcmp, 1))  (h : V g Y (pc + 1) ls (vi (lg_cmp x y) :: st) m Z) : V g Y pc ls (vl y :: vl x :: st) m Z := by
  intro p e s mid args below meth c H locs la hG hF hE hP hS hL
  exact W.lcmp hF.1 hF.2.1 hd  (h p e s mid args below meth c H locs la hG hF hE hP hS hL)
theorem V_dupi {x : Int32} (hd : decode (yC Y) pc = .ok (.dup, 1))  (h : V g Y (pc + 1) ls (vi x :: vi x :: st) m Z) : V g Y pc ls (vi x :: st) m Z := by
  intro p e s mid args below meth c H locs la hG hF hE hP hS hL
  exact lv_dup hF.1 hF.2.1 hd rfl (h p e s mid args below meth c H locs la hG hF hE hP hS hL)
theorem V_dupr {x : Nat} (hd : decode (yC Y) pc = .ok (.dup, 1))  (h : V g Y (pc + 1) ls (vr x :: vr x :: st) m Z) : V g Y pc ls (vr x :: st) m Z := by
  intro p e s mid args below meth c H locs la hG hF hE hP hS hL
  exact lv_dup hF.1 hF.2.1 hd (tr_cat1 g) (h p e s mid args below meth c H locs la hG hF hE hP hS hL)
theorem V_dup2 {x : Int32} {y : Nat} (hd : decode (yC Y) pc = .ok (.dup2, 1))  (h : V g Y (pc + 1) ls (vi x :: vr y :: vi x :: vr y :: st) m Z) : V g Y pc ls (vi x :: vr y :: st) m Z := by
  intro p e s mid args below meth c H locs la hG hF hE hP hS hL
  exact lv_dup2_11 hF.1 hF.2.1 hd rfl (tr_cat1 g) (h p e s mid args below meth c H locs la hG hF hE hP hS hL)
theorem V_popi {x : Int32} (hd : decode (yC Y) pc = .ok (.pop, 1))  (h : V g Y (pc + 1) ls st m Z) : V g Y pc ls (vi x :: st) m Z := by
  intro p e s mid args below meth c H locs la hG hF hE hP hS hL
  exact lv_pop hF.1 hF.2.1 hd rfl (h p e s mid args below meth c H locs la hG hF hE hP hS hL)
theorem V_popr {x : Nat} (hd : decode (yC Y) pc = .ok (.pop, 1))  (h : V g Y (pc + 1) ls st m Z) : V g Y pc ls (vr x :: st) m Z := by
  intro p e s mid args below meth c H locs la hG hF hE hP hS hL
  exact lv_pop hF.1 hF.2.1 hd (tr_cat1 g) (h p e s mid args below meth c H locs la hG hF hE hP hS hL)
theorem V_null (hd : decode (yC Y) pc = .ok (.aconst_null, 1)) (h : V g Y (pc + 1) ls (vr 0 :: st) m Z) : V g Y pc ls st m Z := by
  intro p e s mid args below meth c H locs la hG hF hE hP hS hL
  have h3 := h p e s mid args below meth c H locs la hG hF hE hP hS hL
  rw [List.map_cons, tr_0] at h3
  exact lv_null hF.1 hF.2.1 hd h3
theorem V_goto {off : Int} {tgt : Nat} (hd : decode (yC Y) pc = .ok (.goto off, 3)) (ht : (pc : Int) + off = (tgt : Int)) (h : V g Y tgt ls st m Z) : V g Y pc ls st m Z := by
  intro p e s mid args below meth c H locs la hG hF hE hP hS hL
  exact lv_goto hF.1 hF.2.1 hd ht (h p e s mid args below meth c H locs la hG hF hE hP hS hL)
theorem V_icmp_eq {x y : Int32} {off : Int} {tgt : Nat} (hd : decode (yC Y) pc = .ok (.if_icmp .eq off, 3)) (ht : (pc : Int) + off = (tgt : Int)) (kt : x = y → V g Y tgt ls st m Z) (kf : ¬ x = y → V g Y (pc + 3) ls st m Z) : V g Y pc ls (vi y :: vi x :: st) m Z := by
  intro p e s mid args below meth c H locs la hG hF hE hP hS hL
  exact lv_icmp_eq hF.1 hF.2.1 hd ht (fun q => kt q p e s mid args below meth c H locs la hG hF hE hP hS hL) (fun q => kf q p e s mid args below meth c H locs la hG hF hE hP hS hL)
theorem V_icmp_ne {x y : Int32} {off : Int} {tgt : Nat} (hd : decode (yC Y) pc = .ok (.if_icmp .ne off, 3)) (ht : (pc : Int) + off = (tgt : Int)) (kt : ¬ x = y → V g Y tgt ls st m Z) (kf : x = y → V g Y (pc + 3) ls st m Z) : V g Y pc ls (vi y :: vi x :: st) m Z := by
  intro p e s mid args below meth c H locs la hG hF hE hP hS hL
  exact lv_icmp_ne hF.1 hF.2.1 hd ht (fun q => kt q p e s mid args below meth c H locs la hG hF hE hP hS hL) (fun q => kf q p e s mid args below meth c H locs la hG hF hE hP hS hL)
theorem V_icmp_lt {x y : Int32} {off : Int} {tgt : Nat} (hd : decode (yC Y) pc = .ok (.if_icmp .lt off, 3)) (ht : (pc : Int) + off = (tgt : Int)) (kt : x < y → V g Y tgt ls st m Z) (kf : ¬ x < y → V g Y (pc + 3) ls st m Z) : V g Y pc ls (vi y :: vi x :: st) m Z := by
  intro p e s mid args below meth c H locs la hG hF hE hP hS hL
  exact lv_icmp_lt hF.1 hF.2.1 hd ht (fun q => kt q p e s mid args below meth c H locs la hG hF hE hP hS hL) (fun q => kf q p e s mid args below meth c H locs la hG hF hE hP hS hL)
theorem V_icmp_ge {x y : Int32} {off : Int} {tgt : Nat} (hd : decode (yC Y) pc = .ok (.if_icmp .ge off, 3)) (ht : (pc : Int) + off = (tgt : Int)) (kt : y ≤ x → V g Y tgt ls st m Z) (kf : ¬ y ≤ x → V g Y (pc + 3) ls st m Z) : V g Y pc ls (vi y :: vi x :: st) m Z := by
  intro p e s mid args below meth c H locs la hG hF hE hP hS hL
  exact lv_icmp_ge hF.1 hF.2.1 hd ht (fun q => kt q p e s mid args below meth c H locs la hG hF hE hP hS hL) (fun q => kf q p e s mid args below meth c H locs la hG hF hE hP hS hL)
theorem V_icmp_gt {x y : Int32} {off : Int} {tgt : Nat} (hd : decode (yC Y) pc = .ok (.if_icmp .gt off, 3)) (ht : (pc : Int) + off = (tgt : Int)) (kt : y < x → V g Y tgt ls st m Z) (kf : ¬ y < x → V g Y (pc + 3) ls st m Z) : V g Y pc ls (vi y :: vi x :: st) m Z := by
  intro p e s mid args below meth c H locs la hG hF hE hP hS hL
  exact lv_icmp_gt hF.1 hF.2.1 hd ht (fun q => kt q p e s mid args below meth c H locs la hG hF hE hP hS hL) (fun q => kf q p e s mid args below meth c H locs la hG hF hE hP hS hL)
theorem V_icmp_le {x y : Int32} {off : Int} {tgt : Nat} (hd : decode (yC Y) pc = .ok (.if_icmp .le off, 3)) (ht : (pc : Int) + off = (tgt : Int)) (kt : x ≤ y → V g Y tgt ls st m Z) (kf : ¬ x ≤ y → V g Y (pc + 3) ls st m Z) : V g Y pc ls (vi y :: vi x :: st) m Z := by
  intro p e s mid args below meth c H locs la hG hF hE hP hS hL
  exact lv_icmp_le hF.1 hF.2.1 hd ht (fun q => kt q p e s mid args below meth c H locs la hG hF hE hP hS hL) (fun q => kf q p e s mid args below meth c H locs la hG hF hE hP hS hL)
theorem V_if_eq {x : Int32} {off : Int} {tgt : Nat} (hd : decode (yC Y) pc = .ok (.ifCond .eq off, 3)) (ht : (pc : Int) + off = (tgt : Int)) (kt : x = 0 → V g Y tgt ls st m Z) (kf : ¬ x = 0 → V g Y (pc + 3) ls st m Z) : V g Y pc ls (vi x :: st) m Z := by
  intro p e s mid args below meth c H locs la hG hF hE hP hS hL
  exact lv_if_eq hF.1 hF.2.1 hd ht (fun q => kt q p e s mid args below meth c H locs la hG hF hE hP hS hL) (fun q => kf q p e s mid args below meth c H locs la hG hF hE hP hS hL)
theorem V_if_ne {x : Int32} {off : Int} {tgt : Nat} (hd : decode (yC Y) pc = .ok (.ifCond .ne off, 3)) (ht : (pc : Int) + off = (tgt : Int)) (kt : ¬ x = 0 → V g Y tgt ls st m Z) (kf : x = 0 → V g Y (pc + 3) ls st m Z) : V g Y pc ls (vi x :: st) m Z := by
  intro p e s mid args below meth c H locs la hG hF hE hP hS hL
  exact lv_if_ne hF.1 hF.2.1 hd ht (fun q => kt q p e s mid args below meth c H locs la hG hF hE hP hS hL) (fun q => kf q p e s mid args below meth c H locs la hG hF hE hP hS hL)
theorem V_if_lt {x : Int32} {off : Int} {tgt : Nat} (hd : decode (yC Y) pc = .ok (.ifCond .lt off, 3)) (ht : (pc : Int) + off = (tgt : Int)) (kt : x < 0 → V g Y tgt ls st m Z) (kf : ¬ x < 0 → V g Y (pc + 3) ls st m Z) : V g Y pc ls (vi x :: st) m Z := by
  intro p e s mid args below meth c H locs la hG hF hE hP hS hL
  exact lv_if_lt hF.1 hF.2.1 hd ht (fun q => kt q p e s mid args below meth c H locs la hG hF hE hP hS hL) (fun q => kf q p e s mid args below meth c H locs la hG hF hE hP hS hL)
theorem V_if_ge {x : Int32} {off : Int} {tgt : Nat} (hd : decode (yC Y) pc = .ok (.ifCond .ge off, 3)) (ht : (pc : Int) + off = (tgt : Int)) (kt : 0 ≤ x → V g Y tgt ls st m Z) (kf : ¬ 0 ≤ x → V g Y (pc + 3) ls st m Z) : V g Y pc ls (vi x :: st) m Z := by
  intro p e s mid args below meth c H locs la hG hF hE hP hS hL
  exact lv_if_ge hF.1 hF.2.1 hd ht (fun q => kt q p e s mid args below meth c H locs la hG hF hE hP hS hL) (fun q => kf q p e s mid args below meth c H locs la hG hF hE hP hS hL)
theorem V_if_gt {x : Int32} {off : Int} {tgt : Nat} (hd : decode (yC Y) pc = .ok (.ifCond .gt off, 3)) (ht : (pc : Int) + off = (tgt : Int)) (kt : 0 < x → V g Y tgt ls st m Z) (kf : ¬ 0 < x → V g Y (pc + 3) ls st m Z) : V g Y pc ls (vi x :: st) m Z := by
  intro p e s mid args below meth c H locs la hG hF hE hP hS hL
  exact lv_if_gt hF.1 hF.2.1 hd ht (fun q => kt q p e s mid args below meth c H locs la hG hF hE hP hS hL) (fun q => kf q p e s mid args below meth c H locs la hG hF hE hP hS hL)
theorem V_if_le {x : Int32} {off : Int} {tgt : Nat} (hd : decode (yC Y) pc = .ok (.ifCond .le off, 3)) (ht : (pc : Int) + off = (tgt : Int)) (kt : x ≤ 0 → V g Y tgt ls st m Z) (kf : ¬ x ≤ 0 → V g Y (pc + 3) ls st m Z) : V g Y pc ls (vi x :: st) m Z := by
  intro p e s mid args below meth c H locs la hG hF hE hP hS hL
  exact lv_if_le hF.1 hF.2.1 hd ht (fun q => kt q p e s mid args below meth c H locs la hG hF hE hP hS hL) (fun q => kf q p e s mid args below meth c H locs la hG hF hE hP hS hL)
theorem V_ifnull {x : Nat} {off : Int} {tgt : Nat} (hd : decode (yC Y) pc = .ok (.ifnull off, 3)) (ht : (pc : Int) + off = (tgt : Int)) (kt : x = 0 → V g Y tgt ls st m Z) (kf : ¬ x = 0 → V g Y (pc + 3) ls st m Z) : V g Y pc ls (vr x :: st) m Z := by
  intro p e s mid args below meth c H locs la hG hF hE hP hS hL
  by_cases hx : x = 0
  · rw [List.map_cons, hx, tr_0]
    exact lv_ifnullN hF.1 hF.2.1 hd ht (kt hx p e s mid args below meth c H locs la hG hF hE hP hS hL)
  · rw [List.map_cons, tr_r g hx]
    exact lv_ifnull hF.1 hF.2.1 hd (kf hx p e s mid args below meth c H locs la hG hF hE hP hS hL)
theorem V_ifnonnull {x : Nat} {off : Int} {tgt : Nat} (hd : decode (yC Y) pc = .ok (.ifnonnull off, 3)) (ht : (pc : Int) + off = (tgt : Int)) (kt : ¬ x = 0 → V g Y tgt ls st m Z) (kf : x = 0 → V g Y (pc + 3) ls st m Z) : V g Y pc ls (vr x :: st) m Z := by
  intro p e s mid args below meth c H locs la hG hF hE hP hS hL
  by_cases hx : x = 0
  · rw [List.map_cons, hx, tr_0]
    exact lv_ifnonnullN hF.1 hF.2.1 hd (kf hx p e s mid args below meth c H locs la hG hF hE hP hS hL)
  · rw [List.map_cons, tr_r g hx]
    exact lv_ifnonnull hF.1 hF.2.1 hd ht (kt hx p e s mid args below meth c H locs la hG hF hE hP hS hL)
theorem V_tableIn {dflt lo hi : Int} {offs : Array Int} {len : Nat} {x : Int32} {off : Int} {tgt : Nat} (hd : decode (yC Y) pc = .ok (.tableswitch dflt lo hi offs, len)) (h1 : ¬ x.toInt < lo) (h2 : ¬ hi < x.toInt) (ho : offs[(x.toInt - lo).toNat]? = some off) (ht : (pc : Int) + off = (tgt : Int)) (h : V g Y tgt ls st m Z) : V g Y pc ls (vi x :: st) m Z := by
  intro p e s mid args below meth c H locs la hG hF hE hP hS hL
  exact lv_tableIn hF.1 hF.2.1 hd h1 h2 ho ht (h p e s mid args below meth c H locs la hG hF hE hP hS hL)
theorem V_tableOut {dflt lo hi : Int} {offs : Array Int} {len : Nat} {x : Int32} {tgt : Nat} (hd : decode (yC Y) pc = .ok (.tableswitch dflt lo hi offs, len)) (h0 : x.toInt < lo ∨ hi < x.toInt) (ht : (pc : Int) + dflt = (tgt : Int)) (h : V g Y tgt ls st m Z) : V g Y pc ls (vi x :: st) m Z := by
  intro p e s mid args below meth c H locs la hG hF hE hP hS hL
  exact lv_tableOut hF.1 hF.2.1 hd h0 ht (h p e s mid args below meth c H locs la hG hF hE hP hS hL)
theorem V_lookup {dflt : Int} {ps : Array (Int × Int)} {len : Nat} {x : Int32} {off : Int} {tgt : Nat} (hd : decode (yC Y) pc = .ok (.lookupswitch dflt ps, len)) (hp : (ps.toList.zip (ps.toList.drop 1)).all (fun (a, next) => a.1 < next.1) = true) (ho : Op.lookupswitch.offset ps.toList dflt x.toInt = off) (ht : (pc : Int) + off = (tgt : Int)) (h : V g Y tgt ls st m Z) : V g Y pc ls (vi x :: st) m Z := by
  intro p e s mid args below meth c H locs la hG hF hE hP hS hL
  exact lv_lookup hF.1 hF.2.1 hd hp ho ht (h p e s mid args below meth c H locs la hG hF hE hP hS hL)
end ROWS
