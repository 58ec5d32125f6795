/-! rows of V: constants of the pool, calls, ends -/
theorem goodIn_app2 {big a b : List Cond} (ha : GoodIn big a) (hb : GoodIn big b) : GoodIn big (a ++ b) := fun w h => (List.mem_append.mp h).elim (ha w) (hb w)
section CALLS
variable {g : GE} {Y : MI} {pc : Nat} {ls : List (Option AV)} {st : List AV} {m : Mem} {Z : Post}
theorem V_ldc {idx : Nat} {v : Int32} (hd : decode (yC Y) pc = .ok (.ldc idx, 2)) (hw : Cond.constant (yO Y) idx v ∈ AW) (h : V g Y (pc + 2) ls (vi v :: st) m Z) : V g Y pc ls st m Z := by
  intro p e s mid args below meth c H locs la hG hF hE hP hS hL
  exact lv_ldc hF.1 hF.2.1 hF.2.2.2.2.1 (hF.AW hw) hd (h p e s mid args below meth c H locs la hG hF hE hP hS hL)
theorem V_ldcw {idx : Nat} {v : Int32} (hd : decode (yC Y) pc = .ok (.ldc_w idx, 3)) (hw : Cond.constant (yO Y) idx v ∈ AW) (h : V g Y (pc + 3) ls (vi v :: st) m Z) : V g Y pc ls st m Z := by
  intro p e s mid args below meth c H locs la hG hF hE hP hS hL
  exact lv_ldcw hF.1 hF.2.1 hF.2.2.2.2.1 (hF.AW hw) hd (h p e s mid args below meth c H locs la hG hF hE hP hS hL)
theorem V_ldc2 {idx : Nat} {v : Int64} (hd : decode (yC Y) pc = .ok (.ldc2_w idx, 3)) (hw : Cond.constantLong (yO Y) idx v ∈ AW) (h : V g Y (pc + 3) ls (vl v :: st) m Z) : V g Y pc ls st m Z := by
  intro p e s mid args below meth c H locs la hG hF hE hP hS hL
  exact lv_ldc2 hF.1 hF.2.1 hF.2.2.2.2.1 (hF.AW hw) hd (h p e s mid args below meth c H locs la hG hF hE hP hS hL)
theorem V_ldcS {idx i : Nat} {tx : String} (hd : decode (yC Y) pc = .ok (.ldc idx, 2)) (hw : (yO Y, idx, tx, i) ∈ strL) (h : V g Y (pc + 2) ls (vS i :: st) m Z) : V g Y pc ls st m Z := by
  intro p e s mid args below meth c H locs la hG hF hE hP hS hL
  have h3 := h p e s mid args below meth c H locs la hG hF hE hP hS hL
  rw [List.map_cons, tr_r g (by omega)] at h3
  exact va_ldcS hF.1 hF.2.1 hF.2.2.2.2.1 (hE.2.2.1 _ hw) hd h3
theorem V_iret {r : Option AV} {m' : Mem} {x : Int32} (hd : decode (yC Y) pc = .ok (.ireturn, 1)) (hr : yR Y = some .int) (h : r = some (vi x)) (hm : m' = m) : V g Y pc ls [vi x] m (PM g Y r m') := by
  intro p e s mid args below meth c H locs la hG hF hE hP hS hL
  subst h; subst hm
  have hlocks := hF.2.2.2.2.2.2
  exact W.iret hF.1 hF.2.1 (hF.2.2.1.trans hr) (fun t ht hW => ⟨rfl, by rw [ht]; exact hP, hS.F ht⟩) hS.2.2 hd
theorem V_zret {r : Option AV} {m' : Mem} {x : Int32} {ty : FieldType} (hd : decode (yC Y) pc = .ok (.ireturn, 1)) (hr : yR Y = some ty) (hn : narrow ty (.int x) = .int x) (h : r = some (vi x)) (hm : m' = m) : V g Y pc ls [vi x] m (PM g Y r m') := by
  intro p e s mid args below meth c H locs la hG hF hE hP hS hL
  subst h; subst hm
  have hlocks := hF.2.2.2.2.2.2
  exact W.zret hF.1 hF.2.1 (hF.2.2.1.trans hr) hn (fun t ht hW => ⟨rfl, by rw [ht]; exact hP, hS.F ht⟩) hS.2.2 hd
theorem V_lret {r : Option AV} {m' : Mem} {x : Int64} (hd : decode (yC Y) pc = .ok (.lreturn, 1)) (hr : yR Y = some .long) (h : r = some (vl x)) (hm : m' = m) : V g Y pc ls [vl x] m (PM g Y r m') := by
  intro p e s mid args below meth c H locs la hG hF hE hP hS hL
  subst h; subst hm
  have hlocks := hF.2.2.2.2.2.2
  exact W.lret hF.1 hF.2.1 (hF.2.2.1.trans hr) (fun t ht hW => ⟨rfl, by rw [ht]; exact hP, hS.F ht⟩) hS.2.2 hd
theorem V_vret {r : Option AV} {m' : Mem} (hd : decode (yC Y) pc = .ok (.return_, 1)) (hr : yR Y = none) (h : r = none) (hm : m' = m) : V g Y pc ls [] m (PM g Y r m') := by
  intro p e s mid args below meth c H locs la hG hF hE hP hS hL
  subst h; subst hm
  have hlocks := hF.2.2.2.2.2.2
  exact W.vret hF.1 hF.2.1 (hF.2.2.1.trans hr) (fun t ht hW => ⟨rfl, by rw [ht]; exact hP, hS.F ht⟩) hS.2.2 hd
theorem V_aret {r : Option AV} {m' : Mem} {x : Nat} {C : String} (hd : decode (yC Y) pc = .ok (.areturn, 1)) (hr : yR Y = some (.object C)) (h : r = some (vr x)) (hm : m' = m) : V g Y pc ls [vr x] m (PM g Y r m') := by
  intro p e s mid args below meth c H locs la hG hF hE hP hS hL
  subst h; subst hm
  have hlocks := hF.2.2.2.2.2.2
  exact W.aret hF.1 hF.2.1 (hF.2.2.1.trans hr) (Or.inl ⟨C, rfl⟩) (by
    by_cases hx : x = 0
    · subst hx; exact Or.inl (tr_0 g)
    · exact Or.inr ⟨_, tr_r g hx⟩) (fun t ht hW => ⟨rfl, by rw [ht]; exact hP, hS.F ht⟩) hS.2.2 hd
/-- what the world needs at a call's entry -/
theorem blindM (g : GE) (m : Mem) (as : List Value) : FrameBlind (va_Pc as (fun U => SE g U U.heap ∧ va_P g.2.1 classes (WS g m) U.heap)) := by
  intro a U gg mk q
  obtain ⟨h1, ⟨k1, k2, k3, ⟨k4, k5, v, k6⟩, k7⟩, h3⟩ := q
  refine ⟨h1, ⟨va_K.moved (u := U) (U := U.calling gg mk a) (Vm.Alike.refl U.vm) k1, fun q hq => va_Nw.same (u := U) (U := U.calling gg mk a) rfl rfl (k2 q hq), fun q hq => vk_R.same (u := U) (U := U.calling gg mk a) rfl (k3 q hq), ⟨?_, ?_, v, ?_⟩, va_T.moved (u := U) (U := U.calling gg mk a) (Vm.Alike.refl U.vm) k7⟩, h3⟩
  · exact vk_S.moved (u := U) (U := U.calling gg mk a) (Vm.Alike.refl U.vm) k4
  · exact va_Z.moved (u := U) (U := U.calling gg mk a) (Vm.Alike.refl U.vm) k5
  · exact va_Z.moved (u := U) (U := U.calling gg mk a) (Vm.Alike.refl U.vm) k6
theorem W_call {p : Program} {e : Env} {R : Room} {s : State} {mid : MethodId} {args : Array Value} {below : List Frame} {meth : Method} {c : Code} {H : Heap} {locs : List Loc} {la : Array Slot} {st0 : List Value} {a : Array Value} {r1 : Option AV} {m1 : Mem} {cells slots : Nat} {Q : State → Prop}
    (hr : va_Run p g.1 e R s mid args below meth c H locs cells slots 0 0 (F0 mid pc la st0) (st.map (tr g)) (QM g r1 m1 a) (AA g)) (hS : va_S (AA g) s.heap H locs)
    (kk : ∀ (H1 : Heap) (locs1 : List Loc), va_P g.2.1 classes (WS g m1) H1 → va_S (AA g) s.heap H1 locs1 → W p g.1 e R s mid args below meth c H1 locs1 cells slots Q (F0 mid (pc + 3) la ((r1.toList ++ st).map (tr g)))) : W p g.1 e R s mid args below meth c H locs cells slots Q (F0 mid pc la st0) := by
  intro T hT X
  obtain ⟨v, st₀, t, T', L, h0, X', hL, e1, e2, ⟨hv, hp, hz, hk⟩, stp⟩ := hr T hT X
  rw [h0] at hz hk
  obtain ⟨t2, a1, b1⟩ := kk T'.heap (locs ++ L) (by rw [e1]; exact hp)
    ⟨Nat.le_trans hS.1 (by rw [e1]; exact hz), fun q h1 h2 => by rw [e1, hk q (Nat.lt_of_lt_of_le h1 hS.1) h2]; exact hS.2.1 q h1 h2, fun q hq => by
      rcases List.mem_append.mp hq with h | h
      · exact hS.2.2 q h
      · exact hL q h⟩ T' rfl X'
  refine ⟨t2, stp t2 ?_, b1⟩
  have hv2 : v = r1.map (tr g) := by
    have := hv
    simpa using this
  have e3 : v.toList ++ st.map (tr g) = (r1.toList ++ st).map (tr g) := by
    rw [hv2]
    cases r1 <;> simp
  rw [e3]
  exact a1
/-- the words of a call -/
def nmOK (Q : MI) (n : Nat) : Prop := (yN Q).cls ≠ "java/lang/invoke/MethodHandle" ∧ (yN Q).cls ≠ "java/lang/invoke/VarHandle" ∧ (parseMethodDescriptor (yN Q).desc).map (fun d => d.parameters.length) = some n
def IV (own : String) (idx : Nat) (Q : MI) (n : Nat) : Prop := cdM Q ∈ AW ∧ Cond.methodLink own idx (yN Q) ∈ AW ∧ Cond.instanceMethod (yN Q) ∈ AW ∧ Cond.selects (yN Q).cls (yN Q) (yN Q) ∈ AW ∧ Cond.initialized (yN Q).cls ∈ AW ∧ nmOK Q n
def IS (own : String) (idx : Nat) (Q : MI) (n : Nat) : Prop := cdM Q ∈ AW ∧ Cond.methodLink own idx (yN Q) ∈ AW ∧ Cond.static (yN Q) ∈ AW ∧ Cond.initialized (yN Q).cls ∈ AW ∧ nmOK Q n
def ISN (own : String) (idx : Nat) (Q : MI) (n : Nat) (host : String) : Prop := cdM Q ∈ AW ∧ (own, idx, yN Q, host) ∈ nestL ∧ Cond.static (yN Q) ∈ AW ∧ Cond.initialized (yN Q).cls ∈ AW ∧ nmOK Q n
def RM (Z : Post) (Q : MI) : Prop := (yF Q + 1 ≤ Z.1.frames ∧ 8 + (yL Q + 11) + yQ Q ≤ Z.1.locals) ∧ Z.2.1 ≤ Z.1.cells ∧ Z.2.2.1 ≤ Z.1.slots
/-- how much of the stack lies below the arguments -/
def catS : List AV → Nat
  | [] => 0
  | v :: t => (if isL v = true then 2 else 1) + catS t
theorem catS_eq (g : GE) : ∀ st : List AV, ((st.map (tr g)).map fun v => v.category).sum = catS st
  | [] => rfl
  | v :: t => by
    have ih := catS_eq g t
    simp only [List.map_cons, List.sum_cons, catS, tr_cat]
    rw [ih]
theorem stk_eq (g : GE) (as st : List AV) : (as.reverse ++ st).map (tr g) = (as.map (tr g)).reverse ++ st.map (tr g) := by simp
theorem V_invV {Q : MI} {as S : List AV} {a c n idx : Nat} {r1 : Option AV} {m1 : Mem} {q : vw_C} (hd : decode (yC Y) pc = .ok (.invokevirtual idx, 3)) (hev : Ev g Q (vr a :: as) m r1 m1) (hw : IV (yO Y) idx Q n) (hR : RM Z Q) (hn : as.length = n)
    (hk : kd a = c + 1) (hc : CF c q) (hC : q.1 = (yN Q).cls) (hst : catS st ≤ 8) (hss : as.reverse ++ vr a :: st = S) (h : V g Y (pc + 3) ls (r1.toList ++ st) m1 Z) : V g Y pc ls S m Z := by
  intro p e s mid args below meth cc H locs la hG hF hE hP hS hL
  have ha := kd_lt (a := a) (by omega)
  obtain ⟨w1, w2, w3, w4, w5, w6, w7, w8⟩ := hw
  subst hss
  have hent := WS_at g m ha.1 ha.2
  rw [ent_obj g m hk hc.2.1] at hent
  obtain ⟨rr, hrr, cell, hcell, hst1, hst2, -⟩ := hP (a - 1) _ hent
  have hrq : rr = q := Option.some.inj (hrr.symm.trans hc.1)
  subst hrq
  have hkn := (hE.1.1 c rr hc.1).2
  have hM := hev hG
  have hrest : (as.reverse ++ vr a :: st).map (tr g) = (as.map (tr g)).reverse ++ .ref (g.2.2.2.1 a) :: st.map (tr g) := by
    rw [stk_eq, List.map_cons, tr_r g (by omega)]
  have hgood : GoodIn AW (wsV (yO Y) idx (yN Q).cls (yN Q) (wsM Q)) := by
    refine goodIn_app2 (fun w hw => ?_) (goodM w1)
    have hwA : w ∈ AW := by
      simp only [List.mem_cons, List.not_mem_nil, or_false] at hw
      rcases hw with rfl | rfl | rfl | rfl <;> assumption
    exact ⟨hwA, good_of_word (AW_ok hwA).2⟩
  have hmap : (vr a :: as).map (tr g) = .ref (g.2.2.2.1 a) :: as.map (tr g) := by rw [List.map_cons, tr_r g (by omega)]
  rw [hrest]
  refine W_call (va_runV (As := as.map (tr g)) (rest := st.map (tr g)) (C := (yN Q).cls) ⟨hF.1, hF.2.1, hF.2.2.2.1, hF.2.2.2.2.1, hF.2.2.2.2.2.1⟩ hM (cwV n hF.2.2.2.2.2.1 hgood rfl rfl rfl ⟨rfl, w6, w7, w8⟩ hR.1) ⟨blindM g m _, ⟨cell, hcell, ?_, ?_⟩, fun U hU hW => ⟨by rw [hmap], hE.warm hW (by rw [hU]; exact hS), by rw [hU]; exact hP⟩⟩ rfl (by rw [List.length_map]; exact hn) hL.1 rfl (lv_room (by rw [catS_eq]; exact hst)) hd hR.2) hS (fun H1 locs1 hP1 hS1 => h p e s mid args below meth cc H1 locs1 la hG hF hE hP1 hS1 hL)
  · rw [hst2]; rfl
  · rw [← hC, hst1]; exact hkn.1
theorem V_invS {Q : MI} {as S : List AV} {n idx : Nat} {r1 : Option AV} {m1 : Mem} (hd : decode (yC Y) pc = .ok (.invokestatic idx, 3)) (hev : Ev g Q as m r1 m1) (hw : IS (yO Y) idx Q n) (hR : RM Z Q) (hn : as.length = n)
    (hst : catS st ≤ 8) (hss : as.reverse ++ st = S) (h : V g Y (pc + 3) ls (r1.toList ++ st) m1 Z) : V g Y pc ls S m Z := by
  intro p e s mid args below meth cc H locs la hG hF hE hP hS hL
  obtain ⟨w1, w2, w3, w5, w6, w7, w8⟩ := hw
  subst hss
  have hM := hev hG
  rw [stk_eq]
  refine W_call (va_runS (As := as.map (tr g)) (rest := st.map (tr g)) ⟨hF.1, hF.2.1, hF.2.2.2.1, hF.2.2.2.2.1, hF.2.2.2.2.2.1⟩ hM ⟨callB_of n hF.2.2.2.2.2.1 (goodM w1) rfl rfl rfl (hF.AW w5) (hF.AW w2) ⟨w6, w7, w8⟩ hR.1, hF.AW w3⟩ ⟨blindM g m _, fun U hU hW => ⟨rfl, hE.warm hW (by rw [hU]; exact hS), by rw [hU]; exact hP⟩⟩ rfl (by rw [List.length_map]; exact hn) hL.1 rfl (lv_room (by rw [catS_eq]; exact hst)) hd hR.2) hS (fun H1 locs1 hP1 hS1 => h p e s mid args below meth cc H1 locs1 la hG hF hE hP1 hS1 hL)
theorem V_invSN {Q : MI} {as S : List AV} {n idx : Nat} {host : String} {r1 : Option AV} {m1 : Mem} (hd : decode (yC Y) pc = .ok (.invokestatic idx, 3)) (hev : Ev g Q as m r1 m1) (hw : ISN (yO Y) idx Q n host) (hR : RM Z Q) (hn : as.length = n)
    (hst : catS st ≤ 8) (hss : as.reverse ++ st = S) (h : V g Y (pc + 3) ls (r1.toList ++ st) m1 Z) : V g Y pc ls S m Z := by
  intro p e s mid args below meth cc H locs la hG hF hE hP hS hL
  obtain ⟨w1, w2, w3, w5, w6, w7, w8⟩ := hw
  subst hss
  have hM := hev hG
  rw [stk_eq]
  refine W_call (va_runSN (As := as.map (tr g)) (rest := st.map (tr g)) (host := host) ⟨hF.1, hF.2.1, hF.2.2.2.1, hF.2.2.2.2.1, hF.2.2.2.2.2.1⟩ hM ⟨va_cnB n hF.2.2.2.2.2.1 (goodM w1) rfl rfl rfl (hE.2.1 _ w2) (hF.AW w5) ⟨w6, w7, w8⟩ hR.1, hF.AW w3, trivial⟩ ⟨blindM g m _, fun U hU hW => ⟨rfl, hE.warm hW (by rw [hU]; exact hS), by rw [hU]; exact hP⟩⟩ rfl (by rw [List.length_map]; exact hn) hL.1 rfl (lv_room (by rw [catS_eq]; exact hst)) hd hR.2) hS (fun H1 locs1 hP1 hS1 => h p e s mid args below meth cc H1 locs1 la hG hF hE hP1 hS1 hL)
/-- a row of 64 bit numbers, copied -/
def cpL (m : Mem) (a i b j n : Nat) : Mem := (m.1, fun c k => if c = b ∧ j ≤ k ∧ k < j + n then m.2 a (i + (k - j)) else m.2 c k)
theorem fits_long (x : Int64) : fits .long (.long x) = true := rfl
theorem V_copyl {a b idx na nb : Nat} {i j n : Int32} (hd : decode (yC Y) pc = .ok (.invokestatic idx, 3)) (hl : Cond.methodLink (yO Y) idx arraycopyName ∈ AW) (hnat : Cond.native arraycopyName ∈ AW) (hstat : Cond.static arraycopyName ∈ AW) (hini : Cond.initialized "java/lang/System" ∈ AW)
    (hka : kd a = 21) (hkb : kd b = 21) (hna : al a = na) (hnb : al b = nb) (h1 : ¬ i < 0) (h2 : ¬ j < 0) (h3 : ¬ n < 0) (h4 : ix i + ix n ≤ na) (h5 : ix j + ix n ≤ nb) (hfr : 1 ≤ Z.1.frames) (hlo : catS st + (nativeFrameWords "java/lang/System" "arraycopy" 5 + 11) ≤ Z.1.locals)
    (h : V g Y (pc + 3) ls st (cpL m a (ix i) b (ix j) (ix n)) Z) : V g Y pc ls (vi n :: vi j :: vr b :: vi i :: vr a :: st) m Z := by
  intro p e s mid args below meth cc H locs la hG hF hE hP hS hL
  subst hna; subst hnb
  have ha := kd_lt (a := a) (by omega)
  have hb := kd_lt (a := b) (by omega)
  have henta := WS_at g m ha.1 ha.2
  rw [ent_longs g m hka] at henta
  have hentb := WS_at g m hb.1 hb.2
  rw [ent_longs g m hkb] at hentb
  rw [List.map_cons, List.map_cons, List.map_cons, List.map_cons, List.map_cons, tr_r g (k := b) (by omega), tr_r g (k := a) (by omega)]
  refine va_copyl hF.1 hF.2.1 (hF.2.2.2.1.trans hL.1.symm) hF.2.2.2.2.1 (hF.AW hl) (hF.AW hnat) (hF.AW hstat) (hF.AW hini) hE.1 hP (WS_D g m hG) hS (a - 1) (b - 1) 1 1 henta hentb rfl rfl rfl h1 h2 h3 h4 h5 (fun _ _ => rfl) hfr (by rw [catS_eq]; exact hlo) hd (fun H1 locs1 hP1 _ hS1 => ?_)
  refine h p e s mid args below meth cc H1 locs1 la hG hF hE ?_ hS1 hL
  have e1 : va_cpy (m.2 a) (m.2 b) (ix i) (ix j) (ix n) = (cpL m a (ix i) b (ix j) (ix n)).2 b := by
    funext k
    show (if ix j ≤ k ∧ k < ix j + ix n then _ else _) = (if b = b ∧ ix j ≤ k ∧ k < ix j + ix n then _ else _)
    by_cases q : ix j ≤ k ∧ k < ix j + ix n
    · rw [if_pos q, if_pos ⟨rfl, q⟩]
    · rw [if_neg q, if_neg (fun z => q z.2)]
  have e2 : ∀ k, k ≠ b → ent g (cpL m a (ix i) b (ix j) (ix n)) k = ent g m k := by
    intro k hk
    have e3 : (cpL m a (ix i) b (ix j) (ix n)).2 k = m.2 k := by
      funext t
      exact if_neg (fun z => hk z.1)
    have e4 : fv g (cpL m a (ix i) b (ix j) (ix n)) (kd k - 1) k = fv g m (kd k - 1) k := by
      funext t
      unfold fv
      rw [e3]
      rfl
    unfold ent
    rw [e3, e4]
    rfl
  have hP2 := hP1
  rw [show va_cpy (m.2 a) (m.2 b) i.toNatClampNeg j.toNatClampNeg n.toNatClampNeg = _ from e1, ← ent_longs g (cpL m a (ix i) b (ix j) (ix n)) hkb, WS_set g m _ hb.1 hb.2 e2] at hP2
  exact hP2
end CALLS
