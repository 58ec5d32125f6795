/-! the law's beginning: both objects are made; then its loop -/
section LAWIN
abbrev YBL (nm : String) : MI := (⟨RL, nm, "([I)Z"⟩, cL_law, 4, ret, RL, 15, 562)
def ZLB (g : GE) (b : Nat) : PostB := (room_1, fun below args s => fun t => (args = #[Value.ref b] ∧ SE g s s.heap ∧ s.heap.size = g.2.2.2.1 1) → lw_Z below args s t)
variable {g : GE} {b : Nat} {nm : String} {ls : List (Option AV)} {c sl : Nat}
theorem law_switch (hg : GB g) (hc : c ≤ 600000) (hs : sl ≤ 7302250) (hV : V g Y_law 18 ls [] m0 (ZL g b)) : VB g (YBL nm) 1 18 ls [] (penL g 1 ++ modL g 298) c sl (ZLB g b) := by
  intro p e s mid args below meth cc H locs la hF hE hb hz hP hS hL
  show W p g.1 e room_1 s mid args below meth cc H locs c sl (fun t => (args = #[Value.ref b] ∧ SE g s s.heap ∧ s.heap.size = g.2.2.2.1 1) → lw_Z below args s t) (F0 mid 18 la [])
  by_cases q : args = #[Value.ref b] ∧ SE g s s.heap ∧ s.heap.size = g.2.2.2.1 1
  · obtain ⟨rfl, hSE, hsz⟩ := q
    rw [fin_WS] at hP
    have hGK : GK g := fun i j h1 h2 h3 h4 h5 => hg.inj (by have h2 : i ≤ 317 := h2; omega) (by have h4 : j ≤ 317 := h4; omega) h5
    have hS' : va_S (AA g) s.heap H [] := by
      refine ⟨hS.1, fun a h1 _ => hS.2.1 a h1 (fun z => ?_), fun l hl => by cases hl⟩
      have z : g.2.2.2.1 1 ≤ a := z
      omega
    have k : W p g.1 e room_1 s mid #[Value.ref b] below meth cc H [] 600000 7302250 (fun t => (#[Value.ref b] = #[Value.ref b] ∧ ∀ k, 1 ≤ k → k ≤ NW → s.heap.size ≤ g.2.2.2.1 k) → lw_Z below #[Value.ref b] s t) (F0 mid 18 la []) := hV p e s mid #[Value.ref b] below meth cc H [] la hGK hF.1 hSE hP hS' hL
    have k2 : W p g.1 e room_1 s mid #[Value.ref b] below meth cc H locs c sl (fun t => (#[Value.ref b] = #[Value.ref b] ∧ ∀ k, 1 ≤ k → k ≤ NW → s.heap.size ≤ g.2.2.2.1 k) → lw_Z below #[Value.ref b] s t) (F0 mid 18 la []) :=
      W.widen hc hs (va_forget (fun l hl => by rw [hsz]; exact hS.2.2 l hl) k)
    intro T hT X
    obtain ⟨t, a1, b1⟩ := k2 T hT X
    refine ⟨t, a1, fun _ => b1 ⟨rfl, fun k h1 h2 => ?_⟩⟩
    have h2 : k ≤ 317 := h2
    have e1 := hg.add (lo := 1) (j := k - 1) (by omega)
    rw [show 1 + (k - 1) = k by omega] at e1
    rw [hsz, e1]
    omega
  · intro T hT X
    exact ⟨_, Steps.refl _, fun z => absurd z q⟩
theorem cl_La_7 : Cond.classLink RL 7 RX10 ∈ AW := (awi1 20 (by decide +kernel) rfl)
theorem cl_La_10 : Cond.classLink RL 10 RX11 ∈ AW := (awi6 98 (by decide +kernel) rfl)
theorem ivi_La_9 : IVI RL 9 YB_PL 0 := ⟨(awi1 24 (by decide +kernel) rfl), (awi1 22 (by decide +kernel) rfl), (awi1 23 (by decide +kernel) rfl), itd_10, by decide +kernel, rfl, by decide +kernel, by decide +kernel, by decide +kernel⟩
theorem ivi_La_12 : IVI RL 12 YB_Mo 0 := ⟨(awi6 102 (by decide +kernel) rfl), (awi6 100 (by decide +kernel) rfl), (awi6 101 (by decide +kernel) rfl), itd_11, by decide +kernel, rfl, by decide +kernel, by decide +kernel, by decide +kernel⟩
set_option maxRecDepth 40000 in
theorem law_in (hg : GB g) (hL : g.2.2.2.2.1 ≤ 3072) : VB g (YBL nm) 1 0 [some (vr 3000), none, none, none] [] [] 0 0 (ZLB g b) := by
  refine B_new hg (fs := [.null, .null, .null, .null, .null, .null, .null, .null, .null, .null, .int 0]) tyX10 (show 1 + 0 < 399 by omega) (by decide) (pc := 0) dL_law_0 cf_10 cl_La_7 ist_10 itd_10 tyX10_ok dfl_10 (Nat.le_of_ble_eq_true rfl) (Nat.le_of_ble_eq_true rfl) ?_
  refine B_as (st' := [vr 1]) (ws' := [.inr (10, [.null, .null, .null, .null, .null, .null, .null, .null, .null, .null, .int 0])]) (c' := 1) (sl' := 11) rfl rfl rfl rfl ?_
  refine B_dupr (pc := 3) dL_law_3 ?_
  refine B_invI hg (pre := []) (wc := [.inr (10, [.null, .null, .null, .null, .null, .null, .null, .null, .null, .null, .int 0])]) rfl (show 1 + 1 < 400 by omega) (by decide) (pc := 4) dL_law_4 (c_PL (q := 1) hg (by decide) (by decide)) ivi_La_9 ⟨⟨Nat.le_of_ble_eq_true rfl, Nat.le_of_ble_eq_true rfl⟩, Nat.le_of_ble_eq_true rfl, Nat.le_of_ble_eq_true rfl⟩ rfl (by decide) (Nat.le_of_ble_eq_true rfl) rfl rfl rfl ?_
  refine B_as (st' := [vr 1]) (ws' := penL g 1) (c' := 297) (sl' := 7607) rfl rfl rfl rfl ?_
  refine B_astore_n (i := 1) (pc := 7) (ls' := [some (vr 3000), some (vr 1), none, none]) dL_law_7 rfl (by decide) (Nat.le_of_ble_eq_true rfl) rfl ?_
  refine B_new hg (fs := [.int 0, .null, .null, .null, .null, .int 0, .null, .int 0, .int 0, .int 0, .int 0, .int 0, .int 0, .int 0, .null, .null, .null, .null, .null, .null, .null, .null, .null, .null, .long 0, .int 0, .int 0, .null, .null, .null, .null]) tyX11 (show 1 + 297 < 399 by omega) (by decide) (pc := 8) dL_law_8 cf_11 cl_La_10 ist_11 itd_11 tyX11_ok dfl_11 (Nat.le_of_ble_eq_true rfl) (Nat.le_of_ble_eq_true rfl) ?_
  refine B_as (st' := [vr 298]) (ws' := penL g 1 ++ [.inr (11, [.int 0, .null, .null, .null, .null, .int 0, .null, .int 0, .int 0, .int 0, .int 0, .int 0, .int 0, .int 0, .null, .null, .null, .null, .null, .null, .null, .null, .null, .null, .long 0, .int 0, .int 0, .null, .null, .null, .null])]) (c' := 298) (sl' := 7638) rfl rfl rfl rfl ?_
  refine B_dupr (pc := 11) dL_law_11 ?_
  refine B_invI hg (pre := penL g 1) (wc := [.inr (11, [.int 0, .null, .null, .null, .null, .int 0, .null, .int 0, .int 0, .int 0, .int 0, .int 0, .int 0, .int 0, .null, .null, .null, .null, .null, .null, .null, .null, .null, .null, .long 0, .int 0, .int 0, .null, .null, .null, .null])]) rfl (show 1 + 298 < 400 by omega) (by decide) (pc := 12) dL_law_12 (c_Mo (q := 298) hg (by decide) (by decide)) ivi_La_12 ⟨⟨Nat.le_of_ble_eq_true rfl, Nat.le_of_ble_eq_true rfl⟩, Nat.le_of_ble_eq_true rfl, Nat.le_of_ble_eq_true rfl⟩ rfl (by decide) (Nat.le_of_ble_eq_true rfl) rfl rfl rfl ?_
  refine B_as (st' := [vr 298]) (ws' := penL g 1 ++ modL g 298) (c' := 317) (sl' := 110073) rfl rfl rfl rfl ?_
  refine B_astore_n (i := 2) (pc := 15) (ls' := [some (vr 3000), some (vr 1), some (vr 298), none]) dL_law_15 rfl (by decide) (Nat.le_of_ble_eq_true rfl) rfl ?_
  refine B_iconst (v := 0) (pc := 16) dL_law_16 rfl ?_
  refine B_istore_n (i := 3) (pc := 17) (ls' := [some (vr 3000), some (vr 1), some (vr 298), some (vi (nI (6 * 0)))]) dL_law_17 rfl (Nat.le_of_ble_eq_true rfl) rfl ?_
  exact law_switch hg (Nat.le_of_ble_eq_true rfl) (Nat.le_of_ble_eq_true rfl) (law_go hL g.2.2.2.2.1 0 m0 (by omega) (by decide) RR0)
end LAWIN
