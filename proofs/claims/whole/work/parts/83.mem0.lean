/-! the memory that the constructors leave, and that the two sides stand for the same there -/
section MEM0
def hx0 (k : Nat) : Bool := (k == 53) || (k == 95) || (k == 136) || (k == 177) || (k == 246) || (k == 314)
def flF : Nat → Int32 := fun j => bif j == 8 then 1 else bif j == 9 then 5 else bif j == 10 then 50 else bif j == 11 then 50 else bif j == 12 then 20 else 0
def m0 : Mem := (fun k => bif kd k == 3 then flF else bif k == 2 then (fun j => bif j == 4 then -1 else 0) else bif kd k == 5 then (fun j => bif j == 0 then 1 else 0) else bif k == 298 then (fun j => bif j == 13 then -1 else 0) else bif k == 299 then (fun i => nI (z0W i)) else bif hx0 k then (fun _ => -1) else (fun _ => 0), fun _ _ => 0)
def wsR (g : GE) (p n : Nat) : List va_E := (List.range n).map (fun j => ent g m0 (p + j))
theorem wsR_app (g : GE) (p a b : Nat) : wsR g p (a + b) = wsR g p a ++ wsR g (p + a) b := by
  unfold wsR
  apply List.ext_getElem?
  intro j
  rw [List.getElem?_map]
  rcases Nat.lt_or_ge j (a + b) with h | h
  · rw [List.getElem?_range h, Option.map_some]
    rcases Nat.lt_or_ge j a with q | q
    · rw [List.getElem?_append_left (by simpa using q), List.getElem?_map, List.getElem?_range q, Option.map_some]
    · rw [List.getElem?_append_right (by simpa using q), List.getElem?_map, List.length_map, List.length_range, List.getElem?_range (by omega), Option.map_some, show p + a + (j - a) = p + j by omega]
  · rw [List.getElem?_eq_none (by simpa using h), Option.map_none, List.getElem?_eq_none (by simp; omega)]
theorem wb_wsR (g : GE) (p n : Nat) : wb g p (wsR g p n) = (List.range n).map (fun j => (g.2.2.2.1 (p + j), ent g m0 (p + j))) := by
  apply List.ext_getElem?
  intro j
  rw [wb_get]
  unfold wsR
  rw [List.getElem?_map, List.getElem?_map]
  rcases Nat.lt_or_ge j n with h | h
  · rw [List.getElem?_range h]
    rfl
  · rw [List.getElem?_eq_none (by simpa using h)]
    rfl
set_option maxRecDepth 20000 in
theorem bl_2 (g : GE) : reaL g 2 = wsR g 2 26 := rfl
set_option maxRecDepth 20000 in
theorem bl_28 (g : GE) : camL g 28 = wsR g 28 41 := rfl
set_option maxRecDepth 20000 in
theorem bl_70 (g : GE) : camL g 70 = wsR g 70 41 := rfl
set_option maxRecDepth 20000 in
theorem bl_111 (g : GE) : camL g 111 = wsR g 111 41 := rfl
set_option maxRecDepth 20000 in
theorem bl_152 (g : GE) : camL g 152 = wsR g 152 41 := rfl
set_option maxRecDepth 20000 in
theorem bl_195 (g : GE) : rowL g 195 = wsR g 195 2 := rfl
set_option maxRecDepth 20000 in
theorem bl_197 (g : GE) : rowL g 197 = wsR g 197 2 := rfl
set_option maxRecDepth 20000 in
theorem bl_199 (g : GE) : rowL g 199 = wsR g 199 2 := rfl
set_option maxRecDepth 20000 in
theorem bl_201 (g : GE) : rowL g 201 = wsR g 201 2 := rfl
set_option maxRecDepth 20000 in
theorem bl_203 (g : GE) : iceL g 203 = wsR g 203 17 := rfl
set_option maxRecDepth 20000 in
theorem bl_220 (g : GE) : triL g 220 = wsR g 220 59 := rfl
set_option maxRecDepth 20000 in
theorem bl_279 (g : GE) : stoL g 279 = wsR g 279 3 := rfl
set_option maxRecDepth 20000 in
theorem bl_282 (g : GE) : goiL g 282 = wsR g 282 13 := rfl
set_option maxRecDepth 20000 in
theorem bl_295 (g : GE) : driL g 295 = wsR g 295 3 := rfl
set_option maxRecDepth 20000 in
theorem bl_298 (g : GE) : modL g 298 = wsR g 298 20 := rfl
theorem bs_1 (g : GE) : ([.inr (10, [.ref (g.2.2.2.1 (1 + 1)), .ref (g.2.2.2.1 (1 + 27)), .ref (g.2.2.2.1 (1 + 68)), .ref (g.2.2.2.1 (1 + 192)), .ref (g.2.2.2.1 (1 + 193)), .ref (g.2.2.2.1 (1 + 202)), .ref (g.2.2.2.1 (1 + 219)), .ref (g.2.2.2.1 (1 + 278)), .ref (g.2.2.2.1 (1 + 281)), .ref (g.2.2.2.1 (1 + 294)), .int 0])] : List va_E) = wsR g 1 1 := rfl
theorem bs_69 (g : GE) : ([.inl (g.2.2.1 6, 3, .inr (.inr (.inr (.inr (fun i => some (g.2.2.2.1 (1 + 68 + (1 + 41 * i))))))))] : List va_E) = wsR g 69 1 := rfl
theorem bs_193 (g : GE) : ([.inl (g.2.2.1 3, 3, .inl (fun _ => 0))] : List va_E) = wsR g 193 1 := rfl
theorem bs_194 (g : GE) : ([.inl (g.2.2.1 7, 4, .inr (.inr (.inr (.inr (fun i => some (g.2.2.2.1 (1 + 193 + (1 + 2 * i))))))))] : List va_E) = wsR g 194 1 := rfl
set_option maxRecDepth 20000 in
theorem fin_eq (g : GE) : penL g 1 ++ modL g 298 = wsR g 1 317 := by
  have e : penL g 1 ++ modL g 298 = [.inr (10, [.ref (g.2.2.2.1 (1 + 1)), .ref (g.2.2.2.1 (1 + 27)), .ref (g.2.2.2.1 (1 + 68)), .ref (g.2.2.2.1 (1 + 192)), .ref (g.2.2.2.1 (1 + 193)), .ref (g.2.2.2.1 (1 + 202)), .ref (g.2.2.2.1 (1 + 219)), .ref (g.2.2.2.1 (1 + 278)), .ref (g.2.2.2.1 (1 + 281)), .ref (g.2.2.2.1 (1 + 294)), .int 0])] ++ (reaL g 2 ++ (camL g 28 ++ ([.inl (g.2.2.1 6, 3, .inr (.inr (.inr (.inr (fun i => some (g.2.2.2.1 (1 + 68 + (1 + 41 * i))))))))] ++ (camL g 70 ++ (camL g 111 ++ (camL g 152 ++ ([.inl (g.2.2.1 3, 3, .inl (fun _ => 0))] ++ ([.inl (g.2.2.1 7, 4, .inr (.inr (.inr (.inr (fun i => some (g.2.2.2.1 (1 + 193 + (1 + 2 * i))))))))] ++ (rowL g 195 ++ (rowL g 197 ++ (rowL g 199 ++ (rowL g 201 ++ (iceL g 203 ++ (triL g 220 ++ (stoL g 279 ++ (goiL g 282 ++ (driL g 295 ++ (modL g 298)))))))))))))))))) := by
    unfold penL
    simp only [List.append_assoc, List.cons_append, List.nil_append]
  rw [e, bs_1, bl_2, bl_28, bs_69, bl_70, bl_111, bl_152, bs_193, bs_194, bl_195, bl_197, bl_199, bl_201, bl_203, bl_220, bl_279, bl_282, bl_295, bl_298, show (317 : Nat) = 1 + (26 + (41 + (1 + (41 + (41 + (41 + (1 + (1 + (2 + (2 + (2 + (2 + (17 + (59 + (3 + (13 + (3 + (20)))))))))))))))))) from rfl]
  repeat rw [wsR_app]
theorem fin_WS (g : GE) : wb g 1 (penL g 1 ++ modL g 298) = WS g m0 := by
  rw [fin_eq, wb_wsR]
  unfold WS
  show (List.range 317).map _ = (List.range 317).map _
  congr 1
  funext j
  rw [Nat.add_comm 1 j]
theorem z0bg : bgW z0W 0 = z0W := by
  funext i
  unfold bgW wu
  by_cases h : i = 190
  · rw [if_pos h, h]; rfl
  · rw [if_neg h]
    by_cases h2 : i = 20
    · rw [if_pos h2, h2]; rfl
    · rw [if_neg h2]
theorem inv0 : Inv z0W := by
  rw [← z0bg]
  exact LQ.inv (i := 0) ⟨rfl, Or.inl ⟨rfl, rfl⟩⟩ (by decide) 0
theorem RR0 : RR m0 := by
  refine ⟨z0W, ⟨⟨⟨0, by decide, rfl, rfl⟩, fun i _ => ⟨rfl, (by decide : -128 ≤ (0 : Int32).toInt), (by decide : (0 : Int32).toInt ≤ 127)⟩⟩, ⟨rfl, rfl, rfl⟩, fun k hk => ⟨?_, fun h => absurd ?_ h⟩, fun k hk => Or.inl ⟨?_, ?_⟩⟩, fun i _ => rfl, ⟨by decide +kernel, ?_, rfl, rfl, rfl, fun i j hi _ => absurd hi (Nat.not_lt_zero _), fun i j hi _ => absurd hi (Nat.not_lt_zero _), fun i j hi _ => absurd hi (Nat.not_lt_zero _), ?_, ?_, ?_, rfl, rfl, ?_⟩, inv0⟩
  · rfl
  · rfl
  · have h : ∀ k, k < 4 → m0.1 (195 + 2 * k) 1 = 0 := by decide +kernel
    exact h k hk
  · rfl
  · decide +kernel
  · decide +kernel
  · have h : ∀ h, h < 8 → ∀ s, s < 6 → m0.1 (28 + 28 + h) s = nI (whe z0W h (3 + s)) := by decide +kernel
    exact fun a b p q => h a p b q
  · decide +kernel
  · decide +kernel
end MEM0
