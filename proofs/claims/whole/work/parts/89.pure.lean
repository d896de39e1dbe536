def Y00 : TY := (fun _ => 11, fun _ _ => 0, fun _ _ _ => 0, fun _ => none, fun _ _ => none)
def st00 : TS := (fun _ _ => 0, fun _ _ _ => none)
theorem rel00 : Rel st00 (fun _ _ => 0) Y00 ([], fun _ => .inr (0, [])) := by
  refine ⟨fun a h => absurd h (Nat.lt_irrefl 11), fun a s h => ?_, fun a s b t h => ?_, fun a h => ?_, fun a h => ?_, fun a h => ?_, fun a h => ?_⟩
  · cases h
  · cases h
  all_goals exact absurd h (show ¬ (11 : Nat) = _ by decide)
theorem tt00 : TT Y00 [] := ⟨List.nodup_nil, fun a => ⟨fun h => absurd h (Nat.lt_irrefl 11), fun h => absurd h List.not_mem_nil⟩⟩
set_option maxRecDepth 100000 in
set_option maxHeartbeats 4000000 in
theorem main_pure (L : Nat) (xs : Nat → Int32) (hL : L ≤ 3072) : wp_L_law L xs ([], fun _ => .inr (0, [])) := by
  unfold wp_L_law
  refine ⟨Nat.le_of_ble_eq_true rfl, Nat.le_of_ble_eq_true rfl, fun v hv X2 e2 => ⟨68, 1892, Nat.le_of_ble_eq_true rfl, Nat.le_of_ble_eq_true rfl, ?_⟩⟩
  subst e2
  refine n_voyage (by decide) (by decide) (rel00.cell hv) (fun z => hv (rel00.ty z)) Hs_new (fun X5 st5 aa5 Y5 c w0 w1 n i0 a0 a1 an i1 b0 b1 bn s p0 p1 d bo t R5 g5 T5 V5 => ⟨Nat.le_of_ble_eq_true rfl, Nat.le_of_ble_eq_true rfl, fun m hm X7 e7 => ⟨18, 258076, Nat.le_of_ble_eq_true rfl, Nat.le_of_ble_eq_true rfl, ?_⟩⟩)
  subst e7
  refine n_model (Nat.le_of_ble_eq_true rfl) (Nat.le_of_ble_eq_true rfl) (R5.cell hm) (fun z => hm (R5.ty z)) Hs_new (fun X8 aa8 Y8 R8 g8 T8 k8 i8 a8 => ⟨512 + 1, ?_⟩)
  have V8 := g8.kp.nv V5
  have T := T8 _ (T5 _ tt00)
  exact law_loop (A := aA [m, v, bo, t, d, p1, p0, s, i1, bn, b1, b0, i0, an, a1, a0, c, n, w1, w0]) (sa00 T V8) hL 512 0 X8 _ _ (by omega) (by omega) ⟨aa8, Y8, G00, R8, cl00 V8 k8, mo00 i8 a8, Nat.le_trans (Nat.le_of_ble_eq_true rfl) (Nat.le_add_right _ _), Nat.le_trans (Nat.le_of_ble_eq_true rfl) (Nat.le_add_right _ _)⟩
