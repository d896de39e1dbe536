section LM
variable {st : TS} {aa : Nat → Nat → Nat} {Y : TY} {X : Hp} {v a : Nat}
def mf7 : Nat → Int32 := upd (upd (upd (fun _ => 0) (0 : Int32).toNatClampNeg (1 : Int32)) (1 : Int32).toNatClampNeg (2 : Int32)) (2 : Int32).toNatClampNeg (6 : Int32)
def mf8 : Nat → Int32 := upd (upd (upd (fun _ => 0) (0 : Int32).toNatClampNeg (200 : Int32)) (1 : Int32).toNatClampNeg (500 : Int32)) (2 : Int32).toNatClampNeg (800 : Int32)
def mF (s : Nat) : Nat → Int32 := if s = 7 then mf7 else if s = 8 then mf8 else fun _ => 0
set_option maxRecDepth 100000 in
set_option maxHeartbeats 4000000 in
theorem n_model {post : Hp → Prop} {mc ms : Nat} (hmc : 18 ≤ mc) (hms : 258076 ≤ ms) (R : Rel st aa Y X) (nt : ¬ Ty aa Y v) (hv : Hs X v (.inr (10, [.null, .null, .null, .null, .null, .null, .null, .null, .null, .null, .int 0, .null, .null, .null, .int 0, .int 0, .int 0, .int 0, .int 0, .null, .null, .null, .int 0, .null, .null, .int 0, .int 0]))) (hp : ∀ X' aa' Y', Rel st aa' Y' X' → Gw v st aa Y X st aa' Y' X' → (∀ T, TT Y T → TT Y' (v :: T)) → tK Y' v = 10 → (∀ t, tI Y' v t = 0) → (∀ s, tA Y' v s = mF s) → post X') : wp_X10_init post mc ms X v := by
  unfold wp_X10_init
  have po := PO.start R nt hv
  refine ⟨by omega, by omega, fun q0 hq0 X2 e2 => ⟨_, po.hs2 hq0 e2, Nat.le_of_ble_eq_true rfl, fun X4 e4 => ?_⟩⟩
  replace e4 : X4 = hput X2 v (.inr (10, [.ref q0, .null, .null, .null, .null, .null, .null, .null, .null, .null, .int 0, .null, .null, .null, .int 0, .int 0, .int 0, .int 0, .int 0, .null, .null, .null, .int 0, .null, .null, .int 0, .int 0])) := e4
  replace po := po.step (s0 := 0) (by decide) hq0 e2 _ e4
  clear e2 e4
  refine ⟨by omega, by omega, fun q1 hq1 X2 e2 => ⟨_, po.hs2 hq1 e2, Nat.le_of_ble_eq_true rfl, fun X4 e4 => ?_⟩⟩
  replace e4 : X4 = hput X2 v (.inr (10, [.ref q0, .ref q1, .null, .null, .null, .null, .null, .null, .null, .null, .int 0, .null, .null, .null, .int 0, .int 0, .int 0, .int 0, .int 0, .null, .null, .null, .int 0, .null, .null, .int 0, .int 0])) := e4
  replace po := po.step (s0 := 1) (by decide) hq1 e2 _ e4
  clear e2 e4
  refine ⟨by omega, by omega, fun q2 hq2 X2 e2 => ⟨_, po.hs2 hq2 e2, Nat.le_of_ble_eq_true rfl, fun X4 e4 => ?_⟩⟩
  replace e4 : X4 = hput X2 v (.inr (10, [.ref q0, .ref q1, .ref q2, .null, .null, .null, .null, .null, .null, .null, .int 0, .null, .null, .null, .int 0, .int 0, .int 0, .int 0, .int 0, .null, .null, .null, .int 0, .null, .null, .int 0, .int 0])) := e4
  replace po := po.step (s0 := 2) (by decide) hq2 e2 _ e4
  clear e2 e4
  refine ⟨by omega, by omega, fun q3 hq3 X2 e2 => ⟨_, po.hs2 hq3 e2, Nat.le_of_ble_eq_true rfl, fun X4 e4 => ?_⟩⟩
  replace e4 : X4 = hput X2 v (.inr (10, [.ref q0, .ref q1, .ref q2, .ref q3, .null, .null, .null, .null, .null, .null, .int 0, .null, .null, .null, .int 0, .int 0, .int 0, .int 0, .int 0, .null, .null, .null, .int 0, .null, .null, .int 0, .int 0])) := e4
  replace po := po.step (s0 := 3) (by decide) hq3 e2 _ e4
  clear e2 e4
  refine ⟨by omega, by omega, fun q4 hq4 X2 e2 => ⟨_, po.hs2 hq4 e2, Nat.le_of_ble_eq_true rfl, fun X4 e4 => ?_⟩⟩
  replace e4 : X4 = hput X2 v (.inr (10, [.ref q0, .ref q1, .ref q2, .ref q3, .ref q4, .null, .null, .null, .null, .null, .int 0, .null, .null, .null, .int 0, .int 0, .int 0, .int 0, .int 0, .null, .null, .null, .int 0, .null, .null, .int 0, .int 0])) := e4
  replace po := po.step (s0 := 4) (by decide) hq4 e2 _ e4
  clear e2 e4
  refine ⟨by omega, by omega, fun q5 hq5 X2 e2 => ⟨_, po.hs2 hq5 e2, Nat.le_of_ble_eq_true rfl, fun X4 e4 => ?_⟩⟩
  replace e4 : X4 = hput X2 v (.inr (10, [.ref q0, .ref q1, .ref q2, .ref q3, .ref q4, .ref q5, .null, .null, .null, .null, .int 0, .null, .null, .null, .int 0, .int 0, .int 0, .int 0, .int 0, .null, .null, .null, .int 0, .null, .null, .int 0, .int 0])) := e4
  replace po := po.step (s0 := 5) (by decide) hq5 e2 _ e4
  clear e2 e4
  refine ⟨by omega, by omega, fun q6 hq6 X2 e2 => ⟨_, po.hs2 hq6 e2, Nat.le_of_ble_eq_true rfl, fun X4 e4 => ?_⟩⟩
  replace e4 : X4 = hput X2 v (.inr (10, [.ref q0, .ref q1, .ref q2, .ref q3, .ref q4, .ref q5, .ref q6, .null, .null, .null, .int 0, .null, .null, .null, .int 0, .int 0, .int 0, .int 0, .int 0, .null, .null, .null, .int 0, .null, .null, .int 0, .int 0])) := e4
  replace po := po.step (s0 := 6) (by decide) hq6 e2 _ e4
  clear e2 e4
  refine ⟨by omega, by omega, fun q7 hq7 X2 e2 => ⟨_, po.hs2 hq7 e2, Nat.le_of_ble_eq_true rfl, fun X4 e4 => ?_⟩⟩
  replace e4 : X4 = hput X2 v (.inr (10, [.ref q0, .ref q1, .ref q2, .ref q3, .ref q4, .ref q5, .ref q6, .ref q7, .null, .null, .int 0, .null, .null, .null, .int 0, .int 0, .int 0, .int 0, .int 0, .null, .null, .null, .int 0, .null, .null, .int 0, .int 0])) := e4
  replace po := po.step (s0 := 7) (by decide) hq7 e2 _ e4
  clear e2 e4
  refine ⟨by omega, by omega, fun q8 hq8 X2 e2 => ⟨_, po.hs2 hq8 e2, Nat.le_of_ble_eq_true rfl, fun X4 e4 => ?_⟩⟩
  replace e4 : X4 = hput X2 v (.inr (10, [.ref q0, .ref q1, .ref q2, .ref q3, .ref q4, .ref q5, .ref q6, .ref q7, .ref q8, .null, .int 0, .null, .null, .null, .int 0, .int 0, .int 0, .int 0, .int 0, .null, .null, .null, .int 0, .null, .null, .int 0, .int 0])) := e4
  replace po := po.step (s0 := 8) (by decide) hq8 e2 _ e4
  clear e2 e4
  refine ⟨by omega, by omega, fun q9 hq9 X2 e2 => ⟨_, po.hs2 hq9 e2, Nat.le_of_ble_eq_true rfl, fun X4 e4 => ?_⟩⟩
  replace e4 : X4 = hput X2 v (.inr (10, [.ref q0, .ref q1, .ref q2, .ref q3, .ref q4, .ref q5, .ref q6, .ref q7, .ref q8, .ref q9, .int 0, .null, .null, .null, .int 0, .int 0, .int 0, .int 0, .int 0, .null, .null, .null, .int 0, .null, .null, .int 0, .int 0])) := e4
  replace po := po.step (s0 := 9) (by decide) hq9 e2 _ e4
  clear e2 e4
  refine ⟨by omega, by omega, fun q11 hq11 X2 e2 => ⟨_, po.hs2 hq11 e2, Nat.le_of_ble_eq_true rfl, fun X4 e4 => ?_⟩⟩
  replace e4 : X4 = hput X2 v (.inr (10, [.ref q0, .ref q1, .ref q2, .ref q3, .ref q4, .ref q5, .ref q6, .ref q7, .ref q8, .ref q9, .int 0, .ref q11, .null, .null, .int 0, .int 0, .int 0, .int 0, .int 0, .null, .null, .null, .int 0, .null, .null, .int 0, .int 0])) := e4
  replace po := po.step (s0 := 11) (by decide) hq11 e2 _ e4
  clear e2 e4
  refine ⟨by omega, by omega, fun q12 hq12 X2 e2 => ⟨_, po.hs2 hq12 e2, Nat.le_of_ble_eq_true rfl, fun X4 e4 => ?_⟩⟩
  replace e4 : X4 = hput X2 v (.inr (10, [.ref q0, .ref q1, .ref q2, .ref q3, .ref q4, .ref q5, .ref q6, .ref q7, .ref q8, .ref q9, .int 0, .ref q11, .ref q12, .null, .int 0, .int 0, .int 0, .int 0, .int 0, .null, .null, .null, .int 0, .null, .null, .int 0, .int 0])) := e4
  replace po := po.step (s0 := 12) (by decide) hq12 e2 _ e4
  clear e2 e4
  refine ⟨by omega, by omega, fun q13 hq13 X2 e2 => ⟨_, po.hs2 hq13 e2, Nat.le_of_ble_eq_true rfl, fun X4 e4 => ?_⟩⟩
  replace e4 : X4 = hput X2 v (.inr (10, [.ref q0, .ref q1, .ref q2, .ref q3, .ref q4, .ref q5, .ref q6, .ref q7, .ref q8, .ref q9, .int 0, .ref q11, .ref q12, .ref q13, .int 0, .int 0, .int 0, .int 0, .int 0, .null, .null, .null, .int 0, .null, .null, .int 0, .int 0])) := e4
  replace po := po.step (s0 := 13) (by decide) hq13 e2 _ e4
  clear e2 e4
  refine ⟨by omega, by omega, fun q19 hq19 X2 e2 => ⟨_, po.hs2 hq19 e2, Nat.le_of_ble_eq_true rfl, fun X4 e4 => ?_⟩⟩
  replace e4 : X4 = hput X2 v (.inr (10, [.ref q0, .ref q1, .ref q2, .ref q3, .ref q4, .ref q5, .ref q6, .ref q7, .ref q8, .ref q9, .int 0, .ref q11, .ref q12, .ref q13, .int 0, .int 0, .int 0, .int 0, .int 0, .ref q19, .null, .null, .int 0, .null, .null, .int 0, .int 0])) := e4
  replace po := po.step (s0 := 19) (by decide) hq19 e2 _ e4
  clear e2 e4
  refine ⟨by omega, by omega, fun q20 hq20 X2 e2 => ⟨_, po.hs2 hq20 e2, Nat.le_of_ble_eq_true rfl, fun X4 e4 => ?_⟩⟩
  replace e4 : X4 = hput X2 v (.inr (10, [.ref q0, .ref q1, .ref q2, .ref q3, .ref q4, .ref q5, .ref q6, .ref q7, .ref q8, .ref q9, .int 0, .ref q11, .ref q12, .ref q13, .int 0, .int 0, .int 0, .int 0, .int 0, .ref q19, .ref q20, .null, .int 0, .null, .null, .int 0, .int 0])) := e4
  replace po := po.step (s0 := 20) (by decide) hq20 e2 _ e4
  clear e2 e4
  refine ⟨by omega, by omega, fun q21 hq21 X2 e2 => ⟨_, po.hs2 hq21 e2, Nat.le_of_ble_eq_true rfl, fun X4 e4 => ?_⟩⟩
  replace e4 : X4 = hput X2 v (.inr (10, [.ref q0, .ref q1, .ref q2, .ref q3, .ref q4, .ref q5, .ref q6, .ref q7, .ref q8, .ref q9, .int 0, .ref q11, .ref q12, .ref q13, .int 0, .int 0, .int 0, .int 0, .int 0, .ref q19, .ref q20, .ref q21, .int 0, .null, .null, .int 0, .int 0])) := e4
  replace po := po.step (s0 := 21) (by decide) hq21 e2 _ e4
  clear e2 e4
  refine ⟨by omega, by omega, fun q23 hq23 X2 e2 => ⟨_, po.hs2 hq23 e2, Nat.le_of_ble_eq_true rfl, fun X4 e4 => ?_⟩⟩
  replace e4 : X4 = hput X2 v (.inr (10, [.ref q0, .ref q1, .ref q2, .ref q3, .ref q4, .ref q5, .ref q6, .ref q7, .ref q8, .ref q9, .int 0, .ref q11, .ref q12, .ref q13, .int 0, .int 0, .int 0, .int 0, .int 0, .ref q19, .ref q20, .ref q21, .int 0, .ref q23, .null, .int 0, .int 0])) := e4
  replace po := po.step (s0 := 23) (by decide) hq23 e2 _ e4
  clear e2 e4
  refine ⟨by omega, by omega, fun q24 hq24 X2 e2 => ⟨_, po.hs2 hq24 e2, Nat.le_of_ble_eq_true rfl, fun X4 e4 => ?_⟩⟩
  replace e4 : X4 = hput X2 v (.inr (10, [.ref q0, .ref q1, .ref q2, .ref q3, .ref q4, .ref q5, .ref q6, .ref q7, .ref q8, .ref q9, .int 0, .ref q11, .ref q12, .ref q13, .int 0, .int 0, .int 0, .int 0, .int 0, .ref q19, .ref q20, .ref q21, .int 0, .ref q23, .ref q24, .int 0, .int 0])) := e4
  replace po := po.step (s0 := 24) (by decide) hq24 e2 _ e4
  clear e2 e4
  refine ⟨_, q7, po.2.2.2.1, rfl, 3, _, (po.2.2.2.2.1 7 (by decide)).1, (show vp_in (nI 0) 3 from vp_in_nI (by decide) (by decide)), fun X5 e5 => ?_⟩
  replace po := po.upd (s0 := 7) (by decide) e5
  clear e5
  refine ⟨_, q7, po.2.2.2.1, rfl, 3, _, (po.2.2.2.2.1 7 (by decide)).1, (show vp_in (nI 1) 3 from vp_in_nI (by decide) (by decide)), fun X5 e5 => ?_⟩
  replace po := po.upd (s0 := 7) (by decide) e5
  clear e5
  refine ⟨_, q7, po.2.2.2.1, rfl, 3, _, (po.2.2.2.2.1 7 (by decide)).1, (show vp_in (nI 2) 3 from vp_in_nI (by decide) (by decide)), fun X5 e5 => ?_⟩
  replace po := po.upd (s0 := 7) (by decide) e5
  clear e5
  refine ⟨_, q8, po.2.2.2.1, rfl, 3, _, (po.2.2.2.2.1 8 (by decide)).1, (show vp_in (nI 0) 3 from vp_in_nI (by decide) (by decide)), fun X5 e5 => ?_⟩
  replace po := po.upd (s0 := 8) (by decide) e5
  clear e5
  refine ⟨_, q8, po.2.2.2.1, rfl, 3, _, (po.2.2.2.2.1 8 (by decide)).1, (show vp_in (nI 1) 3 from vp_in_nI (by decide) (by decide)), fun X5 e5 => ?_⟩
  replace po := po.upd (s0 := 8) (by decide) e5
  clear e5
  refine ⟨_, q8, po.2.2.2.1, rfl, 3, _, (po.2.2.2.2.1 8 (by decide)).1, (show vp_in (nI 2) 3 from vp_in_nI (by decide) (by decide)), fun X5 e5 => ?_⟩
  replace po := po.upd (s0 := 8) (by decide) e5
  clear e5
  refine ⟨by omega, by omega, ?_⟩
  have f := po.fin (st' := st) (by decide) (fun _ => 0) mF (fun a _ => ⟨rfl, rfl⟩) (by rw [tob10 (tK_Yn _ _ _ _ _), tI_Yn, va_up_self]; rfl) (fun s hs => ?_) (twv_x (tK_Yn _ _ _ _ _) (by decide) (by decide) (by decide) (by decide))
  · exact hp _ _ _ f.1 f.2.1 f.2.2 (tK_Yn _ _ _ _ _) (fun t => by rw [tI_Yn]) (fun s => by rw [tA_Yn])
  · have hs : s = 0 ∨ s = 1 ∨ s = 2 ∨ s = 3 ∨ s = 4 ∨ s = 5 ∨ s = 6 ∨ s = 7 ∨ s = 8 ∨ s = 9 ∨ s = 11 ∨ s = 12 ∨ s = 13 ∨ s = 19 ∨ s = 20 ∨ s = 21 ∨ s = 23 ∨ s = 24 := by
      simpa [isA] using hs
    rcases hs with rfl | rfl | rfl | rfl | rfl | rfl | rfl | rfl | rfl | rfl | rfl | rfl | rfl | rfl | rfl | rfl | rfl | rfl
    · refine ⟨by decide, ?_⟩
      rw [tar10_0 (tK_Yn _ _ _ _ _), tA_Yn]
      rfl
    · refine ⟨by decide, ?_⟩
      rw [tar10_1 (tK_Yn _ _ _ _ _), tA_Yn]
      rfl
    · refine ⟨by decide, ?_⟩
      rw [tar10_2 (tK_Yn _ _ _ _ _), tA_Yn]
      rfl
    · refine ⟨by decide, ?_⟩
      rw [tar10_3 (tK_Yn _ _ _ _ _), tA_Yn]
      rfl
    · refine ⟨by decide, ?_⟩
      rw [tar10_4 (tK_Yn _ _ _ _ _), tA_Yn]
      rfl
    · refine ⟨by decide, ?_⟩
      rw [tar10_5 (tK_Yn _ _ _ _ _), tA_Yn]
      rfl
    · refine ⟨by decide, ?_⟩
      rw [tar10_6 (tK_Yn _ _ _ _ _), tA_Yn]
      rfl
    · refine ⟨by decide, ?_⟩
      rw [tar10_7 (tK_Yn _ _ _ _ _), tA_Yn]
      rfl
    · refine ⟨by decide, ?_⟩
      rw [tar10_8 (tK_Yn _ _ _ _ _), tA_Yn]
      rfl
    · refine ⟨by decide, ?_⟩
      rw [tar10_9 (tK_Yn _ _ _ _ _), tA_Yn]
      rfl
    · refine ⟨by decide, ?_⟩
      rw [tar10_11 (tK_Yn _ _ _ _ _), tA_Yn]
      rfl
    · refine ⟨by decide, ?_⟩
      rw [tar10_12 (tK_Yn _ _ _ _ _), tA_Yn]
      rfl
    · refine ⟨by decide, ?_⟩
      rw [tar10_13 (tK_Yn _ _ _ _ _), tA_Yn]
      rfl
    · refine ⟨by decide, ?_⟩
      rw [tar10_19 (tK_Yn _ _ _ _ _), tA_Yn]
      rfl
    · refine ⟨by decide, ?_⟩
      rw [tar10_20 (tK_Yn _ _ _ _ _), tA_Yn]
      rfl
    · refine ⟨by decide, ?_⟩
      rw [tar10_21 (tK_Yn _ _ _ _ _), tA_Yn]
      rfl
    · refine ⟨by decide, ?_⟩
      rw [tar10_23 (tK_Yn _ _ _ _ _), tA_Yn]
      rfl
    · refine ⟨by decide, ?_⟩
      rw [tar10_24 (tK_Yn _ _ _ _ _), tA_Yn]
      rfl
end LM
