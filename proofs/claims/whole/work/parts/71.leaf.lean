theorem PO.hs2 {st0 st : TS} {aa0 aa : Nat → Nat → Nat} {Y0 Y : TY} {X0 Xc X2 : Hp} {v k q : Nat} {e : AE} {fs : List Value} {Dl : List Nat} {am : Nat → Nat} {ct : Nat → AE} (po : PO st0 aa0 Y0 X0 st aa Y Xc v k fs Dl am ct) (hq : q ∉ Xc.1) (e2 : X2 = hadd Xc q e) : Hs X2 v (.inr (k, fs)) := by
  subst e2
  exact (po.cell hq).1.2.2.2.1
section LF
variable {st : TS} {aa : Nat → Nat → Nat} {Y : TY} {X : Hp} {v a : Nat}
theorem tob0 (h : tK Y a = 0) : tob st aa Y a = .inr (0, [.ref (st.1 a 0), .ref (st.1 a 1), va_rf (tW Y a), .int (tI Y a 3), .int (tI Y a 4), .int (tI Y a 5)]) := by
  unfold tob
  rw [h]
  rfl
theorem tob1 (h : tK Y a = 1) : tob st aa Y a = .inr (1, [.ref (aa a 0), .ref (st.1 a 1)]) := by
  unfold tob
  rw [h]
  rfl
theorem tob2 (h : tK Y a = 2) : tob st aa Y a = .inr (2, [.ref (aa a 0), .ref (aa a 1)]) := by
  unfold tob
  rw [h]
  rfl
theorem tob3 (h : tK Y a = 3) : tob st aa Y a = .inr (3, [.int (tI Y a 0), .ref (aa a 1)]) := by
  unfold tob
  rw [h]
  rfl
theorem tob4 (h : tK Y a = 4) : tob st aa Y a = .inr (4, [.ref (st.1 a 0), .ref (st.1 a 1), .ref (st.1 a 2), .ref (aa a 3)]) := by
  unfold tob
  rw [h]
  rfl
theorem tob6 (h : tK Y a = 6) : tob st aa Y a = .inr (6, [.ref (aa a 0), .ref (aa a 1), .ref (aa a 2)]) := by
  unfold tob
  rw [h]
  rfl
theorem tob7 (h : tK Y a = 7) : tob st aa Y a = .inr (7, [.int (tI Y a 0), .ref (aa a 1), .ref (aa a 2)]) := by
  unfold tob
  rw [h]
  rfl
theorem tob8 (h : tK Y a = 8) : tob st aa Y a = .inr (8, [.int (tI Y a 0), .int (tI Y a 1), .ref (aa a 2), .ref (aa a 3), .ref (aa a 4), .ref (aa a 5), .ref (aa a 6)]) := by
  unfold tob
  rw [h]
  rfl
theorem tob9 (h : tK Y a = 9) : tob st aa Y a = .inr (9, [.ref (st.1 a 0), .ref (aa a 1), .ref (aa a 2), .ref (aa a 3), .ref (st.1 a 4), .ref (st.1 a 5)]) := by
  unfold tob
  rw [h]
  rfl
theorem tob10 (h : tK Y a = 10) : tob st aa Y a = .inr (10, [.ref (aa a 0), .ref (aa a 1), .ref (aa a 2), .ref (aa a 3), .ref (aa a 4), .ref (aa a 5), .ref (aa a 6), .ref (aa a 7), .ref (aa a 8), .ref (aa a 9), .int (tI Y a 10), .ref (aa a 11), .ref (aa a 12), .ref (aa a 13), .int (tI Y a 14), .int (tI Y a 15), .int (tI Y a 16), .int (tI Y a 17), .int (tI Y a 18), .ref (aa a 19), .ref (aa a 20), .ref (aa a 21), .int (tI Y a 22), .ref (aa a 23), .ref (aa a 24), .int (tI Y a 25), .int (tI Y a 26)]) := by
  unfold tob
  rw [h]
  rfl
theorem tar1_0 (h : tK Y a = 1) : tar st Y a 0 = .inl (5, 2, qA (st.2 a 0)) := by
  unfold tar
  rw [h]
  rfl
theorem tar2_0 (h : tK Y a = 2) : tar st Y a 0 = .inl (0, 4, .inl (tA Y a 0)) := by
  unfold tar
  rw [h]
  rfl
theorem tar2_1 (h : tK Y a = 2) : tar st Y a 1 = .inl (0, 4, .inl (tA Y a 1)) := by
  unfold tar
  rw [h]
  rfl
theorem tar3_1 (h : tK Y a = 3) : tar st Y a 1 = .inl (0, 60, .inl (tA Y a 1)) := by
  unfold tar
  rw [h]
  rfl
theorem tar4_3 (h : tK Y a = 4) : tar st Y a 3 = .inl (4, 125, qA (tP Y a)) := by
  unfold tar
  rw [h]
  rfl
theorem tar6_0 (h : tK Y a = 6) : tar st Y a 0 = .inl (0, 210, .inl (tA Y a 0)) := by
  unfold tar
  rw [h]
  rfl
theorem tar6_1 (h : tK Y a = 6) : tar st Y a 1 = .inl (0, 210, .inl (tA Y a 1)) := by
  unfold tar
  rw [h]
  rfl
theorem tar6_2 (h : tK Y a = 6) : tar st Y a 2 = .inl (0, 210, .inl (tA Y a 2)) := by
  unfold tar
  rw [h]
  rfl
theorem tar7_1 (h : tK Y a = 7) : tar st Y a 1 = .inl (0, 60, .inl (tA Y a 1)) := by
  unfold tar
  rw [h]
  rfl
theorem tar7_2 (h : tK Y a = 7) : tar st Y a 2 = .inl (0, 60, .inl (tA Y a 2)) := by
  unfold tar
  rw [h]
  rfl
theorem tar9_1 (h : tK Y a = 9) : tar st Y a 1 = .inl (2, 2, qA (st.2 a 1)) := by
  unfold tar
  rw [h]
  rfl
theorem tar9_2 (h : tK Y a = 9) : tar st Y a 2 = .inl (1, 2, .inl (tA Y a 2)) := by
  unfold tar
  rw [h]
  rfl
theorem tar9_3 (h : tK Y a = 9) : tar st Y a 3 = .inl (3, 2, qA (st.2 a 3)) := by
  unfold tar
  rw [h]
  rfl
theorem tar8_2 (h : tK Y a = 8) : tar st Y a 2 = .inl (0, 8, .inl (tA Y a 2)) := by
  unfold tar
  rw [h]
  rfl
theorem tar8_3 (h : tK Y a = 8) : tar st Y a 3 = .inl (0, 8, .inl (tA Y a 3)) := by
  unfold tar
  rw [h]
  rfl
theorem tar8_4 (h : tK Y a = 8) : tar st Y a 4 = .inl (0, 8, .inl (tA Y a 4)) := by
  unfold tar
  rw [h]
  rfl
theorem tar8_5 (h : tK Y a = 8) : tar st Y a 5 = .inl (0, 48, .inl (tA Y a 5)) := by
  unfold tar
  rw [h]
  rfl
theorem tar8_6 (h : tK Y a = 8) : tar st Y a 6 = .inl (0, 48, .inl (tA Y a 6)) := by
  unfold tar
  rw [h]
  rfl
theorem tar10_0 (h : tK Y a = 10) : tar st Y a 0 = .inl (0, 16, .inl (tA Y a 0)) := by
  unfold tar
  rw [h]
  rfl
theorem tar10_1 (h : tK Y a = 10) : tar st Y a 1 = .inl (0, 16, .inl (tA Y a 1)) := by
  unfold tar
  rw [h]
  rfl
theorem tar10_2 (h : tK Y a = 10) : tar st Y a 2 = .inl (0, 16, .inl (tA Y a 2)) := by
  unfold tar
  rw [h]
  rfl
theorem tar10_3 (h : tK Y a = 10) : tar st Y a 3 = .inl (0, 2, .inl (tA Y a 3)) := by
  unfold tar
  rw [h]
  rfl
theorem tar10_4 (h : tK Y a = 10) : tar st Y a 4 = .inl (0, 2, .inl (tA Y a 4)) := by
  unfold tar
  rw [h]
  rfl
theorem tar10_5 (h : tK Y a = 10) : tar st Y a 5 = .inl (0, 96, .inl (tA Y a 5)) := by
  unfold tar
  rw [h]
  rfl
theorem tar10_6 (h : tK Y a = 10) : tar st Y a 6 = .inl (0, 96, .inl (tA Y a 6)) := by
  unfold tar
  rw [h]
  rfl
theorem tar10_7 (h : tK Y a = 10) : tar st Y a 7 = .inl (0, 3, .inl (tA Y a 7)) := by
  unfold tar
  rw [h]
  rfl
theorem tar10_8 (h : tK Y a = 10) : tar st Y a 8 = .inl (0, 3, .inl (tA Y a 8)) := by
  unfold tar
  rw [h]
  rfl
theorem tar10_9 (h : tK Y a = 10) : tar st Y a 9 = .inl (0, 60, .inl (tA Y a 9)) := by
  unfold tar
  rw [h]
  rfl
theorem tar10_11 (h : tK Y a = 10) : tar st Y a 11 = .inl (0, 130, .inl (tA Y a 11)) := by
  unfold tar
  rw [h]
  rfl
theorem tar10_12 (h : tK Y a = 10) : tar st Y a 12 = .inl (0, 130, .inl (tA Y a 12)) := by
  unfold tar
  rw [h]
  rfl
theorem tar10_13 (h : tK Y a = 10) : tar st Y a 13 = .inl (0, 130, .inl (tA Y a 13)) := by
  unfold tar
  rw [h]
  rfl
theorem tar10_19 (h : tK Y a = 10) : tar st Y a 19 = .inl (0, 257250, .inl (tA Y a 19)) := by
  unfold tar
  rw [h]
  rfl
theorem tar10_20 (h : tK Y a = 10) : tar st Y a 20 = .inl (1, 2, .inl (tA Y a 20)) := by
  unfold tar
  rw [h]
  rfl
theorem tar10_21 (h : tK Y a = 10) : tar st Y a 21 = .inl (0, 2, .inl (tA Y a 21)) := by
  unfold tar
  rw [h]
  rfl
theorem tar10_23 (h : tK Y a = 10) : tar st Y a 23 = .inl (0, 120, .inl (tA Y a 23)) := by
  unfold tar
  rw [h]
  rfl
theorem tar10_24 (h : tK Y a = 10) : tar st Y a 24 = .inl (1, 2, .inl (tA Y a 24)) := by
  unfold tar
  rw [h]
  rfl
theorem twv_x {k : Nat} (h : tK Y a = k) (h0 : k ≠ 0) (h1 : k ≠ 1) (h4 : k ≠ 4) (h9 : k ≠ 9) : twv st Y a := ⟨fun z => absurd (h.symm.trans z) h0, fun z => absurd (h.symm.trans z) h1, fun z => absurd (h.symm.trans z) h4, fun z => absurd (h.symm.trans z) h9⟩
theorem n_pad {post : Hp → Prop} {mc ms : Nat} (hmc : 1 ≤ mc) (hms : 60 ≤ ms) (R : Rel st aa Y X) (nt : ¬ Ty aa Y v) (hv : Hs X v (.inr (3, [.int 0, .null]))) (hp : ∀ X' aa' Y', Rel st aa' Y' X' → Gw v st aa Y X st aa' Y' X' → (∀ T, TT Y T → TT Y' (v :: T)) → tK Y' v = 3 → (∀ t, tI Y' v t = 0) → (∀ s, tA Y' v s = fun _ => 0) → post X') : wp_X3_init post mc ms X v := by
  unfold wp_X3_init
  have po := PO.start R nt hv
  refine ⟨by omega, by omega, fun q1 hq1 X2 e2 => ⟨_, po.hs2 hq1 e2, Nat.le_of_ble_eq_true rfl, fun X4 e4 => ?_⟩⟩
  have po := po.step (s0 := 1) (by decide) hq1 e2 _ e4
  clear e2 e4
  refine ⟨by omega, by omega, ?_⟩
  have f := po.fin (st' := st) (by decide) (fun _ => 0) (fun _ _ => 0) (fun a _ => ⟨rfl, rfl⟩) (by rw [tob3 (tK_Yn _ _ _ _ _), tI_Yn, va_up_self]; rfl) (fun s hs => ?_) (twv_x (tK_Yn _ _ _ _ _) (by decide) (by decide) (by decide) (by decide))
  · exact hp _ _ _ f.1 f.2.1 f.2.2 (tK_Yn _ _ _ _ _) (fun t => by rw [tI_Yn]) (fun s => by rw [tA_Yn])
  · have hs : s = 1 := by
      simpa [isA] using hs
    rcases hs with rfl
    · refine ⟨by decide, ?_⟩
      rw [tar3_1 (tK_Yn _ _ _ _ _), tA_Yn]
      rfl
theorem n_track {post : Hp → Prop} {mc ms : Nat} (hmc : 2 ≤ mc) (hms : 120 ≤ ms) (R : Rel st aa Y X) (nt : ¬ Ty aa Y v) (hv : Hs X v (.inr (7, [.int 0, .null, .null]))) (hp : ∀ X' aa' Y', Rel st aa' Y' X' → Gw v st aa Y X st aa' Y' X' → (∀ T, TT Y T → TT Y' (v :: T)) → tK Y' v = 7 → (∀ t, tI Y' v t = 0) → (∀ s, tA Y' v s = fun _ => 0) → post X') : wp_X7_init post mc ms X v := by
  unfold wp_X7_init
  have po := PO.start R nt hv
  refine ⟨by omega, by omega, fun q1 hq1 X2 e2 => ⟨_, po.hs2 hq1 e2, Nat.le_of_ble_eq_true rfl, fun X4 e4 => ?_⟩⟩
  have po := po.step (s0 := 1) (by decide) hq1 e2 _ e4
  clear e2 e4
  refine ⟨by omega, by omega, fun q2 hq2 X2 e2 => ⟨_, po.hs2 hq2 e2, Nat.le_of_ble_eq_true rfl, fun X4 e4 => ?_⟩⟩
  have po := po.step (s0 := 2) (by decide) hq2 e2 _ e4
  clear e2 e4
  refine ⟨by omega, by omega, ?_⟩
  have f := po.fin (st' := st) (by decide) (fun _ => 0) (fun _ _ => 0) (fun a _ => ⟨rfl, rfl⟩) (by rw [tob7 (tK_Yn _ _ _ _ _), tI_Yn, va_up_self]; rfl) (fun s hs => ?_) (twv_x (tK_Yn _ _ _ _ _) (by decide) (by decide) (by decide) (by decide))
  · exact hp _ _ _ f.1 f.2.1 f.2.2 (tK_Yn _ _ _ _ _) (fun t => by rw [tI_Yn]) (fun s => by rw [tA_Yn])
  · have hs : s = 1 ∨ s = 2 := by
      simpa [isA] using hs
    rcases hs with rfl | rfl
    · refine ⟨by decide, ?_⟩
      rw [tar7_1 (tK_Yn _ _ _ _ _), tA_Yn]
      rfl
    · refine ⟨by decide, ?_⟩
      rw [tar7_2 (tK_Yn _ _ _ _ _), tA_Yn]
      rfl
theorem n_way {post : Hp → Prop} {mc ms : Nat} (hmc : 5 ≤ mc) (hms : 120 ≤ ms) (R : Rel st aa Y X) (nt : ¬ Ty aa Y v) (hv : Hs X v (.inr (8, [.int 0, .int 0, .null, .null, .null, .null, .null]))) (hp : ∀ X' aa' Y', Rel st aa' Y' X' → Gw v st aa Y X st aa' Y' X' → (∀ T, TT Y T → TT Y' (v :: T)) → tK Y' v = 8 → (∀ t, tI Y' v t = 0) → (∀ s, tA Y' v s = fun _ => 0) → post X') : wp_X8_init post mc ms X v := by
  unfold wp_X8_init
  have po := PO.start R nt hv
  refine ⟨by omega, by omega, fun q2 hq2 X2 e2 => ⟨_, po.hs2 hq2 e2, Nat.le_of_ble_eq_true rfl, fun X4 e4 => ?_⟩⟩
  have po := po.step (s0 := 2) (by decide) hq2 e2 _ e4
  clear e2 e4
  refine ⟨by omega, by omega, fun q3 hq3 X2 e2 => ⟨_, po.hs2 hq3 e2, Nat.le_of_ble_eq_true rfl, fun X4 e4 => ?_⟩⟩
  have po := po.step (s0 := 3) (by decide) hq3 e2 _ e4
  clear e2 e4
  refine ⟨by omega, by omega, fun q4 hq4 X2 e2 => ⟨_, po.hs2 hq4 e2, Nat.le_of_ble_eq_true rfl, fun X4 e4 => ?_⟩⟩
  have po := po.step (s0 := 4) (by decide) hq4 e2 _ e4
  clear e2 e4
  refine ⟨by omega, by omega, fun q5 hq5 X2 e2 => ⟨_, po.hs2 hq5 e2, Nat.le_of_ble_eq_true rfl, fun X4 e4 => ?_⟩⟩
  have po := po.step (s0 := 5) (by decide) hq5 e2 _ e4
  clear e2 e4
  refine ⟨by omega, by omega, fun q6 hq6 X2 e2 => ⟨_, po.hs2 hq6 e2, Nat.le_of_ble_eq_true rfl, fun X4 e4 => ?_⟩⟩
  have po := po.step (s0 := 6) (by decide) hq6 e2 _ e4
  clear e2 e4
  refine ⟨by omega, by omega, ?_⟩
  have f := po.fin (st' := st) (by decide) (fun _ => 0) (fun _ _ => 0) (fun a _ => ⟨rfl, rfl⟩) (by rw [tob8 (tK_Yn _ _ _ _ _), tI_Yn, va_up_self]; rfl) (fun s hs => ?_) (twv_x (tK_Yn _ _ _ _ _) (by decide) (by decide) (by decide) (by decide))
  · exact hp _ _ _ f.1 f.2.1 f.2.2 (tK_Yn _ _ _ _ _) (fun t => by rw [tI_Yn]) (fun s => by rw [tA_Yn])
  · have hs : s = 2 ∨ s = 3 ∨ s = 4 ∨ s = 5 ∨ s = 6 := by
      simpa [isA] using hs
    rcases hs with rfl | rfl | rfl | rfl | rfl
    · refine ⟨by decide, ?_⟩
      rw [tar8_2 (tK_Yn _ _ _ _ _), tA_Yn]
      rfl
    · refine ⟨by decide, ?_⟩
      rw [tar8_3 (tK_Yn _ _ _ _ _), tA_Yn]
      rfl
    · refine ⟨by decide, ?_⟩
      rw [tar8_4 (tK_Yn _ _ _ _ _), tA_Yn]
      rfl
    · refine ⟨by decide, ?_⟩
      rw [tar8_5 (tK_Yn _ _ _ _ _), tA_Yn]
      rfl
    · refine ⟨by decide, ?_⟩
      rw [tar8_6 (tK_Yn _ _ _ _ _), tA_Yn]
      rfl
theorem n_step {post : Hp → Prop} {mc ms : Nat} (hmc : 3 ≤ mc) (hms : 630 ≤ ms) (R : Rel st aa Y X) (nt : ¬ Ty aa Y v) (hv : Hs X v (.inr (6, [.null, .null, .null]))) (hp : ∀ X' aa' Y', Rel st aa' Y' X' → Gw v st aa Y X st aa' Y' X' → (∀ T, TT Y T → TT Y' (v :: T)) → tK Y' v = 6 → (∀ t, tI Y' v t = 0) → (∀ s, tA Y' v s = fun _ => 0) → post X') : wp_X6_init post mc ms X v := by
  unfold wp_X6_init
  have po := PO.start R nt hv
  refine ⟨by omega, by omega, fun q0 hq0 X2 e2 => ⟨_, po.hs2 hq0 e2, Nat.le_of_ble_eq_true rfl, fun X4 e4 => ?_⟩⟩
  have po := po.step (s0 := 0) (by decide) hq0 e2 _ e4
  clear e2 e4
  refine ⟨by omega, by omega, fun q1 hq1 X2 e2 => ⟨_, po.hs2 hq1 e2, Nat.le_of_ble_eq_true rfl, fun X4 e4 => ?_⟩⟩
  have po := po.step (s0 := 1) (by decide) hq1 e2 _ e4
  clear e2 e4
  refine ⟨by omega, by omega, fun q2 hq2 X2 e2 => ⟨_, po.hs2 hq2 e2, Nat.le_of_ble_eq_true rfl, fun X4 e4 => ?_⟩⟩
  have po := po.step (s0 := 2) (by decide) hq2 e2 _ e4
  clear e2 e4
  refine ⟨by omega, by omega, ?_⟩
  have f := po.fin (st' := st) (by decide) (fun _ => 0) (fun _ _ => 0) (fun a _ => ⟨rfl, rfl⟩) (by rw [tob6 (tK_Yn _ _ _ _ _), va_up_self]; rfl) (fun s hs => ?_) (twv_x (tK_Yn _ _ _ _ _) (by decide) (by decide) (by decide) (by decide))
  · exact hp _ _ _ f.1 f.2.1 f.2.2 (tK_Yn _ _ _ _ _) (fun t => by rw [tI_Yn]) (fun s => by rw [tA_Yn])
  · have hs : s = 0 ∨ s = 1 ∨ s = 2 := by
      simpa [isA] using hs
    rcases hs with rfl | rfl | rfl
    · refine ⟨by decide, ?_⟩
      rw [tar6_0 (tK_Yn _ _ _ _ _), tA_Yn]
      rfl
    · refine ⟨by decide, ?_⟩
      rw [tar6_1 (tK_Yn _ _ _ _ _), tA_Yn]
      rfl
    · refine ⟨by decide, ?_⟩
      rw [tar6_2 (tK_Yn _ _ _ _ _), tA_Yn]
      rfl
end LF
