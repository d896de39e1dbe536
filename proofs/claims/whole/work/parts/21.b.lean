def wp_X0_init (post : Hp → Prop) (mc ms : Nat) (X : Hp) (v0 : Nat) (v1 : Nat) : Prop := ∃ (fs1 : List Value), Hs X v0 (.inr (0, fs1)) ∧ 0 < fs1.length ∧ ∀ X2 : Hp, X2 = hput X v0 (.inr (0, fs1.set 0 (.ref v1))) → 0 + 1 ≤ mc ∧ 0 + 3 ≤ ms ∧ ∀ q3 : Nat, q3 ∉ X2.1 → ∀ X4 : Hp, X4 = hadd X2 q3 (.inr (7, [.int 0, .null, .null])) → ∃ m5 m6 : Nat, (0 + 1) + m5 ≤ mc ∧ (0 + 3) + m6 ≤ ms ∧ wp_X7_init (fun X7 => ∃ (fs8 : List Value), Hs X7 v0 (.inr (0, fs8)) ∧ 1 < fs8.length ∧ ∀ X9 : Hp, X9 = hput X7 v0 (.inr (0, fs8.set 1 (.ref q3))) → ((0 + 1) + m5) ≤ mc ∧ ((0 + 3) + m6) ≤ ms ∧ post X9) m5 m6 X4 q3
set_option maxHeartbeats 4000000 in
set_option maxRecDepth 100000 in
theorem c_X0_init (l : Launch) (D : va_G) (kA : Nat → ClassId) (post : Hp → Prop) (mc ms : Nat) (X : Hp) (sz : Nat) (v0 : Nat) (v1 : Nat) (h : wp_X0_init post mc ms X v0 v1) : Met l yX0_init (.code yX0_init cX0_init 2 none :: gd) (rmO 2 mc ms 41) (va_Pc [Value.ref v0, Value.ref v1] (PreM D kA X sz)) (va_Qv post (PoM D kA X sz) (va_A (hw kA X) sz)) mc ms (va_A (hw kA X) sz) := by
  unfold wp_X0_init at h
  refine x_enM (by decide) (Nat.le_of_ble_eq_true rfl) ?_
  intro p e s m below meth c G hr hlk hin hsz hA S ls hl
  obtain ⟨hx, hb, hml, hown, hts, hE, hK⟩ := id G
  have hl : lv_has ls 2 [(0, .ref v0), (1, .ref v1)] := hl
  refine lv_aload_n hx hb dX0_init_0 rfl (lv_at hl 0 rfl) ?_
  refine x_objInit G mk_X0_3 oi_ins oi_cod hl.1 dX0_init_1 (Nat.le_of_ble_eq_true rfl) (Nat.le_of_ble_eq_true rfl) ?_
  refine lv_aload_n hx hb dX0_init_4 rfl (lv_at hl 0 rfl) ?_
  refine lv_aload_n hx hb dX0_init_5 rfl (lv_at hl 1 rfl) ?_
  obtain ⟨fs1, hfs1, hkfs1, h⟩ := h
  have h := h _ rfl
  refine x_putF G hin S hfs1 hkfs1 rfl rfl ff_X0_9 dX0_init_6 (fun H locs S => ?_)
  refine lv_aload_n hx hb dX0_init_9 rfl (lv_at hl 0 rfl) ?_
  obtain ⟨hc1, hc2, h⟩ := h
  refine x_new G S hA nw_X0_15 hc1 hc2 dX0_init_10 (fun q3 H hq3 S => ?_)
  have h := h q3 hq3 _ rfl
  refine lv_dup hx hb dX0_init_13 rfl ?_
  obtain ⟨m5, m6, hm1, hm2, h⟩ := h
  refine x_cMIv (As := []) (rest := [.ref q3, .ref v0]) G S hA (c_X7_init l D kA _ _ _ _ _ q3 h) cd_X7_init ml_X0_17 ⟨(Nat.le_of_ble_eq_true rfl), (Nat.le_of_ble_eq_true rfl)⟩ rfl hl.1 rfl (Nat.le_of_ble_eq_true rfl) dX0_init_14 ⟨hm1, hm2⟩ (fun X H locs h S => ?_)
  obtain ⟨fs8, hfs8, hkfs8, h⟩ := h
  have h := h _ rfl
  refine x_putF G hin S hfs8 hkfs8 rfl rfl ff_X0_18 dX0_init_17 (fun H locs S => ?_)
  obtain ⟨hk1, hk2, h⟩ := h
  exact x_vretM G hr hlk S hk1 hk2 h dX0_init_20
def wp_X0_setOut (post : Hp → Prop) (X : Hp) (v0 : Nat) (v1 : Nat) (v2 : Int32) (v3 : Int32) : Prop := ∃ (fs1 : List Value), Hs X v0 (.inr (0, fs1)) ∧ 2 < fs1.length ∧ ∀ X2 : Hp, X2 = hput X v0 (.inr (0, fs1.set 2 (.ref v1))) → ∃ (fs3 : List Value), Hs X2 v0 (.inr (0, fs3)) ∧ 3 < fs3.length ∧ ∀ X4 : Hp, X4 = hput X2 v0 (.inr (0, fs3.set 3 (.int (0 : Int32)))) → ∃ (fs5 : List Value), Hs X4 v0 (.inr (0, fs5)) ∧ 4 < fs5.length ∧ ∀ X6 : Hp, X6 = hput X4 v0 (.inr (0, fs5.set 4 (.int v2))) → ∃ (fs7 : List Value), Hs X6 v0 (.inr (0, fs7)) ∧ 5 < fs7.length ∧ ∀ X8 : Hp, X8 = hput X6 v0 (.inr (0, fs7.set 5 (.int v3))) → ∃ (fs9 : List Value) (y10 : Nat), Hs X8 v0 (.inr (0, fs9)) ∧ fs9[1]? = some (.ref y10) ∧ ∃ (fs11 : List Value), Hs X8 y10 (.inr (7, fs11)) ∧ 0 < fs11.length ∧ ∀ X12 : Hp, X12 = hput X8 y10 (.inr (7, fs11.set 0 (.int (0 : Int32)))) → post X12
set_option maxHeartbeats 4000000 in
set_option maxRecDepth 100000 in
theorem c_X0_setOut (l : Launch) (D : va_G) (kA : Nat → ClassId) (post : Hp → Prop) (X : Hp) (sz : Nat) (v0 : Nat) (v1 : Nat) (v2 : Int32) (v3 : Int32) (h : wp_X0_setOut post X v0 v1 v2 v3) : Met l yX0_setOut (.code yX0_setOut cX0_setOut 4 none :: gd) (rmO 0 0 0 0) (va_Pc [Value.ref v0, Value.ref v1, Value.int v2, Value.int v3] (PreM D kA X sz)) (va_Qv post (PoM D kA X sz) (va_A (hw kA X) sz)) 0 0 (va_A (hw kA X) sz) := by
  unfold wp_X0_setOut at h
  refine x_enM (by decide) (Nat.le_of_ble_eq_true rfl) ?_
  intro p e s m below meth c G hr hlk hin hsz hA S ls hl
  obtain ⟨hx, hb, hml, hown, hts, hE, hK⟩ := id G
  have hl : lv_has ls 4 [(0, .ref v0), (1, .ref v1), (2, .int v2), (3, .int v3)] := hl
  refine lv_aload_n hx hb dX0_setOut_0 rfl (lv_at hl 0 rfl) ?_
  refine lv_aload_n hx hb dX0_setOut_1 rfl (lv_at hl 1 rfl) ?_
  obtain ⟨fs1, hfs1, hkfs1, h⟩ := h
  have h := h _ rfl
  refine x_put G S hfs1 hkfs1 rfl rfl fw_X0_22 dX0_setOut_2 (fun H locs S => ?_)
  refine lv_aload_n hx hb dX0_setOut_5 rfl (lv_at hl 0 rfl) ?_
  refine lv_iconst (v := (0 : Int32)) hx hb dX0_setOut_6 (by decide) ?_
  obtain ⟨fs3, hfs3, hkfs3, h⟩ := h
  have h := h _ rfl
  refine x_put G S hfs3 hkfs3 rfl rfl fw_X0_26 dX0_setOut_7 (fun H locs S => ?_)
  refine lv_aload_n hx hb dX0_setOut_10 rfl (lv_at hl 0 rfl) ?_
  refine lv_iload_n hx hb dX0_setOut_11 rfl (lv_at hl 2 rfl) ?_
  obtain ⟨fs5, hfs5, hkfs5, h⟩ := h
  have h := h _ rfl
  refine x_put G S hfs5 hkfs5 rfl rfl fw_X0_30 dX0_setOut_12 (fun H locs S => ?_)
  refine lv_aload_n hx hb dX0_setOut_15 rfl (lv_at hl 0 rfl) ?_
  refine lv_iload_n hx hb dX0_setOut_16 rfl (lv_at hl 3 rfl) ?_
  obtain ⟨fs7, hfs7, hkfs7, h⟩ := h
  have h := h _ rfl
  refine x_put G S hfs7 hkfs7 rfl rfl fw_X0_33 dX0_setOut_17 (fun H locs S => ?_)
  refine lv_aload_n hx hb dX0_setOut_20 rfl (lv_at hl 0 rfl) ?_
  obtain ⟨fs9, y10, hfs9, hvfs9, h⟩ := h
  refine x_get G S.1 hfs9 hvfs9 fl_X0_18 dX0_setOut_21 ?_
  refine lv_iconst (v := (0 : Int32)) hx hb dX0_setOut_24 (by decide) ?_
  obtain ⟨fs11, hfs11, hkfs11, h⟩ := h
  have h := h _ rfl
  refine x_put G S hfs11 hkfs11 rfl rfl fw_X0_36 dX0_setOut_25 (fun H locs S => ?_)
  exact x_vretM G hr hlk S (Nat.le_refl _) (Nat.le_refl _) h dX0_setOut_28
def wp_X9_batteryOf (post : Int32 → Prop) (X : Hp) (v0 : Int32) : Prop := (¬ (v0 - v0 / (2 : Int32) * (2 : Int32)) = 0 → (¬ (v0 / (2 : Int32)) = (3 : Int32) → post (1 : Int32)) ∧ ((v0 / (2 : Int32)) = (3 : Int32) → post (2 : Int32))) ∧ ((v0 - v0 / (2 : Int32) * (2 : Int32)) = 0 → post (0 : Int32))
set_option maxHeartbeats 4000000 in
set_option maxRecDepth 100000 in
theorem c_X9_batteryOf (l : Launch) (D : va_G) (kA : Nat → ClassId) (post : Int32 → Prop) (X : Hp) (v0 : Int32) (h : wp_X9_batteryOf post X v0) : Met l yX9_batteryOf (.code yX9_batteryOf cX9_batteryOf 1 (some .int) :: gd) (rmO 0 0 0 0) (va_Pc [Value.int v0] (Pre D kA X)) (vp_Si post) 0 0 (fun _ => False) := by
  unfold wp_X9_batteryOf at h
  refine x_enR (by decide) (Nat.le_of_ble_eq_true rfl) ?_
  intro p e s m below meth c G hr hlk hP ls hl
  obtain ⟨hx, hb, hml, hown, hts, hE, hK⟩ := id G
  have hl : lv_has ls 1 [(0, .int v0)] := hl
  refine lv_iload_n hx hb dX9_batteryOf_0 rfl (lv_at hl 0 rfl) ?_
  refine lv_iconst (v := (2 : Int32)) hx hb dX9_batteryOf_1 (by decide) ?_
  refine lv_irem hx hb dX9_batteryOf_2 (by decide) ?_
  refine lv_if_ne (tgt := 8) hx hb dX9_batteryOf_3 (by decide) (fun c1 => ?_) (fun c1 => ?_)
  · have h := h.1 c1
    refine lv_iload_n hx hb dX9_batteryOf_8 rfl (lv_at hl 0 rfl) ?_
    refine lv_iconst (v := (2 : Int32)) hx hb dX9_batteryOf_9 (by decide) ?_
    refine lv_idiv hx hb dX9_batteryOf_10 (by decide) ?_
    refine lv_iconst (v := (3 : Int32)) hx hb dX9_batteryOf_11 (by decide) ?_
    refine lv_icmp_ne (tgt := 19) hx hb dX9_batteryOf_12 (by decide) (fun c2 => ?_) (fun c2 => ?_)
    · have h := h.1 c2
      refine lv_iconst (v := (1 : Int32)) hx hb dX9_batteryOf_19 (by decide) ?_
      exact x_iretR G hr hlk h dX9_batteryOf_20
    · have h := h.2 c2
      refine lv_iconst (v := (2 : Int32)) hx hb dX9_batteryOf_15 (by decide) ?_
      refine lv_goto (tgt := 20) hx hb dX9_batteryOf_16 (by decide) ?_
      exact x_iretR G hr hlk h dX9_batteryOf_20
  · have h := h.2 c1
    refine lv_iconst (v := (0 : Int32)) hx hb dX9_batteryOf_6 (by decide) ?_
    exact x_iretR G hr hlk h dX9_batteryOf_7
def wp_X2_blindAlone (post : Int32 → Prop) (X : Hp) (v0 : Nat) (v1 : Int32) (v2 : Int32) : Prop := ∀ x1 : Int32, x1 = (if (0 : Int32) < (v2 - (10 : Int32)) then (v2 - (10 : Int32)) else (0 : Int32)) → (¬ v1 = 0 → wp_X9_within (fun r3 => (¬ r3 = 0 → ∃ (fs5 : List Value) (y6 : Nat), Hs X v0 (.inr (2, fs5)) ∧ fs5[1]? = some (.ref y6) ∧ ∃ (n7 : Nat) (f8 : Nat → Int32), Hs X y6 (.inl (0, n7, .inl f8)) ∧ vp_in v1 n7 ∧ post (if ((f8 v1.toNatClampNeg) + ((20 : Int32) * x1)) < (1000 : Int32) then ((f8 v1.toNatClampNeg) + ((20 : Int32) * x1)) else (1000 : Int32))) ∧ (r3 = 0 → post (300 : Int32)))  X v1 (1 : Int32) (3 : Int32)) ∧ (v1 = 0 → post ((20 : Int32) + ((10 : Int32) * x1)))
set_option maxHeartbeats 4000000 in
set_option maxRecDepth 100000 in
theorem c_X2_blindAlone (l : Launch) (D : va_G) (kA : Nat → ClassId) (post : Int32 → Prop) (X : Hp) (v0 : Nat) (v1 : Int32) (v2 : Int32) (h : wp_X2_blindAlone post X v0 v1 v2) : Met l yX2_blindAlone (.code yX2_blindAlone cX2_blindAlone 4 (some .int) :: gd) (rmO 1 0 0 22) (va_Pc [Value.ref v0, Value.int v1, Value.int v2] (Pre D kA X)) (vp_Si post) 0 0 (fun _ => False) := by
  unfold wp_X2_blindAlone at h
  refine x_enR (by decide) (Nat.le_of_ble_eq_true rfl) ?_
  intro p e s m below meth c G hr hlk hP ls hl
  obtain ⟨hx, hb, hml, hown, hts, hE, hK⟩ := id G
  have hl : lv_has ls 4 [(0, .ref v0), (1, .int v1), (2, .int v2)] := hl
  refine lv_iconst (v := (0 : Int32)) hx hb dX2_blindAlone_0 (by decide) ?_
  refine lv_iload_n hx hb dX2_blindAlone_1 rfl (lv_at hl 2 rfl) ?_
  refine lv_bipush (v := (10 : Int32)) hx hb dX2_blindAlone_2 (by decide) ?_
  refine lv_isub hx hb dX2_blindAlone_4 ?_
  refine x_max G hl.1 mk_X2_34 ms_max mi_math mc_max (Nat.le_of_ble_eq_true rfl) (Nat.le_of_ble_eq_true rfl) (Nat.zero_le _) (Nat.zero_le _) dX2_blindAlone_5 ?_
  refine lv_topi (fun x1 ex1 => ?_)
  have h := h x1 ex1
  refine lv_istore_n (lv' := [(3, .int x1), (0, .ref v0), (1, .int v1), (2, .int v2)]) hx hb dX2_blindAlone_8 rfl hl (by decide) rfl (fun ls hl => ?_)
  refine lv_iload_n hx hb dX2_blindAlone_9 rfl (lv_at hl 2 rfl) ?_
  refine lv_if_ne (tgt := 21) hx hb dX2_blindAlone_10 (by decide) (fun c2 => ?_) (fun c2 => ?_)
  · have h := h.1 c2
    refine lv_iload_n hx hb dX2_blindAlone_21 rfl (lv_at hl 2 rfl) ?_
    refine lv_iconst (v := (1 : Int32)) hx hb dX2_blindAlone_22 (by decide) ?_
    refine lv_iconst (v := (3 : Int32)) hx hb dX2_blindAlone_23 (by decide) ?_
    refine x_cRSi (As := [.int v1, .int (1 : Int32), .int (3 : Int32)]) (rest := []) G hP (c_X9_within l D kA _ _ v1 (1 : Int32) (3 : Int32) h) cd_X9_within ml_X2_18 ⟨(Nat.le_of_ble_eq_true rfl), (Nat.le_of_ble_eq_true rfl)⟩ rfl hl.1 rfl (Nat.le_of_ble_eq_true rfl) dX2_blindAlone_24 ⟨Nat.zero_le _, Nat.zero_le _⟩ (fun r3 h => ?_)
    refine lv_if_ne (tgt := 34) hx hb dX2_blindAlone_27 (by decide) (fun c4 => ?_) (fun c4 => ?_)
    · have h := h.1 c4
      refine lv_sipush (v := (1000 : Int32)) hx hb dX2_blindAlone_34 (by decide) ?_
      refine lv_aload_n hx hb dX2_blindAlone_37 rfl (lv_at hl 1 rfl) ?_
      obtain ⟨fs5, y6, hfs5, hvfs5, h⟩ := h
      refine x_get G hP hfs5 hvfs5 fl_X2_15 dX2_blindAlone_38 ?_
      refine lv_iload_n hx hb dX2_blindAlone_41 rfl (lv_at hl 2 rfl) ?_
      obtain ⟨n7, f8, hf8, hif8, h⟩ := h
      refine x_iald G hP hf8 hif8 dX2_blindAlone_42 ?_
      refine lv_bipush (v := (20 : Int32)) hx hb dX2_blindAlone_43 (by decide) ?_
      refine lv_iload_n hx hb dX2_blindAlone_45 rfl (lv_at hl 0 rfl) ?_
      refine lv_imul hx hb dX2_blindAlone_46 ?_
      refine lv_iadd hx hb dX2_blindAlone_47 ?_
      refine x_min G hl.1 mk_X2_28 ms_min mi_math mc_min (Nat.le_of_ble_eq_true rfl) (Nat.le_of_ble_eq_true rfl) (Nat.zero_le _) (Nat.zero_le _) dX2_blindAlone_48 ?_
      exact x_iretR G hr hlk h dX2_blindAlone_51
    · have h := h.2 c4
      refine lv_sipush (v := (300 : Int32)) hx hb dX2_blindAlone_30 (by decide) ?_
      exact x_iretR G hr hlk h dX2_blindAlone_33
  · have h := h.2 c2
    refine lv_bipush (v := (20 : Int32)) hx hb dX2_blindAlone_13 (by decide) ?_
    refine lv_bipush (v := (10 : Int32)) hx hb dX2_blindAlone_15 (by decide) ?_
    refine lv_iload_n hx hb dX2_blindAlone_17 rfl (lv_at hl 0 rfl) ?_
    refine lv_imul hx hb dX2_blindAlone_18 ?_
    refine lv_iadd hx hb dX2_blindAlone_19 ?_
    exact x_iretR G hr hlk h dX2_blindAlone_20
def wp_X2_blindOf (post : Int32 → Prop) (X : Hp) (v0 : Nat) (v1 : Int32) (v2 : Int32) : Prop := ∃ fs4 : List Value, Hs X v0 (.inr (2, fs4)) ∧ wp_X2_blindAlone (fun r1 => (¬ (v1 - v1 / (2 : Int32) * (2 : Int32)) = 0 → ∀ x3 : Int32, x3 = (if (0 : Int32) < ((600 : Int32) - ((40 : Int32) * v2)) then ((600 : Int32) - ((40 : Int32) * v2)) else (0 : Int32)) → post ((r1 * ((1000 : Int32) - x3)) / (1000 : Int32))) ∧ ((v1 - v1 / (2 : Int32) * (2 : Int32)) = 0 → post r1))  X v0 (v1 / (2 : Int32)) v2
set_option maxHeartbeats 4000000 in
set_option maxRecDepth 100000 in
theorem c_X2_blindOf (l : Launch) (D : va_G) (kA : Nat → ClassId) (post : Int32 → Prop) (X : Hp) (v0 : Nat) (v1 : Int32) (v2 : Int32) (h : wp_X2_blindOf post X v0 v1 v2) : Met l yX2_blindOf (.code yX2_blindOf cX2_blindOf 5 (some .int) :: gd) (rmO 2 0 0 45) (va_Pc [Value.ref v0, Value.int v1, Value.int v2] (Pre D kA X)) (vp_Si post) 0 0 (fun _ => False) := by
  unfold wp_X2_blindOf at h
  refine x_enR (by decide) (Nat.le_of_ble_eq_true rfl) ?_
  intro p e s m below meth c G hr hlk hP ls hl
  obtain ⟨hx, hb, hml, hown, hts, hE, hK⟩ := id G
  have hl : lv_has ls 5 [(0, .ref v0), (1, .int v1), (2, .int v2)] := hl
  refine lv_aload_n hx hb dX2_blindOf_0 rfl (lv_at hl 0 rfl) ?_
  refine lv_iload_n hx hb dX2_blindOf_1 rfl (lv_at hl 1 rfl) ?_
  refine lv_iconst (v := (2 : Int32)) hx hb dX2_blindOf_2 (by decide) ?_
  refine lv_idiv hx hb dX2_blindOf_3 (by decide) ?_
  refine lv_iload_n hx hb dX2_blindOf_4 rfl (lv_at hl 2 rfl) ?_
  obtain ⟨fs4, hfs4, h⟩ := h
  refine x_cRVi (As := [.int (v1 / (2 : Int32)), .int v2]) (rest := []) G hP hfs4 rfl rfl (c_X2_blindAlone l D kA _ _ v0 (v1 / (2 : Int32)) v2 h) cd_X2_blindAlone ml_X2_40 ⟨(Nat.le_of_ble_eq_true rfl), (Nat.le_of_ble_eq_true rfl)⟩ rfl hl.1 rfl (Nat.le_of_ble_eq_true rfl) dX2_blindOf_5 ⟨Nat.zero_le _, Nat.zero_le _⟩ (fun r1 h => ?_)
  refine lv_istore_n (lv' := [(3, .int r1), (0, .ref v0), (1, .int v1), (2, .int v2)]) hx hb dX2_blindOf_8 rfl hl (by decide) rfl (fun ls hl => ?_)
  refine lv_iload_n hx hb dX2_blindOf_9 rfl (lv_at hl 2 rfl) ?_
  refine lv_iconst (v := (2 : Int32)) hx hb dX2_blindOf_10 (by decide) ?_
  refine lv_irem hx hb dX2_blindOf_11 (by decide) ?_
  refine lv_if_ne (tgt := 17) hx hb dX2_blindOf_12 (by decide) (fun c2 => ?_) (fun c2 => ?_)
  · have h := h.1 c2
    refine lv_iconst (v := (0 : Int32)) hx hb dX2_blindOf_17 (by decide) ?_
    refine lv_sipush (v := (600 : Int32)) hx hb dX2_blindOf_18 (by decide) ?_
    refine lv_bipush (v := (40 : Int32)) hx hb dX2_blindOf_21 (by decide) ?_
    refine lv_iload_n hx hb dX2_blindOf_23 rfl (lv_at hl 3 rfl) ?_
    refine lv_imul hx hb dX2_blindOf_24 ?_
    refine lv_isub hx hb dX2_blindOf_25 ?_
    refine x_max G hl.1 mk_X2_34 ms_max mi_math mc_max (Nat.le_of_ble_eq_true rfl) (Nat.le_of_ble_eq_true rfl) (Nat.zero_le _) (Nat.zero_le _) dX2_blindOf_26 ?_
    refine lv_topi (fun x3 ex3 => ?_)
    have h := h x3 ex3
    refine lv_istore (lv' := [(4, .int x3), (3, .int r1), (0, .ref v0), (1, .int v1), (2, .int v2)]) hx hb dX2_blindOf_29 hl (by decide) rfl (fun ls hl => ?_)
    refine lv_iload_n hx hb dX2_blindOf_31 rfl (lv_at hl 1 rfl) ?_
    refine lv_sipush (v := (1000 : Int32)) hx hb dX2_blindOf_32 (by decide) ?_
    refine lv_iload hx hb dX2_blindOf_35 (lv_at hl 0 rfl) ?_
    refine lv_isub hx hb dX2_blindOf_37 ?_
    refine lv_imul hx hb dX2_blindOf_38 ?_
    refine lv_sipush (v := (1000 : Int32)) hx hb dX2_blindOf_39 (by decide) ?_
    refine lv_idiv hx hb dX2_blindOf_42 (by decide) ?_
    exact x_iretR G hr hlk h dX2_blindOf_43
  · have h := h.2 c2
    refine lv_iload_n hx hb dX2_blindOf_15 rfl (lv_at hl 0 rfl) ?_
    exact x_iretR G hr hlk h dX2_blindOf_16
def wp_X9_isNight (post : Int32 → Prop) (X : Hp) (v0 : Int32) : Prop := ((v0 - v0 / (24 : Int32) * (24 : Int32)) < (12 : Int32) → post (0 : Int32)) ∧ (¬ (v0 - v0 / (24 : Int32) * (24 : Int32)) < (12 : Int32) → post (1 : Int32))
set_option maxHeartbeats 4000000 in
set_option maxRecDepth 100000 in
theorem c_X9_isNight (l : Launch) (D : va_G) (kA : Nat → ClassId) (post : Int32 → Prop) (X : Hp) (v0 : Int32) (h : wp_X9_isNight post X v0) : Met l yX9_isNight (.code yX9_isNight cX9_isNight 1 (some .boolean) :: gd) (rmO 0 0 0 0) (va_Pc [Value.int v0] (Pre D kA X)) (vp_Si post) 0 0 (fun _ => False) := by
  unfold wp_X9_isNight at h
  refine x_enR (by decide) (Nat.le_of_ble_eq_true rfl) ?_
  intro p e s m below meth c G hr hlk hP ls hl
  obtain ⟨hx, hb, hml, hown, hts, hE, hK⟩ := id G
  have hl : lv_has ls 1 [(0, .int v0)] := hl
  refine lv_iload_n hx hb dX9_isNight_0 rfl (lv_at hl 0 rfl) ?_
  refine lv_bipush (v := (24 : Int32)) hx hb dX9_isNight_1 (by decide) ?_
  refine lv_irem hx hb dX9_isNight_3 (by decide) ?_
  refine lv_bipush (v := (12 : Int32)) hx hb dX9_isNight_4 (by decide) ?_
  refine lv_icmp_lt (tgt := 13) hx hb dX9_isNight_6 (by decide) (fun c1 => ?_) (fun c1 => ?_)
  · have h := h.1 c1
    refine lv_iconst (v := (0 : Int32)) hx hb dX9_isNight_13 (by decide) ?_
    exact x_zretR G hr hlk (Or.inl rfl) h dX9_isNight_14
  · have h := h.2 c1
    refine lv_iconst (v := (1 : Int32)) hx hb dX9_isNight_9 (by decide) ?_
    refine lv_goto (tgt := 14) hx hb dX9_isNight_10 (by decide) ?_
    exact x_zretR G hr hlk (Or.inr rfl) h dX9_isNight_14
def bk_X2_owedBehind_66 (post : Int32 → Prop) (X : Hp) (v0 : Nat) (v1 : Nat) (v2 : Int32) (v3 : Int32) (v4 : Int32)  (b66_s0 : Int32) (b66_s1 : Int32) (b66_s2 : Int32) : Prop := post (if b66_s2 < (b66_s1 - b66_s0) then (b66_s1 - b66_s0) else b66_s2)
def bk_X2_owedBehind_21 (post : Int32 → Prop) (X : Hp) (v0 : Nat) (v1 : Nat) (v2 : Int32) (v3 : Int32) (v4 : Int32)  (b21_s0 : Int32) (b21_s1 : Int32) (b21_s2 : Int32) : Prop := post (if (b21_s1 + b21_s0) < b21_s2 then (b21_s1 + b21_s0) else b21_s2)
def wp_X2_owedBehind (post : Int32 → Prop) (X : Hp) (v0 : Nat) (v1 : Nat) (v2 : Int32) (v3 : Int32) (v4 : Int32) : Prop := (¬ v4 = 0 → wp_X9_within (fun r2 => (¬ r2 = 0 → ∃ (fs4 : List Value) (y5 : Nat), Hs X v0 (.inr (2, fs4)) ∧ fs4[0]? = some (.ref y5) ∧ ∃ (n6 : Nat) (f7 : Nat → Int32), Hs X y5 (.inl (0, n6, .inl f7)) ∧ vp_in v4 n6 ∧ wp_X9_isNight (fun r8 => (r8 = 0 → bk_X2_owedBehind_66 post X v0 v1 v2 v3 v4 (0 : Int32) ((v3 - (f7 v4.toNatClampNeg))) (0 : Int32)) ∧ (¬ r8 = 0 → bk_X2_owedBehind_66 post X v0 v1 v2 v3 v4 (1 : Int32) ((v3 - (f7 v4.toNatClampNeg))) (0 : Int32)))  X v2) ∧ (r2 = 0 → post (if (0 : Int32) < (v3 - (1 : Int32)) then (v3 - (1 : Int32)) else (0 : Int32))))  X v4 (1 : Int32) (3 : Int32)) ∧ (v4 = 0 → ∃ fs12 : List Value, Hs X v1 (.inr (8, fs12)) ∧ wp_X8_squallAt (fun r10 => (r10 = 0 → bk_X2_owedBehind_21 post X v0 v1 v2 v3 v4 (1 : Int32) v3 (20 : Int32)) ∧ (¬ r10 = 0 → bk_X2_owedBehind_21 post X v0 v1 v2 v3 v4 (2 : Int32) v3 (20 : Int32)))  X v1 v2)
set_option maxHeartbeats 4000000 in
set_option maxRecDepth 100000 in
theorem c_X2_owedBehind (l : Launch) (D : va_G) (kA : Nat → ClassId) (post : Int32 → Prop) (X : Hp) (v0 : Nat) (v1 : Nat) (v2 : Int32) (v3 : Int32) (v4 : Int32) (h : wp_X2_owedBehind post X v0 v1 v2 v3 v4) : Met l yX2_owedBehind (.code yX2_owedBehind cX2_owedBehind 5 (some .int) :: gd) (rmO 1 0 0 22) (va_Pc [Value.ref v0, Value.ref v1, Value.int v2, Value.int v3, Value.int v4] (Pre D kA X)) (vp_Si post) 0 0 (fun _ => False) := by
  unfold wp_X2_owedBehind at h
  refine x_enR (by decide) (Nat.le_of_ble_eq_true rfl) ?_
  intro p e s m below meth c G hr hlk hP ls hl
  obtain ⟨hx, hb, hml, hown, hts, hE, hK⟩ := id G
  have hl : lv_has ls 5 [(0, .ref v0), (1, .ref v1), (2, .int v2), (3, .int v3), (4, .int v4)] := hl
  have J_66 : ∀ (b66_s0 : Int32) (b66_s1 : Int32) (b66_s2 : Int32), ∀ (_ : bk_X2_owedBehind_66 post X v0 v1 v2 v3 v4  b66_s0 b66_s1 b66_s2), ∀ ls, lv_has ls 5 [] → W p l e (rmO 1 0 0 22) s m [Value.ref v0, Value.ref v1, Value.int v2, Value.int v3, Value.int v4].toArray below meth c s.heap [] 0 0 (MQ below (vp_Si post) [Value.ref v0, Value.ref v1, Value.int v2, Value.int v3, Value.int v4].toArray s 0 0 (fun _ => False)) (F0 m 66 ls [.int b66_s0, .int b66_s1, .int b66_s2]) := by
    intro b66_s0 b66_s1 b66_s2 h ls hl
    unfold bk_X2_owedBehind_66 at h
    refine lv_isub hx hb dX2_owedBehind_66 ?_
    refine x_max G hl.1 mk_X2_34 ms_max mi_math mc_max (Nat.le_of_ble_eq_true rfl) (Nat.le_of_ble_eq_true rfl) (Nat.zero_le _) (Nat.zero_le _) dX2_owedBehind_67 ?_
    exact x_iretR G hr hlk h dX2_owedBehind_70
  have J_21 : ∀ (b21_s0 : Int32) (b21_s1 : Int32) (b21_s2 : Int32), ∀ (_ : bk_X2_owedBehind_21 post X v0 v1 v2 v3 v4  b21_s0 b21_s1 b21_s2), ∀ ls, lv_has ls 5 [] → W p l e (rmO 1 0 0 22) s m [Value.ref v0, Value.ref v1, Value.int v2, Value.int v3, Value.int v4].toArray below meth c s.heap [] 0 0 (MQ below (vp_Si post) [Value.ref v0, Value.ref v1, Value.int v2, Value.int v3, Value.int v4].toArray s 0 0 (fun _ => False)) (F0 m 21 ls [.int b21_s0, .int b21_s1, .int b21_s2]) := by
    intro b21_s0 b21_s1 b21_s2 h ls hl
    unfold bk_X2_owedBehind_21 at h
    refine lv_iadd hx hb dX2_owedBehind_21 ?_
    refine x_min G hl.1 mk_X2_28 ms_min mi_math mc_min (Nat.le_of_ble_eq_true rfl) (Nat.le_of_ble_eq_true rfl) (Nat.zero_le _) (Nat.zero_le _) dX2_owedBehind_22 ?_
    exact x_iretR G hr hlk h dX2_owedBehind_25
  refine lv_iload hx hb dX2_owedBehind_0 (lv_at hl 4 rfl) ?_
  refine lv_if_ne (tgt := 26) hx hb dX2_owedBehind_2 (by decide) (fun c1 => ?_) (fun c1 => ?_)
  · have h := h.1 c1
    refine lv_iload hx hb dX2_owedBehind_26 (lv_at hl 4 rfl) ?_
    refine lv_iconst (v := (1 : Int32)) hx hb dX2_owedBehind_28 (by decide) ?_
    refine lv_iconst (v := (3 : Int32)) hx hb dX2_owedBehind_29 (by decide) ?_
    refine x_cRSi (As := [.int v4, .int (1 : Int32), .int (3 : Int32)]) (rest := []) G hP (c_X9_within l D kA _ _ v4 (1 : Int32) (3 : Int32) h) cd_X9_within ml_X2_18 ⟨(Nat.le_of_ble_eq_true rfl), (Nat.le_of_ble_eq_true rfl)⟩ rfl hl.1 rfl (Nat.le_of_ble_eq_true rfl) dX2_owedBehind_30 ⟨Nat.zero_le _, Nat.zero_le _⟩ (fun r2 h => ?_)
    refine lv_if_ne (tgt := 44) hx hb dX2_owedBehind_33 (by decide) (fun c3 => ?_) (fun c3 => ?_)
    · have h := h.1 c3
      refine lv_iconst (v := (0 : Int32)) hx hb dX2_owedBehind_44 (by decide) ?_
      refine lv_iload_n hx hb dX2_owedBehind_45 rfl (lv_at hl 3 rfl) ?_
      refine lv_aload_n hx hb dX2_owedBehind_46 rfl (lv_at hl 0 rfl) ?_
      obtain ⟨fs4, y5, hfs4, hvfs4, h⟩ := h
      refine x_get G hP hfs4 hvfs4 fl_X2_9 dX2_owedBehind_47 ?_
      refine lv_iload hx hb dX2_owedBehind_50 (lv_at hl 4 rfl) ?_
      obtain ⟨n6, f7, hf7, hif7, h⟩ := h
      refine x_iald G hP hf7 hif7 dX2_owedBehind_52 ?_
      refine lv_isub hx hb dX2_owedBehind_53 ?_
      refine lv_iload_n hx hb dX2_owedBehind_54 rfl (lv_at hl 2 rfl) ?_
      refine x_cRSi (As := [.int v2]) (rest := [.int (v3 - (f7 v4.toNatClampNeg)), .int (0 : Int32)]) G hP (c_X9_isNight l D kA _ _ v2 h) cd_X9_isNight ml_X2_37 ⟨(Nat.le_of_ble_eq_true rfl), (Nat.le_of_ble_eq_true rfl)⟩ rfl hl.1 rfl (Nat.le_of_ble_eq_true rfl) dX2_owedBehind_55 ⟨Nat.zero_le _, Nat.zero_le _⟩ (fun r8 h => ?_)
      refine lv_if_eq (tgt := 65) hx hb dX2_owedBehind_58 (by decide) (fun c9 => ?_) (fun c9 => ?_)
      · have h := h.1 c9
        refine lv_iconst (v := (0 : Int32)) hx hb dX2_owedBehind_65 (by decide) ?_
        exact J_66 _ _ _ h ls (lv_sub hl [] rfl)
      · have h := h.2 c9
        refine lv_iconst (v := (1 : Int32)) hx hb dX2_owedBehind_61 (by decide) ?_
        refine lv_goto (tgt := 66) hx hb dX2_owedBehind_62 (by decide) ?_
        exact J_66 _ _ _ h ls (lv_sub hl [] rfl)
    · have h := h.2 c3
      refine lv_iconst (v := (0 : Int32)) hx hb dX2_owedBehind_36 (by decide) ?_
      refine lv_iload_n hx hb dX2_owedBehind_37 rfl (lv_at hl 3 rfl) ?_
      refine lv_iconst (v := (1 : Int32)) hx hb dX2_owedBehind_38 (by decide) ?_
      refine lv_isub hx hb dX2_owedBehind_39 ?_
      refine x_max G hl.1 mk_X2_34 ms_max mi_math mc_max (Nat.le_of_ble_eq_true rfl) (Nat.le_of_ble_eq_true rfl) (Nat.zero_le _) (Nat.zero_le _) dX2_owedBehind_40 ?_
      exact x_iretR G hr hlk h dX2_owedBehind_43
  · have h := h.2 c1
    refine lv_bipush (v := (20 : Int32)) hx hb dX2_owedBehind_5 (by decide) ?_
    refine lv_iload_n hx hb dX2_owedBehind_7 rfl (lv_at hl 3 rfl) ?_
    refine lv_aload_n hx hb dX2_owedBehind_8 rfl (lv_at hl 1 rfl) ?_
    refine lv_iload_n hx hb dX2_owedBehind_9 rfl (lv_at hl 2 rfl) ?_
    obtain ⟨fs12, hfs12, h⟩ := h
    refine x_cRVi (As := [.int v2]) (rest := [.int v3, .int (20 : Int32)]) G hP hfs12 rfl rfl (c_X8_squallAt l D kA _ _ v1 v2 h) cd_X8_squallAt ml_X2_22 ⟨(Nat.le_of_ble_eq_true rfl), (Nat.le_of_ble_eq_true rfl)⟩ rfl hl.1 rfl (Nat.le_of_ble_eq_true rfl) dX2_owedBehind_10 ⟨Nat.zero_le _, Nat.zero_le _⟩ (fun r10 h => ?_)
    refine lv_if_eq (tgt := 20) hx hb dX2_owedBehind_13 (by decide) (fun c11 => ?_) (fun c11 => ?_)
    · have h := h.1 c11
      refine lv_iconst (v := (1 : Int32)) hx hb dX2_owedBehind_20 (by decide) ?_
      exact J_21 _ _ _ h ls (lv_sub hl [] rfl)
    · have h := h.2 c11
      refine lv_iconst (v := (2 : Int32)) hx hb dX2_owedBehind_16 (by decide) ?_
      refine lv_goto (tgt := 21) hx hb dX2_owedBehind_17 (by decide) ?_
      exact J_21 _ _ _ h ls (lv_sub hl [] rfl)
def wp_X9_hoursOf (post : Int32 → Prop) (X : Hp) (v0 : Int32) : Prop := (¬ v0 = (4 : Int32) → (¬ v0 = (3 : Int32) → post (1 : Int32)) ∧ (v0 = (3 : Int32) → post (2 : Int32))) ∧ (v0 = (4 : Int32) → post (0 : Int32))
set_option maxHeartbeats 4000000 in
set_option maxRecDepth 100000 in
theorem c_X9_hoursOf (l : Launch) (D : va_G) (kA : Nat → ClassId) (post : Int32 → Prop) (X : Hp) (v0 : Int32) (h : wp_X9_hoursOf post X v0) : Met l yX9_hoursOf (.code yX9_hoursOf cX9_hoursOf 1 (some .int) :: gd) (rmO 0 0 0 0) (va_Pc [Value.int v0] (Pre D kA X)) (vp_Si post) 0 0 (fun _ => False) := by
  unfold wp_X9_hoursOf at h
  refine x_enR (by decide) (Nat.le_of_ble_eq_true rfl) ?_
  intro p e s m below meth c G hr hlk hP ls hl
  obtain ⟨hx, hb, hml, hown, hts, hE, hK⟩ := id G
  have hl : lv_has ls 1 [(0, .int v0)] := hl
  refine lv_iload_n hx hb dX9_hoursOf_0 rfl (lv_at hl 0 rfl) ?_
  refine lv_iconst (v := (4 : Int32)) hx hb dX9_hoursOf_1 (by decide) ?_
  refine lv_icmp_ne (tgt := 7) hx hb dX9_hoursOf_2 (by decide) (fun c1 => ?_) (fun c1 => ?_)
  · have h := h.1 c1
    refine lv_iload_n hx hb dX9_hoursOf_7 rfl (lv_at hl 0 rfl) ?_
    refine lv_iconst (v := (3 : Int32)) hx hb dX9_hoursOf_8 (by decide) ?_
    refine lv_icmp_ne (tgt := 16) hx hb dX9_hoursOf_9 (by decide) (fun c2 => ?_) (fun c2 => ?_)
    · have h := h.1 c2
      refine lv_iconst (v := (1 : Int32)) hx hb dX9_hoursOf_16 (by decide) ?_
      exact x_iretR G hr hlk h dX9_hoursOf_17
    · have h := h.2 c2
      refine lv_iconst (v := (2 : Int32)) hx hb dX9_hoursOf_12 (by decide) ?_
      refine lv_goto (tgt := 17) hx hb dX9_hoursOf_13 (by decide) ?_
      exact x_iretR G hr hlk h dX9_hoursOf_17
  · have h := h.2 c1
    refine lv_iconst (v := (0 : Int32)) hx hb dX9_hoursOf_5 (by decide) ?_
    exact x_iretR G hr hlk h dX9_hoursOf_6
def bk_X0_doDeed_97 (post : Int32 → Hp → Prop) (v0 : Nat) (v1 : Int32)  (X : Hp) (b97_2 : Int32) : Prop := ∃ (fs56 : List Value) (y57 : Nat), Hs X v0 (.inr (0, fs56)) ∧ fs56[0]? = some (.ref y57) ∧ ∃ (fs58 : List Value) (r59 : Option Nat), Hs X v0 (.inr (0, fs58)) ∧ fs58[2]? = some (va_rf r59) ∧ (r59 = none → ∃ (fs61 : List Value) (y62 : Int32), Hs X v0 (.inr (0, fs61)) ∧ fs61[3]? = some (.int y62) ∧ ∃ (fs63 : List Value) (y64 : Int32), Hs X v0 (.inr (0, fs63)) ∧ fs63[4]? = some (.int y64) ∧ False) ∧ (∀ y60 : Nat, r59 = some y60 → ∃ (fs65 : List Value) (y66 : Int32), Hs X v0 (.inr (0, fs65)) ∧ fs65[3]? = some (.int y66) ∧ ∃ (fs67 : List Value) (y68 : Int32), Hs X v0 (.inr (0, fs67)) ∧ fs67[4]? = some (.int y68) ∧ ∃ fs82 : List Value, Hs X y57 (.inr (2, fs82)) ∧ wp_X2_owedBehind (fun r69 => ∃ (fs70 : List Value), Hs X v0 (.inr (0, fs70)) ∧ 4 < fs70.length ∧ ∀ X71 : Hp, X71 = hput X v0 (.inr (0, fs70.set 4 (.int r69))) → ∃ (fs72 : List Value) (y73 : Int32), Hs X71 v0 (.inr (0, fs72)) ∧ fs72[5]? = some (.int y73) ∧ wp_X9_batteryOf (fun r74 => ∃ (fs75 : List Value), Hs X71 v0 (.inr (0, fs75)) ∧ 5 < fs75.length ∧ ∀ X76 : Hp, X76 = hput X71 v0 (.inr (0, fs75.set 5 (.int (y73 - r74)))) → ∃ (fs77 : List Value) (y78 : Int32), Hs X76 v0 (.inr (0, fs77)) ∧ fs77[3]? = some (.int y78) ∧ wp_X9_hoursOf (fun r79 => ∃ (fs80 : List Value), Hs X76 v0 (.inr (0, fs80)) ∧ 3 < fs80.length ∧ ∀ X81 : Hp, X81 = hput X76 v0 (.inr (0, fs80.set 3 (.int (y78 + r79)))) → post (1 : Int32) X81)  X76 b97_2)  X71 v1)  X y57 y60 y66 y68 b97_2)
def wp_X0_doDeed (post : Int32 → Hp → Prop) (X : Hp) (v0 : Nat) (v1 : Int32) : Prop := ∀ x1 : Int32, x1 = (v1 / (2 : Int32)) → ∃ (fs2 : List Value) (r3 : Option Nat), Hs X v0 (.inr (0, fs2)) ∧ fs2[2]? = some (va_rf r3) ∧ (r3 = none → post (0 : Int32) X) ∧ (∀ y4 : Nat, r3 = some y4 → ∃ (fs5 : List Value) (r6 : Option Nat), Hs X v0 (.inr (0, fs5)) ∧ fs5[2]? = some (va_rf r6) ∧ (r6 = none → ∃ (fs8 : List Value) (y9 : Int32), Hs X v0 (.inr (0, fs8)) ∧ fs8[3]? = some (.int y9) ∧ False) ∧ (∀ y7 : Nat, r6 = some y7 → ∃ (fs10 : List Value) (y11 : Int32), Hs X v0 (.inr (0, fs10)) ∧ fs10[3]? = some (.int y11) ∧ ∃ fs53 : List Value, Hs X y7 (.inr (8, fs53)) ∧ wp_X8_lets (fun r12 => (r12 = 0 → post (0 : Int32) X) ∧ (¬ r12 = 0 → ∃ (fs14 : List Value) (y15 : Int32), Hs X v0 (.inr (0, fs14)) ∧ fs14[5]? = some (.int y15) ∧ wp_X9_batteryOf (fun r16 => (r16 ≤ y15 → ∃ (fs18 : List Value) (y19 : Nat), Hs X v0 (.inr (0, fs18)) ∧ fs18[0]? = some (.ref y19) ∧ ∃ (fs20 : List Value) (y21 : Int32), Hs X v0 (.inr (0, fs20)) ∧ fs20[4]? = some (.int y21) ∧ ∃ fs52 : List Value, Hs X y19 (.inr (2, fs52)) ∧ wp_X2_blindOf (fun r22 => ∃ (fs23 : List Value) (y24 : Nat), Hs X v0 (.inr (0, fs23)) ∧ fs23[1]? = some (.ref y24) ∧ ∃ (fs25 : List Value) (r26 : Option Nat), Hs X v0 (.inr (0, fs25)) ∧ fs25[2]? = some (va_rf r26) ∧ (r26 = none → ∃ (fs28 : List Value) (y29 : Int32), Hs X v0 (.inr (0, fs28)) ∧ fs28[3]? = some (.int y29) ∧ False) ∧ (∀ y27 : Nat, r26 = some y27 → ∃ (fs30 : List Value) (y31 : Int32), Hs X v0 (.inr (0, fs30)) ∧ fs30[3]? = some (.int y31) ∧ ∃ fs50 : List Value, Hs X y27 (.inr (8, fs50)) ∧ wp_X8_shipsAt (fun r32 => ∃ fs49 : List Value, Hs X y24 (.inr (7, fs49)) ∧ wp_X7_pass (fun X33 => (¬ x1 = (3 : Int32) → bk_X0_doDeed_97 post v0 v1 X33 x1) ∧ (x1 = (3 : Int32) → ∃ (fs35 : List Value) (y36 : Nat), Hs X33 v0 (.inr (0, fs35)) ∧ fs35[1]? = some (.ref y36) ∧ ∃ (fs37 : List Value) (r38 : Option Nat), Hs X33 v0 (.inr (0, fs37)) ∧ fs37[2]? = some (va_rf r38) ∧ (r38 = none → ∃ (fs40 : List Value) (y41 : Int32), Hs X33 v0 (.inr (0, fs40)) ∧ fs40[3]? = some (.int y41) ∧ False) ∧ (∀ y39 : Nat, r38 = some y39 → ∃ (fs42 : List Value) (y43 : Int32), Hs X33 v0 (.inr (0, fs42)) ∧ fs42[3]? = some (.int y43) ∧ ∃ fs47 : List Value, Hs X33 y39 (.inr (8, fs47)) ∧ wp_X8_shipsAt (fun r44 => ∃ fs46 : List Value, Hs X33 y36 (.inr (7, fs46)) ∧ wp_X7_pass (fun X45 => bk_X0_doDeed_97 post v0 v1 X45 x1)  X33 y36 r44 r22)  X33 y39 (y43 + (1 : Int32)))))  X y24 r32 r22)  X y27 y31))  X y19 v1 y21) ∧ (¬ r16 ≤ y15 → post (0 : Int32) X))  X v1))  X y7 y11 x1))
set_option maxHeartbeats 4000000 in
set_option maxRecDepth 100000 in
theorem c_X0_doDeed (l : Launch) (D : va_G) (kA : Nat → ClassId) (post : Int32 → Hp → Prop) (X : Hp) (sz : Nat) (v0 : Nat) (v1 : Int32) (h : wp_X0_doDeed post X v0 v1) : Met l yX0_doDeed (.code yX0_doDeed cX0_doDeed 4 (some .boolean) :: gd) (rmO 3 0 0 69) (va_Pc [Value.ref v0, Value.int v1] (PreM D kA X sz)) (va_Qi post (PoM D kA X sz) (va_A (hw kA X) sz)) 0 0 (va_A (hw kA X) sz) := by
  unfold wp_X0_doDeed at h
  refine x_enM (by decide) (Nat.le_of_ble_eq_true rfl) ?_
  intro p e s m below meth c G hr hlk hin hsz hA S ls hl
  obtain ⟨hx, hb, hml, hown, hts, hE, hK⟩ := id G
  have hl : lv_has ls 4 [(0, .ref v0), (1, .int v1)] := hl
  obtain ⟨X0, hX0⟩ : ∃ Y : Hp, Y = X := ⟨_, rfl⟩
  subst hX0
  have J_97 : ∀ (X : Hp) (b97_2 : Int32), ∀ (H : Heap) (locs : List Loc) (_ : bk_X0_doDeed_97 post v0 v1  X b97_2), Sx D kA (va_A (hw kA X0) sz) s.heap H locs X → ∀ ls, lv_has ls 4 [(0, .ref v0), (1, .int v1), (2, .int b97_2)] → W p l e (rmO 3 0 0 69) s m [Value.ref v0, Value.int v1].toArray below meth c H locs 0 0 (MQ below (va_Qi post (PoM D kA X0 sz) (va_A (hw kA X0) sz)) [Value.ref v0, Value.int v1].toArray s 0 0 (va_A (hw kA X0) sz)) (F0 m 97 ls []) := by
    intro X b97_2 H locs h S ls hl
    unfold bk_X0_doDeed_97 at h
    refine lv_aload_n hx hb dX0_doDeed_97 rfl (lv_at hl 0 rfl) ?_
    refine lv_aload_n hx hb dX0_doDeed_98 rfl (lv_at hl 0 rfl) ?_
    obtain ⟨fs56, y57, hfs56, hvfs56, h⟩ := h
    refine x_get G S.1 hfs56 hvfs56 fl_X0_9 dX0_doDeed_99 ?_
    refine lv_aload_n hx hb dX0_doDeed_102 rfl (lv_at hl 0 rfl) ?_
    obtain ⟨fs58, r59, hfs58, hvfs58, h⟩ := h
    refine x_get G S.1 hfs58 hvfs58 fl_X0_22 dX0_doDeed_103 ?_
    refine x_spl (fun c83 => ?_) (fun y60 c83 => ?_)
    · have h := h.1 c83
      refine lv_aload_n hx hb dX0_doDeed_106 rfl (lv_at hl 0 rfl) ?_
      obtain ⟨fs61, y62, hfs61, hvfs61, h⟩ := h
      refine x_get G S.1 hfs61 hvfs61 fl_X0_26 dX0_doDeed_107 ?_
      refine lv_aload_n hx hb dX0_doDeed_110 rfl (lv_at hl 0 rfl) ?_
      obtain ⟨fs63, y64, hfs63, hvfs63, h⟩ := h
      refine x_get G S.1 hfs63 hvfs63 fl_X0_30 dX0_doDeed_111 ?_
      refine lv_iload_n hx hb dX0_doDeed_114 rfl (lv_at hl 2 rfl) ?_
      exact h.elim
    · have h := h.2 y60 c83
      refine lv_aload_n hx hb dX0_doDeed_106 rfl (lv_at hl 0 rfl) ?_
      obtain ⟨fs65, y66, hfs65, hvfs65, h⟩ := h
      refine x_get G S.1 hfs65 hvfs65 fl_X0_26 dX0_doDeed_107 ?_
      refine lv_aload_n hx hb dX0_doDeed_110 rfl (lv_at hl 0 rfl) ?_
      obtain ⟨fs67, y68, hfs67, hvfs67, h⟩ := h
      refine x_get G S.1 hfs67 hvfs67 fl_X0_30 dX0_doDeed_111 ?_
      refine lv_iload_n hx hb dX0_doDeed_114 rfl (lv_at hl 2 rfl) ?_
      obtain ⟨fs82, hfs82, h⟩ := h
      refine x_cRVi (As := [.ref y60, .int y66, .int y68, .int b97_2]) (rest := [.ref v0]) G S.1 hfs82 rfl rfl (c_X2_owedBehind l D kA _ _ y57 y60 y66 y68 b97_2 h) cd_X2_owedBehind ml_X0_90 ⟨(Nat.le_of_ble_eq_true rfl), (Nat.le_of_ble_eq_true rfl)⟩ rfl hl.1 rfl (Nat.le_of_ble_eq_true rfl) dX0_doDeed_115 ⟨Nat.zero_le _, Nat.zero_le _⟩ (fun r69 h => ?_)
      obtain ⟨fs70, hfs70, hkfs70, h⟩ := h
      have h := h _ rfl
      refine x_put G S hfs70 hkfs70 rfl rfl fw_X0_30 dX0_doDeed_118 (fun H locs S => ?_)
      refine lv_aload_n hx hb dX0_doDeed_121 rfl (lv_at hl 0 rfl) ?_
      refine lv_dup hx hb dX0_doDeed_122 rfl ?_
      obtain ⟨fs72, y73, hfs72, hvfs72, h⟩ := h
      refine x_get G S.1 hfs72 hvfs72 fl_X0_33 dX0_doDeed_123 ?_
      refine lv_iload_n hx hb dX0_doDeed_126 rfl (lv_at hl 1 rfl) ?_
      refine x_cRSi (As := [.int v1]) (rest := [.int y73, .ref v0]) G S.1 (c_X9_batteryOf l D kA _ _ v1 h) cd_X9_batteryOf ml_X0_77 ⟨(Nat.le_of_ble_eq_true rfl), (Nat.le_of_ble_eq_true rfl)⟩ rfl hl.1 rfl (Nat.le_of_ble_eq_true rfl) dX0_doDeed_127 ⟨Nat.zero_le _, Nat.zero_le _⟩ (fun r74 h => ?_)
      refine lv_isub hx hb dX0_doDeed_130 ?_
      obtain ⟨fs75, hfs75, hkfs75, h⟩ := h
      have h := h _ rfl
      refine x_put G S hfs75 hkfs75 rfl rfl fw_X0_33 dX0_doDeed_131 (fun H locs S => ?_)
      refine lv_aload_n hx hb dX0_doDeed_134 rfl (lv_at hl 0 rfl) ?_
      refine lv_dup hx hb dX0_doDeed_135 rfl ?_
      obtain ⟨fs77, y78, hfs77, hvfs77, h⟩ := h
      refine x_get G S.1 hfs77 hvfs77 fl_X0_26 dX0_doDeed_136 ?_
      refine lv_iload_n hx hb dX0_doDeed_139 rfl (lv_at hl 2 rfl) ?_
      refine x_cRSi (As := [.int b97_2]) (rest := [.int y78, .ref v0]) G S.1 (c_X9_hoursOf l D kA _ _ b97_2 h) cd_X9_hoursOf ml_X0_94 ⟨(Nat.le_of_ble_eq_true rfl), (Nat.le_of_ble_eq_true rfl)⟩ rfl hl.1 rfl (Nat.le_of_ble_eq_true rfl) dX0_doDeed_140 ⟨Nat.zero_le _, Nat.zero_le _⟩ (fun r79 h => ?_)
      refine lv_iadd hx hb dX0_doDeed_143 ?_
      obtain ⟨fs80, hfs80, hkfs80, h⟩ := h
      have h := h _ rfl
      refine x_put G S hfs80 hkfs80 rfl rfl fw_X0_26 dX0_doDeed_144 (fun H locs S => ?_)
      refine lv_iconst (v := (1 : Int32)) hx hb dX0_doDeed_147 (by decide) ?_
      exact x_zretM G hr hlk (Or.inr rfl) S (Nat.le_refl _) (Nat.le_refl _) h dX0_doDeed_148
  refine lv_iload_n hx hb dX0_doDeed_0 rfl (lv_at hl 1 rfl) ?_
  refine lv_iconst (v := (2 : Int32)) hx hb dX0_doDeed_1 (by decide) ?_
  refine lv_idiv hx hb dX0_doDeed_2 (by decide) ?_
  refine lv_topi (fun x1 ex1 => ?_)
  have h := h x1 ex1
  refine lv_istore_n (lv' := [(2, .int x1), (0, .ref v0), (1, .int v1)]) hx hb dX0_doDeed_3 rfl hl (by decide) rfl (fun ls hl => ?_)
  refine lv_aload_n hx hb dX0_doDeed_4 rfl (lv_at hl 1 rfl) ?_
  obtain ⟨fs2, r3, hfs2, hvfs2, h⟩ := h
  refine x_get G S.1 hfs2 hvfs2 fl_X0_22 dX0_doDeed_5 ?_
  refine x_spl (fun c55 => ?_) (fun y4 c55 => ?_)
  · have h := h.1 c55
    refine lv_ifnullN (tgt := 37) hx hb dX0_doDeed_8 (by decide) ?_
    refine lv_iconst (v := (0 : Int32)) hx hb dX0_doDeed_37 (by decide) ?_
    exact x_zretM G hr hlk (Or.inl rfl) S (Nat.le_refl _) (Nat.le_refl _) h dX0_doDeed_38
  · have h := h.2 y4 c55
    refine lv_ifnull hx hb dX0_doDeed_8 ?_
    refine lv_aload_n hx hb dX0_doDeed_11 rfl (lv_at hl 1 rfl) ?_
    obtain ⟨fs5, r6, hfs5, hvfs5, h⟩ := h
    refine x_get G S.1 hfs5 hvfs5 fl_X0_22 dX0_doDeed_12 ?_
    refine x_spl (fun c54 => ?_) (fun y7 c54 => ?_)
    · have h := h.1 c54
      refine lv_aload_n hx hb dX0_doDeed_15 rfl (lv_at hl 1 rfl) ?_
      obtain ⟨fs8, y9, hfs8, hvfs8, h⟩ := h
      refine x_get G S.1 hfs8 hvfs8 fl_X0_26 dX0_doDeed_16 ?_
      refine lv_iload_n hx hb dX0_doDeed_19 rfl (lv_at hl 0 rfl) ?_
      exact h.elim
    · have h := h.2 y7 c54
      refine lv_aload_n hx hb dX0_doDeed_15 rfl (lv_at hl 1 rfl) ?_
      obtain ⟨fs10, y11, hfs10, hvfs10, h⟩ := h
      refine x_get G S.1 hfs10 hvfs10 fl_X0_26 dX0_doDeed_16 ?_
      refine lv_iload_n hx hb dX0_doDeed_19 rfl (lv_at hl 0 rfl) ?_
      obtain ⟨fs53, hfs53, h⟩ := h
      refine x_cRVi (As := [.int y11, .int x1]) (rest := []) G S.1 hfs53 rfl rfl (c_X8_lets l D kA _ _ y7 y11 x1 h) cd_X8_lets ml_X0_64 ⟨(Nat.le_of_ble_eq_true rfl), (Nat.le_of_ble_eq_true rfl)⟩ rfl hl.1 rfl (Nat.le_of_ble_eq_true rfl) dX0_doDeed_20 ⟨Nat.zero_le _, Nat.zero_le _⟩ (fun r12 h => ?_)
      refine lv_if_eq (tgt := 37) hx hb dX0_doDeed_23 (by decide) (fun c13 => ?_) (fun c13 => ?_)
      · have h := h.1 c13
        refine lv_iconst (v := (0 : Int32)) hx hb dX0_doDeed_37 (by decide) ?_
        exact x_zretM G hr hlk (Or.inl rfl) S (Nat.le_refl _) (Nat.le_refl _) h dX0_doDeed_38
      · have h := h.2 c13
        refine lv_aload_n hx hb dX0_doDeed_26 rfl (lv_at hl 1 rfl) ?_
        obtain ⟨fs14, y15, hfs14, hvfs14, h⟩ := h
        refine x_get G S.1 hfs14 hvfs14 fl_X0_33 dX0_doDeed_27 ?_
        refine lv_iload_n hx hb dX0_doDeed_30 rfl (lv_at hl 2 rfl) ?_
        refine x_cRSi (As := [.int v1]) (rest := [.int y15]) G S.1 (c_X9_batteryOf l D kA _ _ v1 h) cd_X9_batteryOf ml_X0_77 ⟨(Nat.le_of_ble_eq_true rfl), (Nat.le_of_ble_eq_true rfl)⟩ rfl hl.1 rfl (Nat.le_of_ble_eq_true rfl) dX0_doDeed_31 ⟨Nat.zero_le _, Nat.zero_le _⟩ (fun r16 h => ?_)
        refine lv_icmp_ge (tgt := 39) hx hb dX0_doDeed_34 (by decide) (fun c17 => ?_) (fun c17 => ?_)
        · have h := h.1 c17
          refine lv_aload_n hx hb dX0_doDeed_39 rfl (lv_at hl 1 rfl) ?_
          obtain ⟨fs18, y19, hfs18, hvfs18, h⟩ := h
          refine x_get G S.1 hfs18 hvfs18 fl_X0_9 dX0_doDeed_40 ?_
          refine lv_iload_n hx hb dX0_doDeed_43 rfl (lv_at hl 2 rfl) ?_
          refine lv_aload_n hx hb dX0_doDeed_44 rfl (lv_at hl 1 rfl) ?_
          obtain ⟨fs20, y21, hfs20, hvfs20, h⟩ := h
          refine x_get G S.1 hfs20 hvfs20 fl_X0_30 dX0_doDeed_45 ?_
          obtain ⟨fs52, hfs52, h⟩ := h
          refine x_cRVi (As := [.int v1, .int y21]) (rest := []) G S.1 hfs52 rfl rfl (c_X2_blindOf l D kA _ _ y19 v1 y21 h) cd_X2_blindOf ml_X0_80 ⟨(Nat.le_of_ble_eq_true rfl), (Nat.le_of_ble_eq_true rfl)⟩ rfl hl.1 rfl (Nat.le_of_ble_eq_true rfl) dX0_doDeed_48 ⟨Nat.zero_le _, Nat.zero_le _⟩ (fun r22 h => ?_)
          refine lv_istore_n (lv' := [(3, .int r22), (2, .int x1), (0, .ref v0), (1, .int v1)]) hx hb dX0_doDeed_51 rfl hl (by decide) rfl (fun ls hl => ?_)
          refine lv_aload_n hx hb dX0_doDeed_52 rfl (lv_at hl 2 rfl) ?_
          obtain ⟨fs23, y24, hfs23, hvfs23, h⟩ := h
          refine x_get G S.1 hfs23 hvfs23 fl_X0_18 dX0_doDeed_53 ?_
          refine lv_aload_n hx hb dX0_doDeed_56 rfl (lv_at hl 2 rfl) ?_
          obtain ⟨fs25, r26, hfs25, hvfs25, h⟩ := h
          refine x_get G S.1 hfs25 hvfs25 fl_X0_22 dX0_doDeed_57 ?_
          refine x_spl (fun c51 => ?_) (fun y27 c51 => ?_)
          · have h := h.1 c51
            refine lv_aload_n hx hb dX0_doDeed_60 rfl (lv_at hl 2 rfl) ?_
            obtain ⟨fs28, y29, hfs28, hvfs28, h⟩ := h
            refine x_get G S.1 hfs28 hvfs28 fl_X0_26 dX0_doDeed_61 ?_
            exact h.elim
          · have h := h.2 y27 c51
            refine lv_aload_n hx hb dX0_doDeed_60 rfl (lv_at hl 2 rfl) ?_
            obtain ⟨fs30, y31, hfs30, hvfs30, h⟩ := h
            refine x_get G S.1 hfs30 hvfs30 fl_X0_26 dX0_doDeed_61 ?_
            obtain ⟨fs50, hfs50, h⟩ := h
            refine x_cRVi (As := [.int y31]) (rest := [.ref y24]) G S.1 hfs50 rfl rfl (c_X8_shipsAt l D kA _ _ y27 y31 h) cd_X8_shipsAt ml_X0_71 ⟨(Nat.le_of_ble_eq_true rfl), (Nat.le_of_ble_eq_true rfl)⟩ rfl hl.1 rfl (Nat.le_of_ble_eq_true rfl) dX0_doDeed_64 ⟨Nat.zero_le _, Nat.zero_le _⟩ (fun r32 h => ?_)
            refine lv_iload_n hx hb dX0_doDeed_67 rfl (lv_at hl 0 rfl) ?_
            obtain ⟨fs49, hfs49, h⟩ := h
            refine x_cMVv (As := [.int r32, .int r22]) (rest := []) G S hA hfs49 rfl rfl (c_X7_pass l D kA _ _ _ y24 r32 r22 h) cd_X7_pass ml_X0_86 ⟨(Nat.le_of_ble_eq_true rfl), (Nat.le_of_ble_eq_true rfl)⟩ rfl hl.1 rfl (Nat.le_of_ble_eq_true rfl) dX0_doDeed_68 ⟨Nat.zero_le _, Nat.zero_le _⟩ (fun X H locs h S => ?_)
            refine lv_iload_n hx hb dX0_doDeed_71 rfl (lv_at hl 1 rfl) ?_
            refine lv_iconst (v := (3 : Int32)) hx hb dX0_doDeed_72 (by decide) ?_
            refine lv_icmp_ne (tgt := 97) hx hb dX0_doDeed_73 (by decide) (fun c34 => ?_) (fun c34 => ?_)
            · have h := h.1 c34
              exact J_97 _ _ _ _ h S ls (lv_sub hl [2, 3, 1] rfl)
            · have h := h.2 c34
              refine lv_aload_n hx hb dX0_doDeed_76 rfl (lv_at hl 2 rfl) ?_
              obtain ⟨fs35, y36, hfs35, hvfs35, h⟩ := h
              refine x_get G S.1 hfs35 hvfs35 fl_X0_18 dX0_doDeed_77 ?_
              refine lv_aload_n hx hb dX0_doDeed_80 rfl (lv_at hl 2 rfl) ?_
              obtain ⟨fs37, r38, hfs37, hvfs37, h⟩ := h
              refine x_get G S.1 hfs37 hvfs37 fl_X0_22 dX0_doDeed_81 ?_
              refine x_spl (fun c48 => ?_) (fun y39 c48 => ?_)
              · have h := h.1 c48
                refine lv_aload_n hx hb dX0_doDeed_84 rfl (lv_at hl 2 rfl) ?_
                obtain ⟨fs40, y41, hfs40, hvfs40, h⟩ := h
                refine x_get G S.1 hfs40 hvfs40 fl_X0_26 dX0_doDeed_85 ?_
                refine lv_iconst (v := (1 : Int32)) hx hb dX0_doDeed_88 (by decide) ?_
                refine lv_iadd hx hb dX0_doDeed_89 ?_
                exact h.elim
              · have h := h.2 y39 c48
                refine lv_aload_n hx hb dX0_doDeed_84 rfl (lv_at hl 2 rfl) ?_
                obtain ⟨fs42, y43, hfs42, hvfs42, h⟩ := h
                refine x_get G S.1 hfs42 hvfs42 fl_X0_26 dX0_doDeed_85 ?_
                refine lv_iconst (v := (1 : Int32)) hx hb dX0_doDeed_88 (by decide) ?_
                refine lv_iadd hx hb dX0_doDeed_89 ?_
                obtain ⟨fs47, hfs47, h⟩ := h
                refine x_cRVi (As := [.int (y43 + (1 : Int32))]) (rest := [.ref y36]) G S.1 hfs47 rfl rfl (c_X8_shipsAt l D kA _ _ y39 (y43 + (1 : Int32)) h) cd_X8_shipsAt ml_X0_71 ⟨(Nat.le_of_ble_eq_true rfl), (Nat.le_of_ble_eq_true rfl)⟩ rfl hl.1 rfl (Nat.le_of_ble_eq_true rfl) dX0_doDeed_90 ⟨Nat.zero_le _, Nat.zero_le _⟩ (fun r44 h => ?_)
                refine lv_iload_n hx hb dX0_doDeed_93 rfl (lv_at hl 0 rfl) ?_
                obtain ⟨fs46, hfs46, h⟩ := h
                refine x_cMVv (As := [.int r44, .int r22]) (rest := []) G S hA hfs46 rfl rfl (c_X7_pass l D kA _ _ _ y36 r44 r22 h) cd_X7_pass ml_X0_86 ⟨(Nat.le_of_ble_eq_true rfl), (Nat.le_of_ble_eq_true rfl)⟩ rfl hl.1 rfl (Nat.le_of_ble_eq_true rfl) dX0_doDeed_94 ⟨Nat.zero_le _, Nat.zero_le _⟩ (fun X H locs h S => ?_)
                exact J_97 _ _ _ _ h S ls (lv_sub hl [2, 3, 1] rfl)
        · have h := h.2 c17
          refine lv_iconst (v := (0 : Int32)) hx hb dX0_doDeed_37 (by decide) ?_
          exact x_zretM G hr hlk (Or.inl rfl) S (Nat.le_refl _) (Nat.le_refl _) h dX0_doDeed_38
def bk_X0_sailBy_70 (post : Int32 → Hp → Prop) (v0 : Nat) (v1 : Nat) (r_7 : Hp → Int32 → Int32 → Int32 → Prop) (X : Hp) (b70_2 : Int32) (b70_4 : Int32) (b70_s0 : Int32) : Prop := ∀ x21 : Int32, x21 = b70_4 + (1 : Int32) → r_7 X b70_2 b70_s0 x21
def bk_X0_sailBy_53 (post : Int32 → Hp → Prop) (v0 : Nat) (v1 : Nat) (r_7 : Hp → Int32 → Int32 → Int32 → Prop) (X : Hp) (b53_2 : Int32) (b53_4 : Int32) : Prop := ∃ (fs16 : List Value) (y17 : Nat), Hs X v1 (.inr (3, fs16)) ∧ fs16[1]? = some (.ref y17) ∧ ∃ (n18 : Nat) (f19 : Nat → Int32), Hs X y17 (.inl (0, n18, .inl f19)) ∧ vp_in b53_4 n18 ∧ (¬ (f19 b53_4.toNatClampNeg) = (33 : Int32) → bk_X0_sailBy_70 post v0 v1 r_7 X b53_2 b53_4 (0 : Int32)) ∧ ((f19 b53_4.toNatClampNeg) = (33 : Int32) → bk_X0_sailBy_70 post v0 v1 r_7 X b53_2 b53_4 (1 : Int32))
def bk_X0_sailBy_7 (post : Int32 → Hp → Prop) (v0 : Nat) (v1 : Nat)  : Nat → Hp → Int32 → Int32 → Int32 → Prop
  | 0, _, _, _, _ => False
  | k + 1, X, b7_2, b7_3, b7_4 => ∃ (fs2 : List Value) (y3 : Int32), Hs X v1 (.inr (3, fs2)) ∧ fs2[0]? = some (.int y3) ∧ (y3 ≤ b7_4 → post (-6 : Int32) X) ∧ (¬ y3 ≤ b7_4 → ∃ (fs5 : List Value) (y6 : Nat), Hs X v1 (.inr (3, fs5)) ∧ fs5[1]? = some (.ref y6) ∧ ∃ (n7 : Nat) (f8 : Nat → Int32), Hs X y6 (.inl (0, n7, .inl f8)) ∧ vp_in b7_4 n7 ∧ wp_X3_thingOf (fun r9 => (r9 = (-6 : Int32) → bk_X0_sailBy_53 post v0 v1 (bk_X0_sailBy_7 post v0 v1 k) X b7_2 b7_4) ∧ (¬ r9 = (-6 : Int32) → ∃ fs15 : List Value, Hs X v0 (.inr (0, fs15)) ∧ wp_X0_doDeed (fun r12 X11 => (¬ r12 = 0 → ∀ x14 : Int32, x14 = b7_2 + (1 : Int32) → bk_X0_sailBy_53 post v0 v1 (bk_X0_sailBy_7 post v0 v1 k) X11 x14 b7_4) ∧ (r12 = 0 → post b7_2 X11)) X v0 (((2 : Int32) * r9) + b7_3))) X (f8 b7_4.toNatClampNeg))
def wp_X0_sailBy (post : Int32 → Hp → Prop) (X : Hp) (v0 : Nat) (v1 : Nat) : Prop := ∃ n1 : Nat, bk_X0_sailBy_7 post v0 v1 n1 X (0 : Int32) (0 : Int32) (0 : Int32)
set_option maxHeartbeats 4000000 in
set_option maxRecDepth 100000 in
theorem c_X0_sailBy (l : Launch) (D : va_G) (kA : Nat → ClassId) (post : Int32 → Hp → Prop) (X : Hp) (sz : Nat) (v0 : Nat) (v1 : Nat) (h : wp_X0_sailBy post X v0 v1) : Met l yX0_sailBy (.code yX0_sailBy cX0_sailBy 6 (some .int) :: gd) (rmO 4 0 0 92) (va_Pc [Value.ref v0, Value.ref v1] (PreM D kA X sz)) (va_Qi post (PoM D kA X sz) (va_A (hw kA X) sz)) 0 0 (va_A (hw kA X) sz) := by
  unfold wp_X0_sailBy at h
  refine x_enM (by decide) (Nat.le_of_ble_eq_true rfl) ?_
  intro p e s m below meth c G hr hlk hin hsz hA S ls hl
  obtain ⟨hx, hb, hml, hown, hts, hE, hK⟩ := id G
  have hl : lv_has ls 6 [(0, .ref v0), (1, .ref v1)] := hl
  obtain ⟨X0, hX0⟩ : ∃ Y : Hp, Y = X := ⟨_, rfl⟩
  subst hX0
  have J_7 : ∀ (n : Nat) (X : Hp) (b7_2 : Int32) (b7_3 : Int32) (b7_4 : Int32), ∀ (H : Heap) (locs : List Loc) (_ : bk_X0_sailBy_7 post v0 v1  n X b7_2 b7_3 b7_4), Sx D kA (va_A (hw kA X0) sz) s.heap H locs X → ∀ ls, lv_has ls 6 [(0, .ref v0), (1, .ref v1), (2, .int b7_2), (3, .int b7_3), (4, .int b7_4)] → W p l e (rmO 4 0 0 92) s m [Value.ref v0, Value.ref v1].toArray below meth c H locs 0 0 (MQ below (va_Qi post (PoM D kA X0 sz) (va_A (hw kA X0) sz)) [Value.ref v0, Value.ref v1].toArray s 0 0 (va_A (hw kA X0) sz)) (F0 m 7 ls []) := by
    intro n
    induction n with
    | zero =>
      intro X b7_2 b7_3 b7_4 H locs h S ls hl
      rw [bk_X0_sailBy_7] at h
      exact h.elim
    | succ n_7 ih_7 =>
      have J_70 : ∀ (X : Hp) (b70_2 : Int32) (b70_4 : Int32) (b70_s0 : Int32), ∀ (H : Heap) (locs : List Loc) (_ : bk_X0_sailBy_70 post v0 v1 (bk_X0_sailBy_7 post v0 v1 n_7) X b70_2 b70_4 b70_s0), Sx D kA (va_A (hw kA X0) sz) s.heap H locs X → ∀ ls, lv_has ls 6 [(0, .ref v0), (1, .ref v1), (2, .int b70_2), (4, .int b70_4)] → W p l e (rmO 4 0 0 92) s m [Value.ref v0, Value.ref v1].toArray below meth c H locs 0 0 (MQ below (va_Qi post (PoM D kA X0 sz) (va_A (hw kA X0) sz)) [Value.ref v0, Value.ref v1].toArray s 0 0 (va_A (hw kA X0) sz)) (F0 m 70 ls [.int b70_s0]) := by
        intro X b70_2 b70_4 b70_s0 H locs h S ls hl
        unfold bk_X0_sailBy_70 at h
        refine lv_istore_n (lv' := [(3, .int b70_s0), (0, .ref v0), (1, .ref v1), (2, .int b70_2), (4, .int b70_4)]) hx hb dX0_sailBy_70 rfl hl (by decide) rfl (fun ls hl => ?_)
        obtain ⟨x21, ex21⟩ : ∃ y : Int32, y = b70_4 + (1 : Int32) := ⟨_, rfl⟩
        have h := h x21 ex21
        refine lv_iinc (v := x21) (lv' := [(4, .int x21), (3, .int b70_s0), (0, .ref v0), (1, .ref v1), (2, .int b70_2)]) hx hb dX0_sailBy_71 hl (k := 4) rfl (by rw [ex21]; rfl) (by decide) rfl (fun ls hl => ?_)
        refine lv_goto (tgt := 7) hx hb dX0_sailBy_74 (by decide) ?_
        exact ih_7 _ _ _ _ _ _ h S ls (lv_sub hl [2, 3, 4, 1, 0] rfl)
      have J_53 : ∀ (X : Hp) (b53_2 : Int32) (b53_4 : Int32), ∀ (H : Heap) (locs : List Loc) (_ : bk_X0_sailBy_53 post v0 v1 (bk_X0_sailBy_7 post v0 v1 n_7) X b53_2 b53_4), Sx D kA (va_A (hw kA X0) sz) s.heap H locs X → ∀ ls, lv_has ls 6 [(0, .ref v0), (1, .ref v1), (2, .int b53_2), (4, .int b53_4)] → W p l e (rmO 4 0 0 92) s m [Value.ref v0, Value.ref v1].toArray below meth c H locs 0 0 (MQ below (va_Qi post (PoM D kA X0 sz) (va_A (hw kA X0) sz)) [Value.ref v0, Value.ref v1].toArray s 0 0 (va_A (hw kA X0) sz)) (F0 m 53 ls []) := by
        intro X b53_2 b53_4 H locs h S ls hl
        unfold bk_X0_sailBy_53 at h
        refine lv_aload_n hx hb dX0_sailBy_53 rfl (lv_at hl 1 rfl) ?_
        obtain ⟨fs16, y17, hfs16, hvfs16, h⟩ := h
        refine x_get G S.1 hfs16 hvfs16 fl_X0_44 dX0_sailBy_54 ?_
        refine lv_iload hx hb dX0_sailBy_57 (lv_at hl 3 rfl) ?_
        obtain ⟨n18, f19, hf19, hif19, h⟩ := h
        refine x_iald G S.1 hf19 hif19 dX0_sailBy_59 ?_
        refine lv_bipush (v := (33 : Int32)) hx hb dX0_sailBy_60 (by decide) ?_
        refine lv_icmp_ne (tgt := 69) hx hb dX0_sailBy_62 (by decide) (fun c20 => ?_) (fun c20 => ?_)
        · have h := h.1 c20
          refine lv_iconst (v := (0 : Int32)) hx hb dX0_sailBy_69 (by decide) ?_
          exact J_70 _ _ _ _ _ _ h S ls (lv_sub hl [0, 1, 2, 3] rfl)
        · have h := h.2 c20
          refine lv_iconst (v := (1 : Int32)) hx hb dX0_sailBy_65 (by decide) ?_
          refine lv_goto (tgt := 70) hx hb dX0_sailBy_66 (by decide) ?_
          exact J_70 _ _ _ _ _ _ h S ls (lv_sub hl [0, 1, 2, 3] rfl)
      intro X b7_2 b7_3 b7_4 H locs h S ls hl
      rw [bk_X0_sailBy_7] at h
      refine lv_iload hx hb dX0_sailBy_7 (lv_at hl 4 rfl) ?_
      refine lv_aload_n hx hb dX0_sailBy_9 rfl (lv_at hl 1 rfl) ?_
      obtain ⟨fs2, y3, hfs2, hvfs2, h⟩ := h
      refine x_get G S.1 hfs2 hvfs2 fl_X0_39 dX0_sailBy_10 ?_
      refine lv_icmp_ge (tgt := 77) hx hb dX0_sailBy_13 (by decide) (fun c4 => ?_) (fun c4 => ?_)
      · have h := h.1 c4
        refine lv_bipush (v := (-6 : Int32)) hx hb dX0_sailBy_77 (by decide) ?_
        exact x_iretM G hr hlk S (Nat.le_refl _) (Nat.le_refl _) h dX0_sailBy_79
      · have h := h.2 c4
        refine lv_aload_n hx hb dX0_sailBy_16 rfl (lv_at hl 1 rfl) ?_
        obtain ⟨fs5, y6, hfs5, hvfs5, h⟩ := h
        refine x_get G S.1 hfs5 hvfs5 fl_X0_44 dX0_sailBy_17 ?_
        refine lv_iload hx hb dX0_sailBy_20 (lv_at hl 4 rfl) ?_
        obtain ⟨n7, f8, hf8, hif8, h⟩ := h
        refine x_iald G S.1 hf8 hif8 dX0_sailBy_22 ?_
        refine x_cRSi (As := [.int (f8 b7_4.toNatClampNeg)]) (rest := []) G S.1 (c_X3_thingOf l D kA _ _ (f8 b7_4.toNatClampNeg) h) cd_X3_thingOf ml_X0_48 ⟨(Nat.le_of_ble_eq_true rfl), (Nat.le_of_ble_eq_true rfl)⟩ rfl hl.1 rfl (Nat.le_of_ble_eq_true rfl) dX0_sailBy_23 ⟨Nat.zero_le _, Nat.zero_le _⟩ (fun r9 h => ?_)
        refine lv_istore (lv' := [(5, .int r9), (0, .ref v0), (1, .ref v1), (2, .int b7_2), (3, .int b7_3), (4, .int b7_4)]) hx hb dX0_sailBy_26 hl (by decide) rfl (fun ls hl => ?_)
        refine lv_iload hx hb dX0_sailBy_28 (lv_at hl 0 rfl) ?_
        refine lv_bipush (v := (-6 : Int32)) hx hb dX0_sailBy_30 (by decide) ?_
        refine lv_icmp_eq (tgt := 53) hx hb dX0_sailBy_32 (by decide) (fun c10 => ?_) (fun c10 => ?_)
        · have h := h.1 c10
          exact J_53 _ _ _ _ _ h S ls (lv_sub hl [1, 2, 3, 5] rfl)
        · have h := h.2 c10
          refine lv_aload_n hx hb dX0_sailBy_35 rfl (lv_at hl 1 rfl) ?_
          refine lv_iconst (v := (2 : Int32)) hx hb dX0_sailBy_36 (by decide) ?_
          refine lv_iload hx hb dX0_sailBy_37 (lv_at hl 0 rfl) ?_
          refine lv_imul hx hb dX0_sailBy_39 ?_
          refine lv_iload_n hx hb dX0_sailBy_40 rfl (lv_at hl 4 rfl) ?_
          refine lv_iadd hx hb dX0_sailBy_41 ?_
          obtain ⟨fs15, hfs15, h⟩ := h
          refine x_cMVi (As := [.int (((2 : Int32) * r9) + b7_3)]) (rest := []) G S hA hfs15 rfl rfl (c_X0_doDeed l D kA _ _ _ v0 (((2 : Int32) * r9) + b7_3) h) cd_X0_doDeed ml_X0_52 ⟨(Nat.le_of_ble_eq_true rfl), (Nat.le_of_ble_eq_true rfl)⟩ rfl hl.1 rfl (Nat.le_of_ble_eq_true rfl) dX0_sailBy_42 ⟨Nat.zero_le _, Nat.zero_le _⟩ (fun r12 X H locs h S => ?_)
          refine lv_if_ne (tgt := 50) hx hb dX0_sailBy_45 (by decide) (fun c13 => ?_) (fun c13 => ?_)
          · have h := h.1 c13
            obtain ⟨x14, ex14⟩ : ∃ y : Int32, y = b7_2 + (1 : Int32) := ⟨_, rfl⟩
            have h := h x14 ex14
            refine lv_iinc (v := x14) (lv' := [(2, .int x14), (5, .int r9), (0, .ref v0), (1, .ref v1), (3, .int b7_3), (4, .int b7_4)]) hx hb dX0_sailBy_50 hl (k := 3) rfl (by rw [ex14]; rfl) (by decide) rfl (fun ls hl => ?_)
            exact J_53 _ _ _ _ _ h S ls (lv_sub hl [2, 3, 0, 5] rfl)
          · have h := h.2 c13
            refine lv_iload_n hx hb dX0_sailBy_48 rfl (lv_at hl 3 rfl) ?_
            exact x_iretM G hr hlk S (Nat.le_refl _) (Nat.le_refl _) h dX0_sailBy_49
  refine lv_iconst (v := (0 : Int32)) hx hb dX0_sailBy_0 (by decide) ?_
  refine lv_istore_n (lv' := [(2, .int (0 : Int32)), (0, .ref v0), (1, .ref v1)]) hx hb dX0_sailBy_1 rfl hl (by decide) rfl (fun ls hl => ?_)
  refine lv_iconst (v := (0 : Int32)) hx hb dX0_sailBy_2 (by decide) ?_
  refine lv_istore_n (lv' := [(3, .int (0 : Int32)), (2, .int (0 : Int32)), (0, .ref v0), (1, .ref v1)]) hx hb dX0_sailBy_3 rfl hl (by decide) rfl (fun ls hl => ?_)
  refine lv_iconst (v := (0 : Int32)) hx hb dX0_sailBy_4 (by decide) ?_
  refine lv_istore (lv' := [(4, .int (0 : Int32)), (3, .int (0 : Int32)), (2, .int (0 : Int32)), (0, .ref v0), (1, .ref v1)]) hx hb dX0_sailBy_5 hl (by decide) rfl (fun ls hl => ?_)
  obtain ⟨n1, h⟩ := h
  exact J_7 n1 _ _ _ _ _ _ h S ls (lv_sub hl [3, 4, 2, 1, 0] rfl)
def wp_X0_saidByThumb (post : Int32 → Prop) (X : Hp) (v0 : Nat) (v1 : Int32) : Prop := (v1 = (1 : Int32) → ∃ (fs2 : List Value) (y3 : Int32), Hs X v0 (.inr (0, fs2)) ∧ fs2[4]? = some (.int y3) ∧ (y3 < (8 : Int32) → post (0 : Int32)) ∧ (¬ y3 < (8 : Int32) → post (1 : Int32))) ∧ (v1 = (2 : Int32) → ∃ (fs6 : List Value) (y7 : Int32), Hs X v0 (.inr (0, fs6)) ∧ fs6[4]? = some (.int y7) ∧ (y7 < (4 : Int32) → post (0 : Int32)) ∧ (¬ y7 < (4 : Int32) → ∃ (fs9 : List Value) (r10 : Option Nat), Hs X v0 (.inr (0, fs9)) ∧ fs9[2]? = some (va_rf r10) ∧ (r10 = none → ∃ (fs12 : List Value) (y13 : Int32), Hs X v0 (.inr (0, fs12)) ∧ fs12[3]? = some (.int y13) ∧ False) ∧ (∀ y11 : Nat, r10 = some y11 → ∃ (fs14 : List Value) (y15 : Int32), Hs X v0 (.inr (0, fs14)) ∧ fs14[3]? = some (.int y15) ∧ ∃ fs18 : List Value, Hs X y11 (.inr (8, fs18)) ∧ wp_X8_shipsAt (fun r16 => ((50 : Int32) ≤ r16 → post (0 : Int32)) ∧ (¬ (50 : Int32) ≤ r16 → post (1 : Int32)))  X y11 y15))) ∧ (¬ v1 = (1 : Int32) ∧ ¬ v1 = (2 : Int32) → ∃ (fs20 : List Value) (y21 : Int32), Hs X v0 (.inr (0, fs20)) ∧ fs20[4]? = some (.int y21) ∧ (y21 < (1 : Int32) → post (0 : Int32)) ∧ (¬ y21 < (1 : Int32) → ∃ (fs23 : List Value) (y24 : Int32), Hs X v0 (.inr (0, fs23)) ∧ fs23[3]? = some (.int y24) ∧ wp_X9_isNight (fun r25 => (r25 = 0 → post (0 : Int32)) ∧ (¬ r25 = 0 → post (1 : Int32)))  X y24))
set_option maxHeartbeats 4000000 in
set_option maxRecDepth 100000 in
theorem c_X0_saidByThumb (l : Launch) (D : va_G) (kA : Nat → ClassId) (post : Int32 → Prop) (X : Hp) (v0 : Nat) (v1 : Int32) (h : wp_X0_saidByThumb post X v0 v1) : Met l yX0_saidByThumb (.code yX0_saidByThumb cX0_saidByThumb 2 (some .boolean) :: gd) (rmO 1 0 0 21) (va_Pc [Value.ref v0, Value.int v1] (Pre D kA X)) (vp_Si post) 0 0 (fun _ => False) := by
  unfold wp_X0_saidByThumb at h
  refine x_enR (by decide) (Nat.le_of_ble_eq_true rfl) ?_
  intro p e s m below meth c G hr hlk hP ls hl
  obtain ⟨hx, hb, hml, hown, hts, hE, hK⟩ := id G
  have hl : lv_has ls 2 [(0, .ref v0), (1, .int v1)] := hl
  refine lv_iload_n hx hb dX0_saidByThumb_0 rfl (lv_at hl 1 rfl) ?_
  by_cases c1 : v1 = (1 : Int32)
  · have h := h.1 c1
    refine lv_lookup (off := 27) (tgt := 28) hx hb dX0_saidByThumb_1 (by decide) (by rw [c1]; decide) (by decide) ?_
    refine lv_aload_n hx hb dX0_saidByThumb_28 rfl (lv_at hl 0 rfl) ?_
    obtain ⟨fs2, y3, hfs2, hvfs2, h⟩ := h
    refine x_get G hP hfs2 hvfs2 fl_X0_30 dX0_saidByThumb_29 ?_
    refine lv_bipush (v := (8 : Int32)) hx hb dX0_saidByThumb_32 (by decide) ?_
    refine lv_icmp_lt (tgt := 41) hx hb dX0_saidByThumb_34 (by decide) (fun c4 => ?_) (fun c4 => ?_)
    · have h := h.1 c4
      refine lv_iconst (v := (0 : Int32)) hx hb dX0_saidByThumb_41 (by decide) ?_
      exact x_zretR G hr hlk (Or.inl rfl) h dX0_saidByThumb_42
    · have h := h.2 c4
      refine lv_iconst (v := (1 : Int32)) hx hb dX0_saidByThumb_37 (by decide) ?_
      refine lv_goto (tgt := 42) hx hb dX0_saidByThumb_38 (by decide) ?_
      exact x_zretR G hr hlk (Or.inr rfl) h dX0_saidByThumb_42
  have h := h.2
  by_cases c5 : v1 = (2 : Int32)
  · have h := h.1 c5
    refine lv_lookup (off := 42) (tgt := 43) hx hb dX0_saidByThumb_1 (by decide) (by rw [c5]; decide) (by decide) ?_
    refine lv_aload_n hx hb dX0_saidByThumb_43 rfl (lv_at hl 0 rfl) ?_
    obtain ⟨fs6, y7, hfs6, hvfs6, h⟩ := h
    refine x_get G hP hfs6 hvfs6 fl_X0_30 dX0_saidByThumb_44 ?_
    refine lv_iconst (v := (4 : Int32)) hx hb dX0_saidByThumb_47 (by decide) ?_
    refine lv_icmp_lt (tgt := 71) hx hb dX0_saidByThumb_48 (by decide) (fun c8 => ?_) (fun c8 => ?_)
    · have h := h.1 c8
      refine lv_iconst (v := (0 : Int32)) hx hb dX0_saidByThumb_71 (by decide) ?_
      exact x_zretR G hr hlk (Or.inl rfl) h dX0_saidByThumb_72
    · have h := h.2 c8
      refine lv_aload_n hx hb dX0_saidByThumb_51 rfl (lv_at hl 0 rfl) ?_
      obtain ⟨fs9, r10, hfs9, hvfs9, h⟩ := h
      refine x_get G hP hfs9 hvfs9 fl_X0_22 dX0_saidByThumb_52 ?_
      refine x_spl (fun c19 => ?_) (fun y11 c19 => ?_)
      · have h := h.1 c19
        refine lv_aload_n hx hb dX0_saidByThumb_55 rfl (lv_at hl 0 rfl) ?_
        obtain ⟨fs12, y13, hfs12, hvfs12, h⟩ := h
        refine x_get G hP hfs12 hvfs12 fl_X0_26 dX0_saidByThumb_56 ?_
        exact h.elim
      · have h := h.2 y11 c19
        refine lv_aload_n hx hb dX0_saidByThumb_55 rfl (lv_at hl 0 rfl) ?_
        obtain ⟨fs14, y15, hfs14, hvfs14, h⟩ := h
        refine x_get G hP hfs14 hvfs14 fl_X0_26 dX0_saidByThumb_56 ?_
        obtain ⟨fs18, hfs18, h⟩ := h
        refine x_cRVi (As := [.int y15]) (rest := []) G hP hfs18 rfl rfl (c_X8_shipsAt l D kA _ _ y11 y15 h) cd_X8_shipsAt ml_X0_71 ⟨(Nat.le_of_ble_eq_true rfl), (Nat.le_of_ble_eq_true rfl)⟩ rfl hl.1 rfl (Nat.le_of_ble_eq_true rfl) dX0_saidByThumb_59 ⟨Nat.zero_le _, Nat.zero_le _⟩ (fun r16 h => ?_)
        refine lv_bipush (v := (50 : Int32)) hx hb dX0_saidByThumb_62 (by decide) ?_
        refine lv_icmp_ge (tgt := 71) hx hb dX0_saidByThumb_64 (by decide) (fun c17 => ?_) (fun c17 => ?_)
        · have h := h.1 c17
          refine lv_iconst (v := (0 : Int32)) hx hb dX0_saidByThumb_71 (by decide) ?_
          exact x_zretR G hr hlk (Or.inl rfl) h dX0_saidByThumb_72
        · have h := h.2 c17
          refine lv_iconst (v := (1 : Int32)) hx hb dX0_saidByThumb_67 (by decide) ?_
          refine lv_goto (tgt := 72) hx hb dX0_saidByThumb_68 (by decide) ?_
          exact x_zretR G hr hlk (Or.inr rfl) h dX0_saidByThumb_72
  have h := h.2
  have h := h ⟨c1, c5⟩
  refine lv_lookup (off := 72) (tgt := 73) hx hb dX0_saidByThumb_1 (by decide) (by show Op.lookupswitch.offset [(1, 27), (2, 42)] 72 _ = _; rw [lv_osw c1 (by decide), lv_osw c5 (by decide)]; rfl) (by decide) ?_
  refine lv_aload_n hx hb dX0_saidByThumb_73 rfl (lv_at hl 0 rfl) ?_
  obtain ⟨fs20, y21, hfs20, hvfs20, h⟩ := h
  refine x_get G hP hfs20 hvfs20 fl_X0_30 dX0_saidByThumb_74 ?_
  refine lv_iconst (v := (1 : Int32)) hx hb dX0_saidByThumb_77 (by decide) ?_
  refine lv_icmp_lt (tgt := 95) hx hb dX0_saidByThumb_78 (by decide) (fun c22 => ?_) (fun c22 => ?_)
  · have h := h.1 c22
    refine lv_iconst (v := (0 : Int32)) hx hb dX0_saidByThumb_95 (by decide) ?_
    exact x_zretR G hr hlk (Or.inl rfl) h dX0_saidByThumb_96
  · have h := h.2 c22
    refine lv_aload_n hx hb dX0_saidByThumb_81 rfl (lv_at hl 0 rfl) ?_
    obtain ⟨fs23, y24, hfs23, hvfs23, h⟩ := h
    refine x_get G hP hfs23 hvfs23 fl_X0_26 dX0_saidByThumb_82 ?_
    refine x_cRSi (As := [.int y24]) (rest := []) G hP (c_X9_isNight l D kA _ _ y24 h) cd_X9_isNight ml_X0_74 ⟨(Nat.le_of_ble_eq_true rfl), (Nat.le_of_ble_eq_true rfl)⟩ rfl hl.1 rfl (Nat.le_of_ble_eq_true rfl) dX0_saidByThumb_85 ⟨Nat.zero_le _, Nat.zero_le _⟩ (fun r25 h => ?_)
    refine lv_if_eq (tgt := 95) hx hb dX0_saidByThumb_88 (by decide) (fun c26 => ?_) (fun c26 => ?_)
    · have h := h.1 c26
      refine lv_iconst (v := (0 : Int32)) hx hb dX0_saidByThumb_95 (by decide) ?_
      exact x_zretR G hr hlk (Or.inl rfl) h dX0_saidByThumb_96
    · have h := h.2 c26
      refine lv_iconst (v := (1 : Int32)) hx hb dX0_saidByThumb_91 (by decide) ?_
      refine lv_goto (tgt := 96) hx hb dX0_saidByThumb_92 (by decide) ?_
      exact x_zretR G hr hlk (Or.inr rfl) h dX0_saidByThumb_96
def wp_X0_thingByThumb (post : Int32 → Prop) (X : Hp) (v0 : Nat) (v1 : Int32) : Prop := (¬ v1 = 0 → ∃ fs26 : List Value, Hs X v0 (.inr (0, fs26)) ∧ wp_X0_saidByThumb (fun r2 => (¬ r2 = 0 → ∃ (fs4 : List Value) (r5 : Option Nat), Hs X v0 (.inr (0, fs4)) ∧ fs4[2]? = some (va_rf r5) ∧ (r5 = none → ∃ (fs7 : List Value) (y8 : Int32), Hs X v0 (.inr (0, fs7)) ∧ fs7[3]? = some (.int y8) ∧ False) ∧ (∀ y6 : Nat, r5 = some y6 → ∃ (fs9 : List Value) (y10 : Int32), Hs X v0 (.inr (0, fs9)) ∧ fs9[3]? = some (.int y10) ∧ ∃ fs24 : List Value, Hs X y6 (.inr (8, fs24)) ∧ wp_X8_lets (fun r11 => (r11 = 0 → ∃ (fs13 : List Value) (r14 : Option Nat), Hs X v0 (.inr (0, fs13)) ∧ fs13[2]? = some (va_rf r14) ∧ (r14 = none → ∃ (fs16 : List Value) (y17 : Int32), Hs X v0 (.inr (0, fs16)) ∧ fs16[3]? = some (.int y17) ∧ False) ∧ (∀ y15 : Nat, r14 = some y15 → ∃ (fs18 : List Value) (y19 : Int32), Hs X v0 (.inr (0, fs18)) ∧ fs18[3]? = some (.int y19) ∧ ∃ fs22 : List Value, Hs X y15 (.inr (8, fs22)) ∧ wp_X8_lets (fun r20 => (r20 = 0 → post (0 : Int32)) ∧ (¬ r20 = 0 → post (2 : Int32)))  X y15 y19 (2 : Int32))) ∧ (¬ r11 = 0 → post (3 : Int32)))  X y6 y10 (3 : Int32))) ∧ (r2 = 0 → post (0 : Int32)))  X v0 v1) ∧ (v1 = 0 → ∃ (fs27 : List Value) (y28 : Int32), Hs X v0 (.inr (0, fs27)) ∧ fs27[3]? = some (.int y28) ∧ (¬ (y28 - y28 / (2 : Int32) * (2 : Int32)) = (1 : Int32) → post (0 : Int32)) ∧ ((y28 - y28 / (2 : Int32) * (2 : Int32)) = (1 : Int32) → ∃ (fs30 : List Value) (r31 : Option Nat), Hs X v0 (.inr (0, fs30)) ∧ fs30[2]? = some (va_rf r31) ∧ (r31 = none → ∃ (fs33 : List Value) (y34 : Int32), Hs X v0 (.inr (0, fs33)) ∧ fs33[3]? = some (.int y34) ∧ False) ∧ (∀ y32 : Nat, r31 = some y32 → ∃ (fs35 : List Value) (y36 : Int32), Hs X v0 (.inr (0, fs35)) ∧ fs35[3]? = some (.int y36) ∧ ∃ fs39 : List Value, Hs X y32 (.inr (8, fs39)) ∧ wp_X8_lets (fun r37 => (r37 = 0 → post (0 : Int32)) ∧ (¬ r37 = 0 → post (1 : Int32)))  X y32 y36 (1 : Int32))))
set_option maxHeartbeats 4000000 in
set_option maxRecDepth 100000 in
theorem c_X0_thingByThumb (l : Launch) (D : va_G) (kA : Nat → ClassId) (post : Int32 → Prop) (X : Hp) (v0 : Nat) (v1 : Int32) (h : wp_X0_thingByThumb post X v0 v1) : Met l yX0_thingByThumb (.code yX0_thingByThumb cX0_thingByThumb 2 (some .int) :: gd) (rmO 2 0 0 43) (va_Pc [Value.ref v0, Value.int v1] (Pre D kA X)) (vp_Si post) 0 0 (fun _ => False) := by
  unfold wp_X0_thingByThumb at h
  refine x_enR (by decide) (Nat.le_of_ble_eq_true rfl) ?_
  intro p e s m below meth c G hr hlk hP ls hl
  obtain ⟨hx, hb, hml, hown, hts, hE, hK⟩ := id G
  have hl : lv_has ls 2 [(0, .ref v0), (1, .int v1)] := hl
  refine lv_iload_n hx hb dX0_thingByThumb_0 rfl (lv_at hl 1 rfl) ?_
  refine lv_if_ne (tgt := 35) hx hb dX0_thingByThumb_1 (by decide) (fun c1 => ?_) (fun c1 => ?_)
  · have h := h.1 c1
    refine lv_aload_n hx hb dX0_thingByThumb_35 rfl (lv_at hl 0 rfl) ?_
    refine lv_iload_n hx hb dX0_thingByThumb_36 rfl (lv_at hl 1 rfl) ?_
    obtain ⟨fs26, hfs26, h⟩ := h
    refine x_cRVi (As := [.int v1]) (rest := []) G hP hfs26 rfl rfl (c_X0_saidByThumb l D kA _ _ v0 v1 h) cd_X0_saidByThumb ml_X0_68 ⟨(Nat.le_of_ble_eq_true rfl), (Nat.le_of_ble_eq_true rfl)⟩ rfl hl.1 rfl (Nat.le_of_ble_eq_true rfl) dX0_thingByThumb_37 ⟨Nat.zero_le _, Nat.zero_le _⟩ (fun r2 h => ?_)
    refine lv_if_ne (tgt := 45) hx hb dX0_thingByThumb_40 (by decide) (fun c3 => ?_) (fun c3 => ?_)
    · have h := h.1 c3
      refine lv_aload_n hx hb dX0_thingByThumb_45 rfl (lv_at hl 0 rfl) ?_
      obtain ⟨fs4, r5, hfs4, hvfs4, h⟩ := h
      refine x_get G hP hfs4 hvfs4 fl_X0_22 dX0_thingByThumb_46 ?_
      refine x_spl (fun c25 => ?_) (fun y6 c25 => ?_)
      · have h := h.1 c25
        refine lv_aload_n hx hb dX0_thingByThumb_49 rfl (lv_at hl 0 rfl) ?_
        obtain ⟨fs7, y8, hfs7, hvfs7, h⟩ := h
        refine x_get G hP hfs7 hvfs7 fl_X0_26 dX0_thingByThumb_50 ?_
        refine lv_iconst (v := (3 : Int32)) hx hb dX0_thingByThumb_53 (by decide) ?_
        exact h.elim
      · have h := h.2 y6 c25
        refine lv_aload_n hx hb dX0_thingByThumb_49 rfl (lv_at hl 0 rfl) ?_
        obtain ⟨fs9, y10, hfs9, hvfs9, h⟩ := h
        refine x_get G hP hfs9 hvfs9 fl_X0_26 dX0_thingByThumb_50 ?_
        refine lv_iconst (v := (3 : Int32)) hx hb dX0_thingByThumb_53 (by decide) ?_
        obtain ⟨fs24, hfs24, h⟩ := h
        refine x_cRVi (As := [.int y10, .int (3 : Int32)]) (rest := []) G hP hfs24 rfl rfl (c_X8_lets l D kA _ _ y6 y10 (3 : Int32) h) cd_X8_lets ml_X0_64 ⟨(Nat.le_of_ble_eq_true rfl), (Nat.le_of_ble_eq_true rfl)⟩ rfl hl.1 rfl (Nat.le_of_ble_eq_true rfl) dX0_thingByThumb_54 ⟨Nat.zero_le _, Nat.zero_le _⟩ (fun r11 h => ?_)
        refine lv_if_eq (tgt := 62) hx hb dX0_thingByThumb_57 (by decide) (fun c12 => ?_) (fun c12 => ?_)
        · have h := h.1 c12
          refine lv_aload_n hx hb dX0_thingByThumb_62 rfl (lv_at hl 0 rfl) ?_
          obtain ⟨fs13, r14, hfs13, hvfs13, h⟩ := h
          refine x_get G hP hfs13 hvfs13 fl_X0_22 dX0_thingByThumb_63 ?_
          refine x_spl (fun c23 => ?_) (fun y15 c23 => ?_)
          · have h := h.1 c23
            refine lv_aload_n hx hb dX0_thingByThumb_66 rfl (lv_at hl 0 rfl) ?_
            obtain ⟨fs16, y17, hfs16, hvfs16, h⟩ := h
            refine x_get G hP hfs16 hvfs16 fl_X0_26 dX0_thingByThumb_67 ?_
            refine lv_iconst (v := (2 : Int32)) hx hb dX0_thingByThumb_70 (by decide) ?_
            exact h.elim
          · have h := h.2 y15 c23
            refine lv_aload_n hx hb dX0_thingByThumb_66 rfl (lv_at hl 0 rfl) ?_
            obtain ⟨fs18, y19, hfs18, hvfs18, h⟩ := h
            refine x_get G hP hfs18 hvfs18 fl_X0_26 dX0_thingByThumb_67 ?_
            refine lv_iconst (v := (2 : Int32)) hx hb dX0_thingByThumb_70 (by decide) ?_
            obtain ⟨fs22, hfs22, h⟩ := h
            refine x_cRVi (As := [.int y19, .int (2 : Int32)]) (rest := []) G hP hfs22 rfl rfl (c_X8_lets l D kA _ _ y15 y19 (2 : Int32) h) cd_X8_lets ml_X0_64 ⟨(Nat.le_of_ble_eq_true rfl), (Nat.le_of_ble_eq_true rfl)⟩ rfl hl.1 rfl (Nat.le_of_ble_eq_true rfl) dX0_thingByThumb_71 ⟨Nat.zero_le _, Nat.zero_le _⟩ (fun r20 h => ?_)
            refine lv_if_eq (tgt := 81) hx hb dX0_thingByThumb_74 (by decide) (fun c21 => ?_) (fun c21 => ?_)
            · have h := h.1 c21
              refine lv_iconst (v := (0 : Int32)) hx hb dX0_thingByThumb_81 (by decide) ?_
              exact x_iretR G hr hlk h dX0_thingByThumb_82
            · have h := h.2 c21
              refine lv_iconst (v := (2 : Int32)) hx hb dX0_thingByThumb_77 (by decide) ?_
              refine lv_goto (tgt := 82) hx hb dX0_thingByThumb_78 (by decide) ?_
              exact x_iretR G hr hlk h dX0_thingByThumb_82
        · have h := h.2 c12
          refine lv_iconst (v := (3 : Int32)) hx hb dX0_thingByThumb_60 (by decide) ?_
          exact x_iretR G hr hlk h dX0_thingByThumb_61
    · have h := h.2 c3
      refine lv_iconst (v := (0 : Int32)) hx hb dX0_thingByThumb_43 (by decide) ?_
      exact x_iretR G hr hlk h dX0_thingByThumb_44
  · have h := h.2 c1
    refine lv_aload_n hx hb dX0_thingByThumb_4 rfl (lv_at hl 0 rfl) ?_
    obtain ⟨fs27, y28, hfs27, hvfs27, h⟩ := h
    refine x_get G hP hfs27 hvfs27 fl_X0_26 dX0_thingByThumb_5 ?_
    refine lv_iconst (v := (2 : Int32)) hx hb dX0_thingByThumb_8 (by decide) ?_
    refine lv_irem hx hb dX0_thingByThumb_9 (by decide) ?_
    refine lv_iconst (v := (1 : Int32)) hx hb dX0_thingByThumb_10 (by decide) ?_
    refine lv_icmp_ne (tgt := 33) hx hb dX0_thingByThumb_11 (by decide) (fun c29 => ?_) (fun c29 => ?_)
    · have h := h.1 c29
      refine lv_iconst (v := (0 : Int32)) hx hb dX0_thingByThumb_33 (by decide) ?_
      exact x_iretR G hr hlk h dX0_thingByThumb_34
    · have h := h.2 c29
      refine lv_aload_n hx hb dX0_thingByThumb_14 rfl (lv_at hl 0 rfl) ?_
      obtain ⟨fs30, r31, hfs30, hvfs30, h⟩ := h
      refine x_get G hP hfs30 hvfs30 fl_X0_22 dX0_thingByThumb_15 ?_
      refine x_spl (fun c40 => ?_) (fun y32 c40 => ?_)
      · have h := h.1 c40
        refine lv_aload_n hx hb dX0_thingByThumb_18 rfl (lv_at hl 0 rfl) ?_
        obtain ⟨fs33, y34, hfs33, hvfs33, h⟩ := h
        refine x_get G hP hfs33 hvfs33 fl_X0_26 dX0_thingByThumb_19 ?_
        refine lv_iconst (v := (1 : Int32)) hx hb dX0_thingByThumb_22 (by decide) ?_
        exact h.elim
      · have h := h.2 y32 c40
        refine lv_aload_n hx hb dX0_thingByThumb_18 rfl (lv_at hl 0 rfl) ?_
        obtain ⟨fs35, y36, hfs35, hvfs35, h⟩ := h
        refine x_get G hP hfs35 hvfs35 fl_X0_26 dX0_thingByThumb_19 ?_
        refine lv_iconst (v := (1 : Int32)) hx hb dX0_thingByThumb_22 (by decide) ?_
        obtain ⟨fs39, hfs39, h⟩ := h
        refine x_cRVi (As := [.int y36, .int (1 : Int32)]) (rest := []) G hP hfs39 rfl rfl (c_X8_lets l D kA _ _ y32 y36 (1 : Int32) h) cd_X8_lets ml_X0_64 ⟨(Nat.le_of_ble_eq_true rfl), (Nat.le_of_ble_eq_true rfl)⟩ rfl hl.1 rfl (Nat.le_of_ble_eq_true rfl) dX0_thingByThumb_23 ⟨Nat.zero_le _, Nat.zero_le _⟩ (fun r37 h => ?_)
        refine lv_if_eq (tgt := 33) hx hb dX0_thingByThumb_26 (by decide) (fun c38 => ?_) (fun c38 => ?_)
        · have h := h.1 c38
          refine lv_iconst (v := (0 : Int32)) hx hb dX0_thingByThumb_33 (by decide) ?_
          exact x_iretR G hr hlk h dX0_thingByThumb_34
        · have h := h.2 c38
          refine lv_iconst (v := (1 : Int32)) hx hb dX0_thingByThumb_29 (by decide) ?_
          refine lv_goto (tgt := 34) hx hb dX0_thingByThumb_30 (by decide) ?_
          exact x_iretR G hr hlk h dX0_thingByThumb_34
def bk_X0_sailByThumb_10 (post : Hp → Prop) (v0 : Nat) (v1 : Int32)  : Nat → Hp → Int32 → Prop
  | 0, _, _ => False
  | k + 1, X, b10_2 => ((48 : Int32) ≤ b10_2 → post X) ∧ (¬ (48 : Int32) ≤ b10_2 → ∃ (fs7 : List Value) (y8 : Int32), Hs X v0 (.inr (0, fs7)) ∧ fs7[3]? = some (.int y8) ∧ ∃ (fs9 : List Value) (r10 : Option Nat), Hs X v0 (.inr (0, fs9)) ∧ fs9[2]? = some (va_rf r10) ∧ (r10 = none → False) ∧ (∀ y11 : Nat, r10 = some y11 → ∃ (fs12 : List Value) (y13 : Int32), Hs X y11 (.inr (8, fs12)) ∧ fs12[1]? = some (.int y13) ∧ (y13 ≤ y8 → post X) ∧ (¬ y13 ≤ y8 → ∃ fs20 : List Value, Hs X v0 (.inr (0, fs20)) ∧ wp_X0_thingByThumb (fun r15 => ∃ fs19 : List Value, Hs X v0 (.inr (0, fs19)) ∧ wp_X0_doDeed (fun r17 X16 => ∀ x18 : Int32, x18 = b10_2 + (1 : Int32) → (bk_X0_sailByThumb_10 post v0 v1 k) X16 x18) X v0 ((2 : Int32) * r15)) X v0 v1)))
def wp_X0_sailByThumb (post : Hp → Prop) (X : Hp) (v0 : Nat) (v1 : Int32) : Prop := ∃ (fs1 : List Value) (r2 : Option Nat), Hs X v0 (.inr (0, fs1)) ∧ fs1[2]? = some (va_rf r2) ∧ (r2 = none → post X) ∧ (∀ y3 : Nat, r2 = some y3 → ∃ n4 : Nat, bk_X0_sailByThumb_10 post v0 v1 n4 X (0 : Int32))
set_option maxHeartbeats 4000000 in
set_option maxRecDepth 100000 in
theorem c_X0_sailByThumb (l : Launch) (D : va_G) (kA : Nat → ClassId) (post : Hp → Prop) (X : Hp) (sz : Nat) (v0 : Nat) (v1 : Int32) (h : wp_X0_sailByThumb post X v0 v1) : Met l yX0_sailByThumb (.code yX0_sailByThumb cX0_sailByThumb 3 none :: gd) (rmO 4 0 0 92) (va_Pc [Value.ref v0, Value.int v1] (PreM D kA X sz)) (va_Qv post (PoM D kA X sz) (va_A (hw kA X) sz)) 0 0 (va_A (hw kA X) sz) := by
  unfold wp_X0_sailByThumb at h
  refine x_enM (by decide) (Nat.le_of_ble_eq_true rfl) ?_
  intro p e s m below meth c G hr hlk hin hsz hA S ls hl
  obtain ⟨hx, hb, hml, hown, hts, hE, hK⟩ := id G
  have hl : lv_has ls 3 [(0, .ref v0), (1, .int v1)] := hl
  obtain ⟨X0, hX0⟩ : ∃ Y : Hp, Y = X := ⟨_, rfl⟩
  subst hX0
  have J_10 : ∀ (n : Nat) (X : Hp) (b10_2 : Int32), ∀ (H : Heap) (locs : List Loc) (_ : bk_X0_sailByThumb_10 post v0 v1  n X b10_2), Sx D kA (va_A (hw kA X0) sz) s.heap H locs X → ∀ ls, lv_has ls 3 [(0, .ref v0), (1, .int v1), (2, .int b10_2)] → W p l e (rmO 4 0 0 92) s m [Value.ref v0, Value.int v1].toArray below meth c H locs 0 0 (MQ below (va_Qv post (PoM D kA X0 sz) (va_A (hw kA X0) sz)) [Value.ref v0, Value.int v1].toArray s 0 0 (va_A (hw kA X0) sz)) (F0 m 10 ls []) := by
    intro n
    induction n with
    | zero =>
      intro X b10_2 H locs h S ls hl
      rw [bk_X0_sailByThumb_10] at h
      exact h.elim
    | succ n_10 ih_10 =>
      intro X b10_2 H locs h S ls hl
      rw [bk_X0_sailByThumb_10] at h
      refine lv_iload_n hx hb dX0_sailByThumb_10 rfl (lv_at hl 2 rfl) ?_
      refine lv_bipush (v := (48 : Int32)) hx hb dX0_sailByThumb_11 (by decide) ?_
      refine lv_icmp_ge (tgt := 48) hx hb dX0_sailByThumb_13 (by decide) (fun c6 => ?_) (fun c6 => ?_)
      · have h := h.1 c6
        exact x_vretM G hr hlk S (Nat.le_refl _) (Nat.le_refl _) h dX0_sailByThumb_48
      · have h := h.2 c6
        refine lv_aload_n hx hb dX0_sailByThumb_16 rfl (lv_at hl 0 rfl) ?_
        obtain ⟨fs7, y8, hfs7, hvfs7, h⟩ := h
        refine x_get G S.1 hfs7 hvfs7 fl_X0_26 dX0_sailByThumb_17 ?_
        refine lv_aload_n hx hb dX0_sailByThumb_20 rfl (lv_at hl 0 rfl) ?_
        obtain ⟨fs9, r10, hfs9, hvfs9, h⟩ := h
        refine x_get G S.1 hfs9 hvfs9 fl_X0_22 dX0_sailByThumb_21 ?_
        refine x_spl (fun c21 => ?_) (fun y11 c21 => ?_)
        · have h := h.1 c21
          exact h.elim
        · have h := h.2 y11 c21
          obtain ⟨fs12, y13, hfs12, hvfs12, h⟩ := h
          refine x_get G S.1 hfs12 hvfs12 fl_X0_56 dX0_sailByThumb_24 ?_
          refine lv_icmp_ge (tgt := 48) hx hb dX0_sailByThumb_27 (by decide) (fun c14 => ?_) (fun c14 => ?_)
          · have h := h.1 c14
            exact x_vretM G hr hlk S (Nat.le_refl _) (Nat.le_refl _) h dX0_sailByThumb_48
          · have h := h.2 c14
            refine lv_aload_n hx hb dX0_sailByThumb_30 rfl (lv_at hl 0 rfl) ?_
            refine lv_iconst (v := (2 : Int32)) hx hb dX0_sailByThumb_31 (by decide) ?_
            refine lv_aload_n hx hb dX0_sailByThumb_32 rfl (lv_at hl 0 rfl) ?_
            refine lv_iload_n hx hb dX0_sailByThumb_33 rfl (lv_at hl 1 rfl) ?_
            obtain ⟨fs20, hfs20, h⟩ := h
            refine x_cRVi (As := [.int v1]) (rest := [.int (2 : Int32), .ref v0]) G S.1 hfs20 rfl rfl (c_X0_thingByThumb l D kA _ _ v0 v1 h) cd_X0_thingByThumb ml_X0_61 ⟨(Nat.le_of_ble_eq_true rfl), (Nat.le_of_ble_eq_true rfl)⟩ rfl hl.1 rfl (Nat.le_of_ble_eq_true rfl) dX0_sailByThumb_34 ⟨Nat.zero_le _, Nat.zero_le _⟩ (fun r15 h => ?_)
            refine lv_imul hx hb dX0_sailByThumb_37 ?_
            obtain ⟨fs19, hfs19, h⟩ := h
            refine x_cMVi (As := [.int ((2 : Int32) * r15)]) (rest := []) G S hA hfs19 rfl rfl (c_X0_doDeed l D kA _ _ _ v0 ((2 : Int32) * r15) h) cd_X0_doDeed ml_X0_52 ⟨(Nat.le_of_ble_eq_true rfl), (Nat.le_of_ble_eq_true rfl)⟩ rfl hl.1 rfl (Nat.le_of_ble_eq_true rfl) dX0_sailByThumb_38 ⟨Nat.zero_le _, Nat.zero_le _⟩ (fun r17 X H locs h S => ?_)
            refine lv_pop hx hb dX0_sailByThumb_41 rfl ?_
            obtain ⟨x18, ex18⟩ : ∃ y : Int32, y = b10_2 + (1 : Int32) := ⟨_, rfl⟩
            have h := h x18 ex18
            refine lv_iinc (v := x18) (lv' := [(2, .int x18), (0, .ref v0), (1, .int v1)]) hx hb dX0_sailByThumb_42 hl (k := 2) rfl (by rw [ex18]; rfl) (by decide) rfl (fun ls hl => ?_)
            refine lv_goto (tgt := 10) hx hb dX0_sailByThumb_45 (by decide) ?_
            exact ih_10 _ _ _ _ h S ls (lv_sub hl [1, 2, 0] rfl)
  refine lv_aload_n hx hb dX0_sailByThumb_0 rfl (lv_at hl 0 rfl) ?_
  obtain ⟨fs1, r2, hfs1, hvfs1, h⟩ := h
  refine x_get G S.1 hfs1 hvfs1 fl_X0_22 dX0_sailByThumb_1 ?_
  refine x_spl (fun c5 => ?_) (fun y3 c5 => ?_)
  · have h := h.1 c5
    refine lv_ifnonnullN hx hb dX0_sailByThumb_4 ?_
    exact x_vretM G hr hlk S (Nat.le_refl _) (Nat.le_refl _) h dX0_sailByThumb_7
  · have h := h.2 y3 c5
    refine lv_ifnonnull (tgt := 8) hx hb dX0_sailByThumb_4 (by decide) ?_
    refine lv_iconst (v := (0 : Int32)) hx hb dX0_sailByThumb_8 (by decide) ?_
    refine lv_istore_n (lv' := [(2, .int (0 : Int32)), (0, .ref v0), (1, .int v1)]) hx hb dX0_sailByThumb_9 rfl hl (by decide) rfl (fun ls hl => ?_)
    obtain ⟨n4, h⟩ := h
    exact J_10 n4 _ _ _ _ h S ls (lv_sub hl [1, 2, 0] rfl)
def bk_X0_safeByTurns_177 (post : Int32 → Hp → Prop) (v0 : Nat) (v1 : Nat) (v2 : Int32) (v3 : Int32) (r_17 : Hp → Int32 → Int32 → Int32 → Prop) (X : Hp) (b177_4 : Int32) (b177_6 : Int32) (b177_s0 : Int32) : Prop := ∀ x41 : Int32, x41 = b177_6 + (1 : Int32) → r_17 X b177_4 b177_s0 x41
def bk_X0_safeByTurns_153 (post : Int32 → Hp → Prop) (v0 : Nat) (v1 : Nat) (v2 : Int32) (v3 : Int32) (r_17 : Hp → Int32 → Int32 → Int32 → Prop) (X : Hp) (b153_4 : Int32) (b153_5 : Int32) (b153_6 : Int32) : Prop := ∃ (fs37 : List Value) (y38 : Nat), Hs X v0 (.inr (0, fs37)) ∧ fs37[0]? = some (.ref y38) ∧ ∃ fs40 : List Value, Hs X y38 (.inr (2, fs40)) ∧ wp_X2_owedBehind (fun r39 => bk_X0_safeByTurns_177 post v0 v1 v2 v3 r_17 X b153_4 b153_6 r39)  X y38 v1 b153_6 b153_5 (0 : Int32)
def bk_X0_safeByTurns_141 (post : Int32 → Hp → Prop) (v0 : Nat) (v1 : Nat) (v2 : Int32) (v3 : Int32) (r_17 : Hp → Int32 → Int32 → Int32 → Prop) (X : Hp) (b141_5 : Int32) (b141_6 : Int32) (b141_7 : Int32) (b141_8 : Int32) (b141_s0 : Int32) : Prop := (¬ b141_7 = 0 → bk_X0_safeByTurns_153 post v0 v1 v2 v3 r_17 X b141_s0 b141_5 b141_6) ∧ (b141_7 = 0 → (¬ b141_8 = 0 → bk_X0_safeByTurns_177 post v0 v1 v2 v3 r_17 X b141_s0 b141_6 ((if (0 : Int32) < (b141_5 - (2 : Int32)) then (b141_5 - (2 : Int32)) else (0 : Int32)))) ∧ (b141_8 = 0 → bk_X0_safeByTurns_153 post v0 v1 v2 v3 r_17 X b141_s0 b141_5 b141_6))
def bk_X0_safeByTurns_117 (post : Int32 → Hp → Prop) (v0 : Nat) (v1 : Nat) (v2 : Int32) (v3 : Int32) (r_17 : Hp → Int32 → Int32 → Int32 → Prop) (X : Hp) (b117_4 : Int32) (b117_5 : Int32) (b117_6 : Int32) (b117_7 : Int32) (b117_8 : Int32) : Prop := ∃ (fs31 : List Value) (y32 : Nat), Hs X v0 (.inr (0, fs31)) ∧ fs31[0]? = some (.ref y32) ∧ ∃ fs34 : List Value, Hs X y32 (.inr (2, fs34)) ∧ wp_X2_owedBehind (fun r33 => bk_X0_safeByTurns_141 post v0 v1 v2 v3 r_17 X b117_5 b117_6 b117_7 b117_8 r33)  X y32 v1 b117_6 b117_4 (0 : Int32)
def bk_X0_safeByTurns_82 (post : Int32 → Hp → Prop) (v0 : Nat) (v1 : Nat) (v2 : Int32) (v3 : Int32) (r_17 : Hp → Int32 → Int32 → Int32 → Prop) (X : Hp) (b82_4 : Int32) (b82_5 : Int32) (b82_6 : Int32) (b82_7 : Int32) (b82_8 : Int32) (b82_s0 : Int32) : Prop := ∃ (fs19 : List Value) (y20 : Nat), Hs X v0 (.inr (0, fs19)) ∧ fs19[1]? = some (.ref y20) ∧ ∃ fs30 : List Value, Hs X v1 (.inr (8, fs30)) ∧ wp_X8_shipsAt (fun r21 => ∃ (fs22 : List Value) (y23 : Nat), Hs X v0 (.inr (0, fs22)) ∧ fs22[0]? = some (.ref y23) ∧ ∃ fs29 : List Value, Hs X y23 (.inr (2, fs29)) ∧ wp_X2_blindOf (fun r24 => ∃ fs28 : List Value, Hs X y20 (.inr (7, fs28)) ∧ wp_X7_pass (fun X25 => (¬ b82_7 = 0 → bk_X0_safeByTurns_117 post v0 v1 v2 v3 r_17 X25 b82_4 b82_5 b82_6 b82_7 b82_8) ∧ (b82_7 = 0 → (b82_8 = 0 → bk_X0_safeByTurns_141 post v0 v1 v2 v3 r_17 X25 b82_5 b82_6 b82_7 b82_8 ((if (0 : Int32) < (b82_4 - (2 : Int32)) then (b82_4 - (2 : Int32)) else (0 : Int32)))) ∧ (¬ b82_8 = 0 → bk_X0_safeByTurns_117 post v0 v1 v2 v3 r_17 X25 b82_4 b82_5 b82_6 b82_7 b82_8)))  X y20 r21 r24)  X y23 (0 : Int32) b82_s0)  X v1 b82_6
def bk_X0_safeByTurns_53 (post : Int32 → Hp → Prop) (v0 : Nat) (v1 : Nat) (v2 : Int32) (v3 : Int32) (r_17 : Hp → Int32 → Int32 → Int32 → Prop) (X : Hp) (b53_4 : Int32) (b53_5 : Int32) (b53_6 : Int32) (b53_7 : Int32) (b53_s0 : Int32) : Prop := (b53_7 = 0 → (b53_s0 = 0 → bk_X0_safeByTurns_82 post v0 v1 v2 v3 r_17 X b53_4 b53_5 b53_6 b53_7 b53_s0 b53_5) ∧ (¬ b53_s0 = 0 → bk_X0_safeByTurns_82 post v0 v1 v2 v3 r_17 X b53_4 b53_5 b53_6 b53_7 b53_s0 b53_4)) ∧ (¬ b53_7 = 0 → bk_X0_safeByTurns_82 post v0 v1 v2 v3 r_17 X b53_4 b53_5 b53_6 b53_7 b53_s0 ((if b53_5 < b53_4 then b53_5 else b53_4)))
def bk_X0_safeByTurns_48 (post : Int32 → Hp → Prop) (v0 : Nat) (v1 : Nat) (v2 : Int32) (v3 : Int32) (r_17 : Hp → Int32 → Int32 → Int32 → Prop) (X : Hp) (b48_4 : Int32) (b48_5 : Int32) (b48_6 : Int32) (b48_7 : Int32) : Prop := bk_X0_safeByTurns_53 post v0 v1 v2 v3 r_17 X b48_4 b48_5 b48_6 b48_7 (1 : Int32)
def bk_X0_safeByTurns_17 (post : Int32 → Hp → Prop) (v0 : Nat) (v1 : Nat) (v2 : Int32) (v3 : Int32)  : Nat → Hp → Int32 → Int32 → Int32 → Prop
  | 0, _, _, _, _ => False
  | k + 1, X, b17_4, b17_5, b17_6 => ∃ (fs6 : List Value) (y7 : Int32), Hs X v1 (.inr (8, fs6)) ∧ fs6[1]? = some (.int y7) ∧ (y7 ≤ b17_6 → ∃ (fs9 : List Value) (y10 : Nat), Hs X v0 (.inr (0, fs9)) ∧ fs9[1]? = some (.ref y10) ∧ ∃ fs12 : List Value, Hs X y10 (.inr (7, fs12)) ∧ wp_X7_safe (fun r11 => post r11 X) X y10) ∧ (¬ y7 ≤ b17_6 → ∃ fs16 : List Value, Hs X v1 (.inr (8, fs16)) ∧ wp_X8_squallAt (fun r13 => (v3 < (1 : Int32) → bk_X0_safeByTurns_48 post v0 v1 v2 v3 (bk_X0_safeByTurns_17 post v0 v1 v2 v3 k) X b17_4 b17_5 b17_6 r13) ∧ (¬ v3 < (1 : Int32) → ¬ v3 = 0 ∧ (¬ ((b17_6 / v3) - (b17_6 / v3) / (2 : Int32) * (2 : Int32)) = 0 → bk_X0_safeByTurns_53 post v0 v1 v2 v3 (bk_X0_safeByTurns_17 post v0 v1 v2 v3 k) X b17_4 b17_5 b17_6 r13 (0 : Int32)) ∧ (((b17_6 / v3) - (b17_6 / v3) / (2 : Int32) * (2 : Int32)) = 0 → bk_X0_safeByTurns_48 post v0 v1 v2 v3 (bk_X0_safeByTurns_17 post v0 v1 v2 v3 k) X b17_4 b17_5 b17_6 r13))) X v1 b17_6)
def wp_X0_safeByTurns (post : Int32 → Hp → Prop) (X : Hp) (v0 : Nat) (v1 : Nat) (v2 : Int32) (v3 : Int32) : Prop := ∃ (fs1 : List Value) (y2 : Nat), Hs X v0 (.inr (0, fs1)) ∧ fs1[1]? = some (.ref y2) ∧ ∃ (fs3 : List Value), Hs X y2 (.inr (7, fs3)) ∧ 0 < fs3.length ∧ ∀ X4 : Hp, X4 = hput X y2 (.inr (7, fs3.set 0 (.int (0 : Int32)))) → ∃ n5 : Nat, bk_X0_safeByTurns_17 post v0 v1 v2 v3 n5 X4 v2 v2 (0 : Int32)
set_option maxHeartbeats 4000000 in
set_option maxRecDepth 100000 in
theorem c_X0_safeByTurns (l : Launch) (D : va_G) (kA : Nat → ClassId) (post : Int32 → Hp → Prop) (X : Hp) (sz : Nat) (v0 : Nat) (v1 : Nat) (v2 : Int32) (v3 : Int32) (h : wp_X0_safeByTurns post X v0 v1 v2 v3) : Met l yX0_safeByTurns (.code yX0_safeByTurns cX0_safeByTurns 10 (some .int) :: gd) (rmO 3 0 0 69) (va_Pc [Value.ref v0, Value.ref v1, Value.int v2, Value.int v3] (PreM D kA X sz)) (va_Qi post (PoM D kA X sz) (va_A (hw kA X) sz)) 0 0 (va_A (hw kA X) sz) := by
  unfold wp_X0_safeByTurns at h
  refine x_enM (by decide) (Nat.le_of_ble_eq_true rfl) ?_
  intro p e s m below meth c G hr hlk hin hsz hA S ls hl
  obtain ⟨hx, hb, hml, hown, hts, hE, hK⟩ := id G
  have hl : lv_has ls 10 [(0, .ref v0), (1, .ref v1), (2, .int v2), (3, .int v3)] := hl
  obtain ⟨X0, hX0⟩ : ∃ Y : Hp, Y = X := ⟨_, rfl⟩
  subst hX0
  have J_17 : ∀ (n : Nat) (X : Hp) (b17_4 : Int32) (b17_5 : Int32) (b17_6 : Int32), ∀ (H : Heap) (locs : List Loc) (_ : bk_X0_safeByTurns_17 post v0 v1 v2 v3  n X b17_4 b17_5 b17_6), Sx D kA (va_A (hw kA X0) sz) s.heap H locs X → ∀ ls, lv_has ls 10 [(0, .ref v0), (1, .ref v1), (3, .int v3), (4, .int b17_4), (5, .int b17_5), (6, .int b17_6)] → W p l e (rmO 3 0 0 69) s m [Value.ref v0, Value.ref v1, Value.int v2, Value.int v3].toArray below meth c H locs 0 0 (MQ below (va_Qi post (PoM D kA X0 sz) (va_A (hw kA X0) sz)) [Value.ref v0, Value.ref v1, Value.int v2, Value.int v3].toArray s 0 0 (va_A (hw kA X0) sz)) (F0 m 17 ls []) := by
    intro n
    induction n with
    | zero =>
      intro X b17_4 b17_5 b17_6 H locs h S ls hl
      rw [bk_X0_safeByTurns_17] at h
      exact h.elim
    | succ n_17 ih_17 =>
      have J_177 : ∀ (X : Hp) (b177_4 : Int32) (b177_6 : Int32) (b177_s0 : Int32), ∀ (H : Heap) (locs : List Loc) (_ : bk_X0_safeByTurns_177 post v0 v1 v2 v3 (bk_X0_safeByTurns_17 post v0 v1 v2 v3 n_17) X b177_4 b177_6 b177_s0), Sx D kA (va_A (hw kA X0) sz) s.heap H locs X → ∀ ls, lv_has ls 10 [(0, .ref v0), (1, .ref v1), (3, .int v3), (4, .int b177_4), (6, .int b177_6)] → W p l e (rmO 3 0 0 69) s m [Value.ref v0, Value.ref v1, Value.int v2, Value.int v3].toArray below meth c H locs 0 0 (MQ below (va_Qi post (PoM D kA X0 sz) (va_A (hw kA X0) sz)) [Value.ref v0, Value.ref v1, Value.int v2, Value.int v3].toArray s 0 0 (va_A (hw kA X0) sz)) (F0 m 177 ls [.int b177_s0]) := by
        intro X b177_4 b177_6 b177_s0 H locs h S ls hl
        unfold bk_X0_safeByTurns_177 at h
        refine lv_istore (lv' := [(5, .int b177_s0), (0, .ref v0), (1, .ref v1), (3, .int v3), (4, .int b177_4), (6, .int b177_6)]) hx hb dX0_safeByTurns_177 hl (by decide) rfl (fun ls hl => ?_)
        obtain ⟨x41, ex41⟩ : ∃ y : Int32, y = b177_6 + (1 : Int32) := ⟨_, rfl⟩
        have h := h x41 ex41
        refine lv_iinc (v := x41) (lv' := [(6, .int x41), (5, .int b177_s0), (0, .ref v0), (1, .ref v1), (3, .int v3), (4, .int b177_4)]) hx hb dX0_safeByTurns_179 hl (k := 5) rfl (by rw [ex41]; rfl) (by decide) rfl (fun ls hl => ?_)
        refine lv_goto (tgt := 17) hx hb dX0_safeByTurns_182 (by decide) ?_
        exact ih_17 _ _ _ _ _ _ h S ls (lv_sub hl [2, 3, 4, 5, 1, 0] rfl)
      have J_153 : ∀ (X : Hp) (b153_4 : Int32) (b153_5 : Int32) (b153_6 : Int32), ∀ (H : Heap) (locs : List Loc) (_ : bk_X0_safeByTurns_153 post v0 v1 v2 v3 (bk_X0_safeByTurns_17 post v0 v1 v2 v3 n_17) X b153_4 b153_5 b153_6), Sx D kA (va_A (hw kA X0) sz) s.heap H locs X → ∀ ls, lv_has ls 10 [(0, .ref v0), (1, .ref v1), (3, .int v3), (4, .int b153_4), (5, .int b153_5), (6, .int b153_6)] → W p l e (rmO 3 0 0 69) s m [Value.ref v0, Value.ref v1, Value.int v2, Value.int v3].toArray below meth c H locs 0 0 (MQ below (va_Qi post (PoM D kA X0 sz) (va_A (hw kA X0) sz)) [Value.ref v0, Value.ref v1, Value.int v2, Value.int v3].toArray s 0 0 (va_A (hw kA X0) sz)) (F0 m 153 ls []) := by
        intro X b153_4 b153_5 b153_6 H locs h S ls hl
        unfold bk_X0_safeByTurns_153 at h
        refine lv_aload_n hx hb dX0_safeByTurns_153 rfl (lv_at hl 0 rfl) ?_
        obtain ⟨fs37, y38, hfs37, hvfs37, h⟩ := h
        refine x_get G S.1 hfs37 hvfs37 fl_X0_9 dX0_safeByTurns_154 ?_
        refine lv_aload_n hx hb dX0_safeByTurns_157 rfl (lv_at hl 1 rfl) ?_
        refine lv_iload hx hb dX0_safeByTurns_158 (lv_at hl 5 rfl) ?_
        refine lv_iload hx hb dX0_safeByTurns_160 (lv_at hl 4 rfl) ?_
        refine lv_iconst (v := (0 : Int32)) hx hb dX0_safeByTurns_162 (by decide) ?_
        obtain ⟨fs40, hfs40, h⟩ := h
        refine x_cRVi (As := [.ref v1, .int b153_6, .int b153_5, .int (0 : Int32)]) (rest := []) G S.1 hfs40 rfl rfl (c_X2_owedBehind l D kA _ _ y38 v1 b153_6 b153_5 (0 : Int32) h) cd_X2_owedBehind ml_X0_90 ⟨(Nat.le_of_ble_eq_true rfl), (Nat.le_of_ble_eq_true rfl)⟩ rfl hl.1 rfl (Nat.le_of_ble_eq_true rfl) dX0_safeByTurns_163 ⟨Nat.zero_le _, Nat.zero_le _⟩ (fun r39 h => ?_)
        refine lv_goto (tgt := 177) hx hb dX0_safeByTurns_166 (by decide) ?_
        exact J_177 _ _ _ _ _ _ h S ls (lv_sub hl [0, 1, 2, 3, 5] rfl)
      have J_141 : ∀ (X : Hp) (b141_5 : Int32) (b141_6 : Int32) (b141_7 : Int32) (b141_8 : Int32) (b141_s0 : Int32), ∀ (H : Heap) (locs : List Loc) (_ : bk_X0_safeByTurns_141 post v0 v1 v2 v3 (bk_X0_safeByTurns_17 post v0 v1 v2 v3 n_17) X b141_5 b141_6 b141_7 b141_8 b141_s0), Sx D kA (va_A (hw kA X0) sz) s.heap H locs X → ∀ ls, lv_has ls 10 [(0, .ref v0), (1, .ref v1), (3, .int v3), (5, .int b141_5), (6, .int b141_6), (7, .int b141_7), (8, .int b141_8)] → W p l e (rmO 3 0 0 69) s m [Value.ref v0, Value.ref v1, Value.int v2, Value.int v3].toArray below meth c H locs 0 0 (MQ below (va_Qi post (PoM D kA X0 sz) (va_A (hw kA X0) sz)) [Value.ref v0, Value.ref v1, Value.int v2, Value.int v3].toArray s 0 0 (va_A (hw kA X0) sz)) (F0 m 141 ls [.int b141_s0]) := by
        intro X b141_5 b141_6 b141_7 b141_8 b141_s0 H locs h S ls hl
        unfold bk_X0_safeByTurns_141 at h
        refine lv_istore (lv' := [(4, .int b141_s0), (0, .ref v0), (1, .ref v1), (3, .int v3), (5, .int b141_5), (6, .int b141_6), (7, .int b141_7), (8, .int b141_8)]) hx hb dX0_safeByTurns_141 hl (by decide) rfl (fun ls hl => ?_)
        refine lv_iload hx hb dX0_safeByTurns_143 (lv_at hl 6 rfl) ?_
        refine lv_if_ne (tgt := 153) hx hb dX0_safeByTurns_145 (by decide) (fun c35 => ?_) (fun c35 => ?_)
        · have h := h.1 c35
          exact J_153 _ _ _ _ _ _ h S ls (lv_sub hl [1, 2, 3, 0, 4, 5] rfl)
        · have h := h.2 c35
          refine lv_iload hx hb dX0_safeByTurns_148 (lv_at hl 7 rfl) ?_
          refine lv_if_ne (tgt := 169) hx hb dX0_safeByTurns_150 (by decide) (fun c36 => ?_) (fun c36 => ?_)
          · have h := h.1 c36
            refine lv_iconst (v := (0 : Int32)) hx hb dX0_safeByTurns_169 (by decide) ?_
            refine lv_iload hx hb dX0_safeByTurns_170 (lv_at hl 4 rfl) ?_
            refine lv_iconst (v := (2 : Int32)) hx hb dX0_safeByTurns_172 (by decide) ?_
            refine lv_isub hx hb dX0_safeByTurns_173 ?_
            refine x_max G hl.1 mk_X0_105 ms_max mi_math mc_max (Nat.le_of_ble_eq_true rfl) (Nat.le_of_ble_eq_true rfl) (Nat.zero_le _) (Nat.zero_le _) dX0_safeByTurns_174 ?_
            exact J_177 _ _ _ _ _ _ h S ls (lv_sub hl [1, 2, 3, 0, 5] rfl)
          · have h := h.2 c36
            exact J_153 _ _ _ _ _ _ h S ls (lv_sub hl [1, 2, 3, 0, 4, 5] rfl)
      have J_117 : ∀ (X : Hp) (b117_4 : Int32) (b117_5 : Int32) (b117_6 : Int32) (b117_7 : Int32) (b117_8 : Int32), ∀ (H : Heap) (locs : List Loc) (_ : bk_X0_safeByTurns_117 post v0 v1 v2 v3 (bk_X0_safeByTurns_17 post v0 v1 v2 v3 n_17) X b117_4 b117_5 b117_6 b117_7 b117_8), Sx D kA (va_A (hw kA X0) sz) s.heap H locs X → ∀ ls, lv_has ls 10 [(0, .ref v0), (1, .ref v1), (3, .int v3), (4, .int b117_4), (5, .int b117_5), (6, .int b117_6), (7, .int b117_7), (8, .int b117_8)] → W p l e (rmO 3 0 0 69) s m [Value.ref v0, Value.ref v1, Value.int v2, Value.int v3].toArray below meth c H locs 0 0 (MQ below (va_Qi post (PoM D kA X0 sz) (va_A (hw kA X0) sz)) [Value.ref v0, Value.ref v1, Value.int v2, Value.int v3].toArray s 0 0 (va_A (hw kA X0) sz)) (F0 m 117 ls []) := by
        intro X b117_4 b117_5 b117_6 b117_7 b117_8 H locs h S ls hl
        unfold bk_X0_safeByTurns_117 at h
        refine lv_aload_n hx hb dX0_safeByTurns_117 rfl (lv_at hl 0 rfl) ?_
        obtain ⟨fs31, y32, hfs31, hvfs31, h⟩ := h
        refine x_get G S.1 hfs31 hvfs31 fl_X0_9 dX0_safeByTurns_118 ?_
        refine lv_aload_n hx hb dX0_safeByTurns_121 rfl (lv_at hl 1 rfl) ?_
        refine lv_iload hx hb dX0_safeByTurns_122 (lv_at hl 5 rfl) ?_
        refine lv_iload hx hb dX0_safeByTurns_124 (lv_at hl 3 rfl) ?_
        refine lv_iconst (v := (0 : Int32)) hx hb dX0_safeByTurns_126 (by decide) ?_
        obtain ⟨fs34, hfs34, h⟩ := h
        refine x_cRVi (As := [.ref v1, .int b117_6, .int b117_4, .int (0 : Int32)]) (rest := []) G S.1 hfs34 rfl rfl (c_X2_owedBehind l D kA _ _ y32 v1 b117_6 b117_4 (0 : Int32) h) cd_X2_owedBehind ml_X0_90 ⟨(Nat.le_of_ble_eq_true rfl), (Nat.le_of_ble_eq_true rfl)⟩ rfl hl.1 rfl (Nat.le_of_ble_eq_true rfl) dX0_safeByTurns_127 ⟨Nat.zero_le _, Nat.zero_le _⟩ (fun r33 h => ?_)
        refine lv_goto (tgt := 141) hx hb dX0_safeByTurns_130 (by decide) ?_
        exact J_141 _ _ _ _ _ _ _ _ h S ls (lv_sub hl [0, 1, 2, 4, 5, 6, 7] rfl)
      have J_82 : ∀ (X : Hp) (b82_4 : Int32) (b82_5 : Int32) (b82_6 : Int32) (b82_7 : Int32) (b82_8 : Int32) (b82_s0 : Int32), ∀ (H : Heap) (locs : List Loc) (_ : bk_X0_safeByTurns_82 post v0 v1 v2 v3 (bk_X0_safeByTurns_17 post v0 v1 v2 v3 n_17) X b82_4 b82_5 b82_6 b82_7 b82_8 b82_s0), Sx D kA (va_A (hw kA X0) sz) s.heap H locs X → ∀ ls, lv_has ls 10 [(0, .ref v0), (1, .ref v1), (3, .int v3), (4, .int b82_4), (5, .int b82_5), (6, .int b82_6), (7, .int b82_7), (8, .int b82_8)] → W p l e (rmO 3 0 0 69) s m [Value.ref v0, Value.ref v1, Value.int v2, Value.int v3].toArray below meth c H locs 0 0 (MQ below (va_Qi post (PoM D kA X0 sz) (va_A (hw kA X0) sz)) [Value.ref v0, Value.ref v1, Value.int v2, Value.int v3].toArray s 0 0 (va_A (hw kA X0) sz)) (F0 m 82 ls [.int b82_s0]) := by
        intro X b82_4 b82_5 b82_6 b82_7 b82_8 b82_s0 H locs h S ls hl
        unfold bk_X0_safeByTurns_82 at h
        refine lv_istore (lv' := [(9, .int b82_s0), (0, .ref v0), (1, .ref v1), (3, .int v3), (4, .int b82_4), (5, .int b82_5), (6, .int b82_6), (7, .int b82_7), (8, .int b82_8)]) hx hb dX0_safeByTurns_82 hl (by decide) rfl (fun ls hl => ?_)
        refine lv_aload_n hx hb dX0_safeByTurns_84 rfl (lv_at hl 1 rfl) ?_
        obtain ⟨fs19, y20, hfs19, hvfs19, h⟩ := h
        refine x_get G S.1 hfs19 hvfs19 fl_X0_18 dX0_safeByTurns_85 ?_
        refine lv_aload_n hx hb dX0_safeByTurns_88 rfl (lv_at hl 2 rfl) ?_
        refine lv_iload hx hb dX0_safeByTurns_89 (lv_at hl 6 rfl) ?_
        obtain ⟨fs30, hfs30, h⟩ := h
        refine x_cRVi (As := [.int b82_6]) (rest := [.ref y20]) G S.1 hfs30 rfl rfl (c_X8_shipsAt l D kA _ _ v1 b82_6 h) cd_X8_shipsAt ml_X0_71 ⟨(Nat.le_of_ble_eq_true rfl), (Nat.le_of_ble_eq_true rfl)⟩ rfl hl.1 rfl (Nat.le_of_ble_eq_true rfl) dX0_safeByTurns_91 ⟨Nat.zero_le _, Nat.zero_le _⟩ (fun r21 h => ?_)
        refine lv_aload_n hx hb dX0_safeByTurns_94 rfl (lv_at hl 1 rfl) ?_
        obtain ⟨fs22, y23, hfs22, hvfs22, h⟩ := h
        refine x_get G S.1 hfs22 hvfs22 fl_X0_9 dX0_safeByTurns_95 ?_
        refine lv_iconst (v := (0 : Int32)) hx hb dX0_safeByTurns_98 (by decide) ?_
        refine lv_iload hx hb dX0_safeByTurns_99 (lv_at hl 0 rfl) ?_
        obtain ⟨fs29, hfs29, h⟩ := h
        refine x_cRVi (As := [.int (0 : Int32), .int b82_s0]) (rest := [.int r21, .ref y20]) G S.1 hfs29 rfl rfl (c_X2_blindOf l D kA _ _ y23 (0 : Int32) b82_s0 h) cd_X2_blindOf ml_X0_80 ⟨(Nat.le_of_ble_eq_true rfl), (Nat.le_of_ble_eq_true rfl)⟩ rfl hl.1 rfl (Nat.le_of_ble_eq_true rfl) dX0_safeByTurns_101 ⟨Nat.zero_le _, Nat.zero_le _⟩ (fun r24 h => ?_)
        obtain ⟨fs28, hfs28, h⟩ := h
        refine x_cMVv (As := [.int r21, .int r24]) (rest := []) G S hA hfs28 rfl rfl (c_X7_pass l D kA _ _ _ y20 r21 r24 h) cd_X7_pass ml_X0_86 ⟨(Nat.le_of_ble_eq_true rfl), (Nat.le_of_ble_eq_true rfl)⟩ rfl hl.1 rfl (Nat.le_of_ble_eq_true rfl) dX0_safeByTurns_104 ⟨Nat.zero_le _, Nat.zero_le _⟩ (fun X H locs h S => ?_)
        refine lv_iload hx hb dX0_safeByTurns_107 (lv_at hl 7 rfl) ?_
        refine lv_if_ne (tgt := 117) hx hb dX0_safeByTurns_109 (by decide) (fun c26 => ?_) (fun c26 => ?_)
        · have h := h.1 c26
          exact J_117 _ _ _ _ _ _ _ _ h S ls (lv_sub hl [1, 2, 3, 4, 5, 6, 7, 8] rfl)
        · have h := h.2 c26
          refine lv_iload hx hb dX0_safeByTurns_112 (lv_at hl 8 rfl) ?_
          refine lv_if_eq (tgt := 133) hx hb dX0_safeByTurns_114 (by decide) (fun c27 => ?_) (fun c27 => ?_)
          · have h := h.1 c27
            refine lv_iconst (v := (0 : Int32)) hx hb dX0_safeByTurns_133 (by decide) ?_
            refine lv_iload hx hb dX0_safeByTurns_134 (lv_at hl 4 rfl) ?_
            refine lv_iconst (v := (2 : Int32)) hx hb dX0_safeByTurns_136 (by decide) ?_
            refine lv_isub hx hb dX0_safeByTurns_137 ?_
            refine x_max G hl.1 mk_X0_105 ms_max mi_math mc_max (Nat.le_of_ble_eq_true rfl) (Nat.le_of_ble_eq_true rfl) (Nat.zero_le _) (Nat.zero_le _) dX0_safeByTurns_138 ?_
            exact J_141 _ _ _ _ _ _ _ _ h S ls (lv_sub hl [1, 2, 3, 5, 6, 7, 8] rfl)
          · have h := h.2 c27
            exact J_117 _ _ _ _ _ _ _ _ h S ls (lv_sub hl [1, 2, 3, 4, 5, 6, 7, 8] rfl)
      have J_53 : ∀ (X : Hp) (b53_4 : Int32) (b53_5 : Int32) (b53_6 : Int32) (b53_7 : Int32) (b53_s0 : Int32), ∀ (H : Heap) (locs : List Loc) (_ : bk_X0_safeByTurns_53 post v0 v1 v2 v3 (bk_X0_safeByTurns_17 post v0 v1 v2 v3 n_17) X b53_4 b53_5 b53_6 b53_7 b53_s0), Sx D kA (va_A (hw kA X0) sz) s.heap H locs X → ∀ ls, lv_has ls 10 [(0, .ref v0), (1, .ref v1), (3, .int v3), (4, .int b53_4), (5, .int b53_5), (6, .int b53_6), (7, .int b53_7)] → W p l e (rmO 3 0 0 69) s m [Value.ref v0, Value.ref v1, Value.int v2, Value.int v3].toArray below meth c H locs 0 0 (MQ below (va_Qi post (PoM D kA X0 sz) (va_A (hw kA X0) sz)) [Value.ref v0, Value.ref v1, Value.int v2, Value.int v3].toArray s 0 0 (va_A (hw kA X0) sz)) (F0 m 53 ls [.int b53_s0]) := by
        intro X b53_4 b53_5 b53_6 b53_7 b53_s0 H locs h S ls hl
        unfold bk_X0_safeByTurns_53 at h
        refine lv_istore (lv' := [(8, .int b53_s0), (0, .ref v0), (1, .ref v1), (3, .int v3), (4, .int b53_4), (5, .int b53_5), (6, .int b53_6), (7, .int b53_7)]) hx hb dX0_safeByTurns_53 hl (by decide) rfl (fun ls hl => ?_)
        refine lv_iload hx hb dX0_safeByTurns_55 (lv_at hl 7 rfl) ?_
        refine lv_if_eq (tgt := 70) hx hb dX0_safeByTurns_57 (by decide) (fun c17 => ?_) (fun c17 => ?_)
        · have h := h.1 c17
          refine lv_iload hx hb dX0_safeByTurns_70 (lv_at hl 0 rfl) ?_
          refine lv_if_eq (tgt := 80) hx hb dX0_safeByTurns_72 (by decide) (fun c18 => ?_) (fun c18 => ?_)
          · have h := h.1 c18
            refine lv_iload hx hb dX0_safeByTurns_80 (lv_at hl 5 rfl) ?_
            exact J_82 _ _ _ _ _ _ _ _ _ h S ls (lv_sub hl [1, 2, 3, 4, 5, 6, 7, 0] rfl)
          · have h := h.2 c18
            refine lv_iload hx hb dX0_safeByTurns_75 (lv_at hl 4 rfl) ?_
            refine lv_goto (tgt := 82) hx hb dX0_safeByTurns_77 (by decide) ?_
            exact J_82 _ _ _ _ _ _ _ _ _ h S ls (lv_sub hl [1, 2, 3, 4, 5, 6, 7, 0] rfl)
        · have h := h.2 c17
          refine lv_iload hx hb dX0_safeByTurns_60 (lv_at hl 4 rfl) ?_
          refine lv_iload hx hb dX0_safeByTurns_62 (lv_at hl 5 rfl) ?_
          refine x_min G hl.1 mk_X0_100 ms_min mi_math mc_min (Nat.le_of_ble_eq_true rfl) (Nat.le_of_ble_eq_true rfl) (Nat.zero_le _) (Nat.zero_le _) dX0_safeByTurns_64 ?_
          refine lv_goto (tgt := 82) hx hb dX0_safeByTurns_67 (by decide) ?_
          exact J_82 _ _ _ _ _ _ _ _ _ h S ls (lv_sub hl [1, 2, 3, 4, 5, 6, 7, 0] rfl)
      have J_48 : ∀ (X : Hp) (b48_4 : Int32) (b48_5 : Int32) (b48_6 : Int32) (b48_7 : Int32), ∀ (H : Heap) (locs : List Loc) (_ : bk_X0_safeByTurns_48 post v0 v1 v2 v3 (bk_X0_safeByTurns_17 post v0 v1 v2 v3 n_17) X b48_4 b48_5 b48_6 b48_7), Sx D kA (va_A (hw kA X0) sz) s.heap H locs X → ∀ ls, lv_has ls 10 [(0, .ref v0), (1, .ref v1), (3, .int v3), (4, .int b48_4), (5, .int b48_5), (6, .int b48_6), (7, .int b48_7)] → W p l e (rmO 3 0 0 69) s m [Value.ref v0, Value.ref v1, Value.int v2, Value.int v3].toArray below meth c H locs 0 0 (MQ below (va_Qi post (PoM D kA X0 sz) (va_A (hw kA X0) sz)) [Value.ref v0, Value.ref v1, Value.int v2, Value.int v3].toArray s 0 0 (va_A (hw kA X0) sz)) (F0 m 48 ls []) := by
        intro X b48_4 b48_5 b48_6 b48_7 H locs h S ls hl
        unfold bk_X0_safeByTurns_48 at h
        refine lv_iconst (v := (1 : Int32)) hx hb dX0_safeByTurns_48 (by decide) ?_
        refine lv_goto (tgt := 53) hx hb dX0_safeByTurns_49 (by decide) ?_
        exact J_53 _ _ _ _ _ _ _ _ h S ls (lv_sub hl [0, 1, 2, 3, 4, 5, 6] rfl)
      intro X b17_4 b17_5 b17_6 H locs h S ls hl
      rw [bk_X0_safeByTurns_17] at h
      refine lv_iload hx hb dX0_safeByTurns_17 (lv_at hl 5 rfl) ?_
      refine lv_aload_n hx hb dX0_safeByTurns_19 rfl (lv_at hl 1 rfl) ?_
      obtain ⟨fs6, y7, hfs6, hvfs6, h⟩ := h
      refine x_get G S.1 hfs6 hvfs6 fl_X0_56 dX0_safeByTurns_20 ?_
      refine lv_icmp_ge (tgt := 185) hx hb dX0_safeByTurns_23 (by decide) (fun c8 => ?_) (fun c8 => ?_)
      · have h := h.1 c8
        refine lv_aload_n hx hb dX0_safeByTurns_185 rfl (lv_at hl 0 rfl) ?_
        obtain ⟨fs9, y10, hfs9, hvfs9, h⟩ := h
        refine x_get G S.1 hfs9 hvfs9 fl_X0_18 dX0_safeByTurns_186 ?_
        obtain ⟨fs12, hfs12, h⟩ := h
        refine x_cRVi (As := []) (rest := []) G S.1 hfs12 rfl rfl (c_X7_safe l D kA _ _ y10 h) cd_X7_safe ml_X0_108 ⟨(Nat.le_of_ble_eq_true rfl), (Nat.le_of_ble_eq_true rfl)⟩ rfl hl.1 rfl (Nat.le_of_ble_eq_true rfl) dX0_safeByTurns_189 ⟨Nat.zero_le _, Nat.zero_le _⟩ (fun r11 h => ?_)
        exact x_iretM G hr hlk S (Nat.le_refl _) (Nat.le_refl _) h dX0_safeByTurns_192
      · have h := h.2 c8
        refine lv_aload_n hx hb dX0_safeByTurns_26 rfl (lv_at hl 1 rfl) ?_
        refine lv_iload hx hb dX0_safeByTurns_27 (lv_at hl 5 rfl) ?_
        obtain ⟨fs16, hfs16, h⟩ := h
        refine x_cRVi (As := [.int b17_6]) (rest := []) G S.1 hfs16 rfl rfl (c_X8_squallAt l D kA _ _ v1 b17_6 h) cd_X8_squallAt ml_X0_97 ⟨(Nat.le_of_ble_eq_true rfl), (Nat.le_of_ble_eq_true rfl)⟩ rfl hl.1 rfl (Nat.le_of_ble_eq_true rfl) dX0_safeByTurns_29 ⟨Nat.zero_le _, Nat.zero_le _⟩ (fun r13 h => ?_)
        refine lv_istore (lv' := [(7, .int r13), (0, .ref v0), (1, .ref v1), (3, .int v3), (4, .int b17_4), (5, .int b17_5), (6, .int b17_6)]) hx hb dX0_safeByTurns_32 hl (by decide) rfl (fun ls hl => ?_)
        refine lv_iload_n hx hb dX0_safeByTurns_34 rfl (lv_at hl 3 rfl) ?_
        refine lv_iconst (v := (1 : Int32)) hx hb dX0_safeByTurns_35 (by decide) ?_
        refine lv_icmp_lt (tgt := 48) hx hb dX0_safeByTurns_36 (by decide) (fun c14 => ?_) (fun c14 => ?_)
        · have h := h.1 c14
          exact J_48 _ _ _ _ _ _ _ h S ls (lv_sub hl [1, 2, 3, 4, 5, 6, 0] rfl)
        · have h := h.2 c14
          refine lv_iload hx hb dX0_safeByTurns_39 (lv_at hl 6 rfl) ?_
          refine lv_iload_n hx hb dX0_safeByTurns_41 rfl (lv_at hl 3 rfl) ?_
          have hz := h.1
          have h := h.2
          refine lv_idiv hx hb dX0_safeByTurns_42 hz ?_
          refine lv_iconst (v := (2 : Int32)) hx hb dX0_safeByTurns_43 (by decide) ?_
          refine lv_irem hx hb dX0_safeByTurns_44 (by decide) ?_
          refine lv_if_ne (tgt := 52) hx hb dX0_safeByTurns_45 (by decide) (fun c15 => ?_) (fun c15 => ?_)
          · have h := h.1 c15
            refine lv_iconst (v := (0 : Int32)) hx hb dX0_safeByTurns_52 (by decide) ?_
            exact J_53 _ _ _ _ _ _ _ _ h S ls (lv_sub hl [1, 2, 3, 4, 5, 6, 0] rfl)
          · have h := h.2 c15
            exact J_48 _ _ _ _ _ _ _ h S ls (lv_sub hl [1, 2, 3, 4, 5, 6, 0] rfl)
  refine lv_iload_n hx hb dX0_safeByTurns_0 rfl (lv_at hl 2 rfl) ?_
  refine lv_istore (lv' := [(4, .int v2), (0, .ref v0), (1, .ref v1), (2, .int v2), (3, .int v3)]) hx hb dX0_safeByTurns_1 hl (by decide) rfl (fun ls hl => ?_)
  refine lv_iload_n hx hb dX0_safeByTurns_3 rfl (lv_at hl 3 rfl) ?_
  refine lv_istore (lv' := [(5, .int v2), (4, .int v2), (0, .ref v0), (1, .ref v1), (2, .int v2), (3, .int v3)]) hx hb dX0_safeByTurns_4 hl (by decide) rfl (fun ls hl => ?_)
  refine lv_aload_n hx hb dX0_safeByTurns_6 rfl (lv_at hl 2 rfl) ?_
  obtain ⟨fs1, y2, hfs1, hvfs1, h⟩ := h
  refine x_get G S.1 hfs1 hvfs1 fl_X0_18 dX0_safeByTurns_7 ?_
  refine lv_iconst (v := (0 : Int32)) hx hb dX0_safeByTurns_10 (by decide) ?_
  obtain ⟨fs3, hfs3, hkfs3, h⟩ := h
  have h := h _ rfl
  refine x_put G S hfs3 hkfs3 rfl rfl fw_X0_36 dX0_safeByTurns_11 (fun H locs S => ?_)
  refine lv_iconst (v := (0 : Int32)) hx hb dX0_safeByTurns_14 (by decide) ?_
  refine lv_istore (lv' := [(6, .int (0 : Int32)), (5, .int v2), (4, .int v2), (0, .ref v0), (1, .ref v1), (2, .int v2), (3, .int v3)]) hx hb dX0_safeByTurns_15 hl (by decide) rfl (fun ls hl => ?_)
  obtain ⟨n5, h⟩ := h
  exact J_17 n5 _ _ _ _ _ _ h S ls (lv_sub hl [3, 4, 6, 2, 1, 0] rfl)
def wp_X2_init (post : Hp → Prop) (mc ms : Nat) (X : Hp) (v0 : Nat) : Prop := 0 + 1 ≤ mc ∧ 0 + 4 ≤ ms ∧ ∀ q1 : Nat, q1 ∉ X.1 → ∀ X2 : Hp, X2 = hadd X q1 (.inl (0, 4, .inl (fun _ => 0))) → ∃ (n3 : Nat) (f4 : Nat → Int32), Hs X2 q1 (.inl (0, n3, .inl f4)) ∧ vp_in (0 : Int32) n3 ∧ ∀ X5 : Hp, X5 = hput X2 q1 (.inl (0, n3, .inl (upd f4 (0 : Int32).toNatClampNeg (0 : Int32)))) → ∃ (n6 : Nat) (f7 : Nat → Int32), Hs X5 q1 (.inl (0, n6, .inl f7)) ∧ vp_in (1 : Int32) n6 ∧ ∀ X8 : Hp, X8 = hput X5 q1 (.inl (0, n6, .inl (upd f7 (1 : Int32).toNatClampNeg (1 : Int32)))) → ∃ (n9 : Nat) (f10 : Nat → Int32), Hs X8 q1 (.inl (0, n9, .inl f10)) ∧ vp_in (2 : Int32) n9 ∧ ∀ X11 : Hp, X11 = hput X8 q1 (.inl (0, n9, .inl (upd f10 (2 : Int32).toNatClampNeg (2 : Int32)))) → ∃ (n12 : Nat) (f13 : Nat → Int32), Hs X11 q1 (.inl (0, n12, .inl f13)) ∧ vp_in (3 : Int32) n12 ∧ ∀ X14 : Hp, X14 = hput X11 q1 (.inl (0, n12, .inl (upd f13 (3 : Int32).toNatClampNeg (6 : Int32)))) → ∃ (fs15 : List Value), Hs X14 v0 (.inr (2, fs15)) ∧ 0 < fs15.length ∧ ∀ X16 : Hp, X16 = hput X14 v0 (.inr (2, fs15.set 0 (.ref q1))) → (0 + 1) + 1 ≤ mc ∧ (0 + 4) + 4 ≤ ms ∧ ∀ q17 : Nat, q17 ∉ X16.1 → ∀ X18 : Hp, X18 = hadd X16 q17 (.inl (0, 4, .inl (fun _ => 0))) → ∃ (n19 : Nat) (f20 : Nat → Int32), Hs X18 q17 (.inl (0, n19, .inl f20)) ∧ vp_in (0 : Int32) n19 ∧ ∀ X21 : Hp, X21 = hput X18 q17 (.inl (0, n19, .inl (upd f20 (0 : Int32).toNatClampNeg (0 : Int32)))) → ∃ (n22 : Nat) (f23 : Nat → Int32), Hs X21 q17 (.inl (0, n22, .inl f23)) ∧ vp_in (1 : Int32) n22 ∧ ∀ X24 : Hp, X24 = hput X21 q17 (.inl (0, n22, .inl (upd f23 (1 : Int32).toNatClampNeg (200 : Int32)))) → ∃ (n25 : Nat) (f26 : Nat → Int32), Hs X24 q17 (.inl (0, n25, .inl f26)) ∧ vp_in (2 : Int32) n25 ∧ ∀ X27 : Hp, X27 = hput X24 q17 (.inl (0, n25, .inl (upd f26 (2 : Int32).toNatClampNeg (500 : Int32)))) → ∃ (n28 : Nat) (f29 : Nat → Int32), Hs X27 q17 (.inl (0, n28, .inl f29)) ∧ vp_in (3 : Int32) n28 ∧ ∀ X30 : Hp, X30 = hput X27 q17 (.inl (0, n28, .inl (upd f29 (3 : Int32).toNatClampNeg (800 : Int32)))) → ∃ (fs31 : List Value), Hs X30 v0 (.inr (2, fs31)) ∧ 1 < fs31.length ∧ ∀ X32 : Hp, X32 = hput X30 v0 (.inr (2, fs31.set 1 (.ref q17))) → ((0 + 1) + 1) ≤ mc ∧ ((0 + 4) + 4) ≤ ms ∧ post X32
set_option maxHeartbeats 4000000 in
set_option maxRecDepth 100000 in
theorem c_X2_init (l : Launch) (D : va_G) (kA : Nat → ClassId) (post : Hp → Prop) (mc ms : Nat) (X : Hp) (sz : Nat) (v0 : Nat) (h : wp_X2_init post mc ms X v0) : Met l yX2_init (.code yX2_init cX2_init 1 none :: gd) (rmO 1 mc ms 21) (va_Pc [Value.ref v0] (PreM D kA X sz)) (va_Qv post (PoM D kA X sz) (va_A (hw kA X) sz)) mc ms (va_A (hw kA X) sz) := by
  unfold wp_X2_init at h
  refine x_enM (by decide) (Nat.le_of_ble_eq_true rfl) ?_
  intro p e s m below meth c G hr hlk hin hsz hA S ls hl
  obtain ⟨hx, hb, hml, hown, hts, hE, hK⟩ := id G
  have hl : lv_has ls 1 [(0, .ref v0)] := hl
  refine lv_aload_n hx hb dX2_init_0 rfl (lv_at hl 0 rfl) ?_
  refine x_objInit G mk_X2_3 oi_ins oi_cod hl.1 dX2_init_1 (Nat.le_of_ble_eq_true rfl) (Nat.le_of_ble_eq_true rfl) ?_
  refine lv_aload_n hx hb dX2_init_4 rfl (lv_at hl 0 rfl) ?_
  refine lv_iconst (v := (4 : Int32)) hx hb dX2_init_5 (by decide) ?_
  obtain ⟨hc1, hc2, h⟩ := h
  refine x_newa (atype := .int) (t := 0) (N' := 4) G S hA ac_int rfl rfl (fun z => z) rfl (by decide) (by decide) (Nat.le_of_ble_eq_true rfl) hc1 hc2 dX2_init_6 (fun q1 H hq1 S => ?_)
  have h := h q1 hq1 _ rfl
  refine lv_dup hx hb dX2_init_8 rfl ?_
  refine lv_iconst (v := (0 : Int32)) hx hb dX2_init_9 (by decide) ?_
  refine lv_iconst (v := (0 : Int32)) hx hb dX2_init_10 (by decide) ?_
  obtain ⟨n3, f4, hf4, hif4, h⟩ := h
  have h := h _ rfl
  refine x_iast G S hf4 hif4 dX2_init_11 (fun H locs S => ?_)
  refine lv_dup hx hb dX2_init_12 rfl ?_
  refine lv_iconst (v := (1 : Int32)) hx hb dX2_init_13 (by decide) ?_
  refine lv_iconst (v := (1 : Int32)) hx hb dX2_init_14 (by decide) ?_
  obtain ⟨n6, f7, hf7, hif7, h⟩ := h
  have h := h _ rfl
  refine x_iast G S hf7 hif7 dX2_init_15 (fun H locs S => ?_)
  refine lv_dup hx hb dX2_init_16 rfl ?_
  refine lv_iconst (v := (2 : Int32)) hx hb dX2_init_17 (by decide) ?_
  refine lv_iconst (v := (2 : Int32)) hx hb dX2_init_18 (by decide) ?_
  obtain ⟨n9, f10, hf10, hif10, h⟩ := h
  have h := h _ rfl
  refine x_iast G S hf10 hif10 dX2_init_19 (fun H locs S => ?_)
  refine lv_dup hx hb dX2_init_20 rfl ?_
  refine lv_iconst (v := (3 : Int32)) hx hb dX2_init_21 (by decide) ?_
  refine lv_bipush (v := (6 : Int32)) hx hb dX2_init_22 (by decide) ?_
  obtain ⟨n12, f13, hf13, hif13, h⟩ := h
  have h := h _ rfl
  refine x_iast G S hf13 hif13 dX2_init_24 (fun H locs S => ?_)
  obtain ⟨fs15, hfs15, hkfs15, h⟩ := h
  have h := h _ rfl
  refine x_putF G hin S hfs15 hkfs15 rfl rfl ff_X2_9 dX2_init_25 (fun H locs S => ?_)
  refine lv_aload_n hx hb dX2_init_28 rfl (lv_at hl 0 rfl) ?_
  refine lv_iconst (v := (4 : Int32)) hx hb dX2_init_29 (by decide) ?_
  obtain ⟨hc1, hc2, h⟩ := h
  refine x_newa (atype := .int) (t := 0) (N' := 4) G S hA ac_int rfl rfl (fun z => z) rfl (by decide) (by decide) (Nat.le_of_ble_eq_true rfl) hc1 hc2 dX2_init_30 (fun q17 H hq17 S => ?_)
  have h := h q17 hq17 _ rfl
  refine lv_dup hx hb dX2_init_32 rfl ?_
  refine lv_iconst (v := (0 : Int32)) hx hb dX2_init_33 (by decide) ?_
  refine lv_iconst (v := (0 : Int32)) hx hb dX2_init_34 (by decide) ?_
  obtain ⟨n19, f20, hf20, hif20, h⟩ := h
  have h := h _ rfl
  refine x_iast G S hf20 hif20 dX2_init_35 (fun H locs S => ?_)
  refine lv_dup hx hb dX2_init_36 rfl ?_
  refine lv_iconst (v := (1 : Int32)) hx hb dX2_init_37 (by decide) ?_
  refine lv_sipush (v := (200 : Int32)) hx hb dX2_init_38 (by decide) ?_
  obtain ⟨n22, f23, hf23, hif23, h⟩ := h
  have h := h _ rfl
  refine x_iast G S hf23 hif23 dX2_init_41 (fun H locs S => ?_)
  refine lv_dup hx hb dX2_init_42 rfl ?_
  refine lv_iconst (v := (2 : Int32)) hx hb dX2_init_43 (by decide) ?_
  refine lv_sipush (v := (500 : Int32)) hx hb dX2_init_44 (by decide) ?_
  obtain ⟨n25, f26, hf26, hif26, h⟩ := h
  have h := h _ rfl
  refine x_iast G S hf26 hif26 dX2_init_47 (fun H locs S => ?_)
  refine lv_dup hx hb dX2_init_48 rfl ?_
  refine lv_iconst (v := (3 : Int32)) hx hb dX2_init_49 (by decide) ?_
  refine lv_sipush (v := (800 : Int32)) hx hb dX2_init_50 (by decide) ?_
  obtain ⟨n28, f29, hf29, hif29, h⟩ := h
  have h := h _ rfl
  refine x_iast G S hf29 hif29 dX2_init_53 (fun H locs S => ?_)
  obtain ⟨fs31, hfs31, hkfs31, h⟩ := h
  have h := h _ rfl
  refine x_putF G hin S hfs31 hkfs31 rfl rfl ff_X2_15 dX2_init_54 (fun H locs S => ?_)
  obtain ⟨hk1, hk2, h⟩ := h
  exact x_vretM G hr hlk S hk1 hk2 h dX2_init_57
def wp_X2_changeGive (post : Int32 → Hp → Prop) (X : Hp) (v0 : Nat) (v1 : Int32) (v2 : Int32) : Prop := wp_X9_within (fun r1 => (¬ r1 = 0 → ∃ (fs3 : List Value) (y4 : Nat), Hs X v0 (.inr (2, fs3)) ∧ fs3[0]? = some (.ref y4) ∧ ∃ (n5 : Nat) (f6 : Nat → Int32), Hs X y4 (.inl (0, n5, .inl f6)) ∧ vp_in v1 n5 ∧ ∀ x7 : Int32, x7 = (f6 v1.toNatClampNeg) → ∃ (fs8 : List Value) (y9 : Nat), Hs X v0 (.inr (2, fs8)) ∧ fs8[0]? = some (.ref y9) ∧ ∃ (n10 : Nat) (f11 : Nat → Int32), Hs X y9 (.inl (0, n10, .inl f11)) ∧ vp_in v1 n10 ∧ ∀ X12 : Hp, X12 = hput X y9 (.inl (0, n10, .inl (upd f11 v1.toNatClampNeg v2))) → post x7 X12) ∧ (r1 = 0 → post (-2 : Int32) X))  X v1 (1 : Int32) (3 : Int32)
set_option maxHeartbeats 4000000 in
set_option maxRecDepth 100000 in
theorem c_X2_changeGive (l : Launch) (D : va_G) (kA : Nat → ClassId) (post : Int32 → Hp → Prop) (X : Hp) (sz : Nat) (v0 : Nat) (v1 : Int32) (v2 : Int32) (h : wp_X2_changeGive post X v0 v1 v2) : Met l yX2_changeGive (.code yX2_changeGive cX2_changeGive 4 (some .int) :: gd) (rmO 1 0 0 22) (va_Pc [Value.ref v0, Value.int v1, Value.int v2] (PreM D kA X sz)) (va_Qi post (PoM D kA X sz) (va_A (hw kA X) sz)) 0 0 (va_A (hw kA X) sz) := by
  unfold wp_X2_changeGive at h
  refine x_enM (by decide) (Nat.le_of_ble_eq_true rfl) ?_
  intro p e s m below meth c G hr hlk hin hsz hA S ls hl
  obtain ⟨hx, hb, hml, hown, hts, hE, hK⟩ := id G
  have hl : lv_has ls 4 [(0, .ref v0), (1, .int v1), (2, .int v2)] := hl
  refine lv_iload_n hx hb dX2_changeGive_0 rfl (lv_at hl 1 rfl) ?_
  refine lv_iconst (v := (1 : Int32)) hx hb dX2_changeGive_1 (by decide) ?_
  refine lv_iconst (v := (3 : Int32)) hx hb dX2_changeGive_2 (by decide) ?_
  refine x_cRSi (As := [.int v1, .int (1 : Int32), .int (3 : Int32)]) (rest := []) G S.1 (c_X9_within l D kA _ _ v1 (1 : Int32) (3 : Int32) h) cd_X9_within ml_X2_18 ⟨(Nat.le_of_ble_eq_true rfl), (Nat.le_of_ble_eq_true rfl)⟩ rfl hl.1 rfl (Nat.le_of_ble_eq_true rfl) dX2_changeGive_3 ⟨Nat.zero_le _, Nat.zero_le _⟩ (fun r1 h => ?_)
  refine lv_if_ne (tgt := 12) hx hb dX2_changeGive_6 (by decide) (fun c2 => ?_) (fun c2 => ?_)
  · have h := h.1 c2
    refine lv_aload_n hx hb dX2_changeGive_12 rfl (lv_at hl 0 rfl) ?_
    obtain ⟨fs3, y4, hfs3, hvfs3, h⟩ := h
    refine x_get G S.1 hfs3 hvfs3 fl_X2_9 dX2_changeGive_13 ?_
    refine lv_iload_n hx hb dX2_changeGive_16 rfl (lv_at hl 1 rfl) ?_
    obtain ⟨n5, f6, hf6, hif6, h⟩ := h
    refine x_iald G S.1 hf6 hif6 dX2_changeGive_17 ?_
    refine lv_topi (fun x7 ex7 => ?_)
    have h := h x7 ex7
    refine lv_istore_n (lv' := [(3, .int x7), (0, .ref v0), (1, .int v1), (2, .int v2)]) hx hb dX2_changeGive_18 rfl hl (by decide) rfl (fun ls hl => ?_)
    refine lv_aload_n hx hb dX2_changeGive_19 rfl (lv_at hl 1 rfl) ?_
    obtain ⟨fs8, y9, hfs8, hvfs8, h⟩ := h
    refine x_get G S.1 hfs8 hvfs8 fl_X2_9 dX2_changeGive_20 ?_
    refine lv_iload_n hx hb dX2_changeGive_23 rfl (lv_at hl 2 rfl) ?_
    refine lv_iload_n hx hb dX2_changeGive_24 rfl (lv_at hl 3 rfl) ?_
    obtain ⟨n10, f11, hf11, hif11, h⟩ := h
    have h := h _ rfl
    refine x_iast G S hf11 hif11 dX2_changeGive_25 (fun H locs S => ?_)
    refine lv_iload_n hx hb dX2_changeGive_26 rfl (lv_at hl 0 rfl) ?_
    exact x_iretM G hr hlk S (Nat.le_refl _) (Nat.le_refl _) h dX2_changeGive_27
  · have h := h.2 c2
    refine lv_bipush (v := (-2 : Int32)) hx hb dX2_changeGive_9 (by decide) ?_
    exact x_iretM G hr hlk S (Nat.le_refl _) (Nat.le_refl _) h dX2_changeGive_11
def wp_X2_changeDeep (post : Int32 → Hp → Prop) (X : Hp) (v0 : Nat) (v1 : Int32) (v2 : Int32) : Prop := wp_X9_within (fun r1 => (¬ r1 = 0 → ∃ (fs3 : List Value) (y4 : Nat), Hs X v0 (.inr (2, fs3)) ∧ fs3[1]? = some (.ref y4) ∧ ∃ (n5 : Nat) (f6 : Nat → Int32), Hs X y4 (.inl (0, n5, .inl f6)) ∧ vp_in v1 n5 ∧ ∀ x7 : Int32, x7 = (f6 v1.toNatClampNeg) → ∃ (fs8 : List Value) (y9 : Nat), Hs X v0 (.inr (2, fs8)) ∧ fs8[1]? = some (.ref y9) ∧ ∃ (n10 : Nat) (f11 : Nat → Int32), Hs X y9 (.inl (0, n10, .inl f11)) ∧ vp_in v1 n10 ∧ ∀ X12 : Hp, X12 = hput X y9 (.inl (0, n10, .inl (upd f11 v1.toNatClampNeg v2))) → post x7 X12) ∧ (r1 = 0 → post (-2 : Int32) X))  X v1 (1 : Int32) (3 : Int32)
set_option maxHeartbeats 4000000 in
set_option maxRecDepth 100000 in
theorem c_X2_changeDeep (l : Launch) (D : va_G) (kA : Nat → ClassId) (post : Int32 → Hp → Prop) (X : Hp) (sz : Nat) (v0 : Nat) (v1 : Int32) (v2 : Int32) (h : wp_X2_changeDeep post X v0 v1 v2) : Met l yX2_changeDeep (.code yX2_changeDeep cX2_changeDeep 4 (some .int) :: gd) (rmO 1 0 0 22) (va_Pc [Value.ref v0, Value.int v1, Value.int v2] (PreM D kA X sz)) (va_Qi post (PoM D kA X sz) (va_A (hw kA X) sz)) 0 0 (va_A (hw kA X) sz) := by
  unfold wp_X2_changeDeep at h
  refine x_enM (by decide) (Nat.le_of_ble_eq_true rfl) ?_
  intro p e s m below meth c G hr hlk hin hsz hA S ls hl
  obtain ⟨hx, hb, hml, hown, hts, hE, hK⟩ := id G
  have hl : lv_has ls 4 [(0, .ref v0), (1, .int v1), (2, .int v2)] := hl
  refine lv_iload_n hx hb dX2_changeDeep_0 rfl (lv_at hl 1 rfl) ?_
  refine lv_iconst (v := (1 : Int32)) hx hb dX2_changeDeep_1 (by decide) ?_
  refine lv_iconst (v := (3 : Int32)) hx hb dX2_changeDeep_2 (by decide) ?_
  refine x_cRSi (As := [.int v1, .int (1 : Int32), .int (3 : Int32)]) (rest := []) G S.1 (c_X9_within l D kA _ _ v1 (1 : Int32) (3 : Int32) h) cd_X9_within ml_X2_18 ⟨(Nat.le_of_ble_eq_true rfl), (Nat.le_of_ble_eq_true rfl)⟩ rfl hl.1 rfl (Nat.le_of_ble_eq_true rfl) dX2_changeDeep_3 ⟨Nat.zero_le _, Nat.zero_le _⟩ (fun r1 h => ?_)
  refine lv_if_ne (tgt := 12) hx hb dX2_changeDeep_6 (by decide) (fun c2 => ?_) (fun c2 => ?_)
  · have h := h.1 c2
    refine lv_aload_n hx hb dX2_changeDeep_12 rfl (lv_at hl 0 rfl) ?_
    obtain ⟨fs3, y4, hfs3, hvfs3, h⟩ := h
    refine x_get G S.1 hfs3 hvfs3 fl_X2_15 dX2_changeDeep_13 ?_
    refine lv_iload_n hx hb dX2_changeDeep_16 rfl (lv_at hl 1 rfl) ?_
    obtain ⟨n5, f6, hf6, hif6, h⟩ := h
    refine x_iald G S.1 hf6 hif6 dX2_changeDeep_17 ?_
    refine lv_topi (fun x7 ex7 => ?_)
    have h := h x7 ex7
    refine lv_istore_n (lv' := [(3, .int x7), (0, .ref v0), (1, .int v1), (2, .int v2)]) hx hb dX2_changeDeep_18 rfl hl (by decide) rfl (fun ls hl => ?_)
    refine lv_aload_n hx hb dX2_changeDeep_19 rfl (lv_at hl 1 rfl) ?_
    obtain ⟨fs8, y9, hfs8, hvfs8, h⟩ := h
    refine x_get G S.1 hfs8 hvfs8 fl_X2_15 dX2_changeDeep_20 ?_
    refine lv_iload_n hx hb dX2_changeDeep_23 rfl (lv_at hl 2 rfl) ?_
    refine lv_iload_n hx hb dX2_changeDeep_24 rfl (lv_at hl 3 rfl) ?_
    obtain ⟨n10, f11, hf11, hif11, h⟩ := h
    have h := h _ rfl
    refine x_iast G S hf11 hif11 dX2_changeDeep_25 (fun H locs S => ?_)
    refine lv_iload_n hx hb dX2_changeDeep_26 rfl (lv_at hl 0 rfl) ?_
    exact x_iretM G hr hlk S (Nat.le_refl _) (Nat.le_refl _) h dX2_changeDeep_27
  · have h := h.2 c2
    refine lv_bipush (v := (-2 : Int32)) hx hb dX2_changeDeep_9 (by decide) ?_
    exact x_iretM G hr hlk S (Nat.le_refl _) (Nat.le_refl _) h dX2_changeDeep_11
def wp_X2_copy (post : Hp → Prop) (X : Hp) (v0 : Nat) (v1 : Nat) : Prop := ∃ (fs1 : List Value) (y2 : Nat), Hs X v1 (.inr (2, fs1)) ∧ fs1[0]? = some (.ref y2) ∧ ∃ (fs3 : List Value) (y4 : Nat), Hs X v0 (.inr (2, fs3)) ∧ fs3[0]? = some (.ref y4) ∧ ∃ (fs5 : List Value) (y6 : Nat), Hs X v0 (.inr (2, fs5)) ∧ fs5[0]? = some (.ref y6) ∧ ∃ (n7 : Nat) (z8 : (Nat → Int32) ⊕ (Nat → Int64) ⊕ (Nat → UInt32) ⊕ (Nat → UInt64) ⊕ (Nat → Option Nat)), Hs X y6 (.inl (0, n7, z8)) ∧ ∃ (n9 n10 : Nat) (f11 f12 : Nat → Int32), Hs X y2 (.inl (0, n9, .inl f11)) ∧ Hs X y4 (.inl (0, n10, .inl f12)) ∧ ¬ (0 : Int32) < 0 ∧ ¬ (0 : Int32) < 0 ∧ ¬ (nI n7) < 0 ∧ (0 : Int32).toNatClampNeg + (nI n7).toNatClampNeg ≤ n9 ∧ (0 : Int32).toNatClampNeg + (nI n7).toNatClampNeg ≤ n10 ∧ ∀ X13 : Hp, X13 = hput X y4 (.inl (0, n10, .inl (va_cpy f11 f12 (0 : Int32).toNatClampNeg (0 : Int32).toNatClampNeg (nI n7).toNatClampNeg))) → ∃ (fs14 : List Value) (y15 : Nat), Hs X13 v1 (.inr (2, fs14)) ∧ fs14[1]? = some (.ref y15) ∧ ∃ (fs16 : List Value) (y17 : Nat), Hs X13 v0 (.inr (2, fs16)) ∧ fs16[1]? = some (.ref y17) ∧ ∃ (fs18 : List Value) (y19 : Nat), Hs X13 v0 (.inr (2, fs18)) ∧ fs18[1]? = some (.ref y19) ∧ ∃ (n20 : Nat) (z21 : (Nat → Int32) ⊕ (Nat → Int64) ⊕ (Nat → UInt32) ⊕ (Nat → UInt64) ⊕ (Nat → Option Nat)), Hs X13 y19 (.inl (0, n20, z21)) ∧ ∃ (n22 n23 : Nat) (f24 f25 : Nat → Int32), Hs X13 y15 (.inl (0, n22, .inl f24)) ∧ Hs X13 y17 (.inl (0, n23, .inl f25)) ∧ ¬ (0 : Int32) < 0 ∧ ¬ (0 : Int32) < 0 ∧ ¬ (nI n20) < 0 ∧ (0 : Int32).toNatClampNeg + (nI n20).toNatClampNeg ≤ n22 ∧ (0 : Int32).toNatClampNeg + (nI n20).toNatClampNeg ≤ n23 ∧ ∀ X26 : Hp, X26 = hput X13 y17 (.inl (0, n23, .inl (va_cpy f24 f25 (0 : Int32).toNatClampNeg (0 : Int32).toNatClampNeg (nI n20).toNatClampNeg))) → post X26
set_option maxHeartbeats 4000000 in
set_option maxRecDepth 100000 in
theorem c_X2_copy (l : Launch) (D : va_G) (kA : Nat → ClassId) (post : Hp → Prop) (X : Hp) (sz : Nat) (v0 : Nat) (v1 : Nat) (h : wp_X2_copy post X v0 v1) : Met l yX2_copy (.code yX2_copy cX2_copy 2 none :: gd) (rmO 1 0 0 60) (va_Pc [Value.ref v0, Value.ref v1] (PreM D kA X sz)) (va_Qv post (PoM D kA X sz) (va_A (hw kA X) sz)) 0 0 (va_A (hw kA X) sz) := by
  unfold wp_X2_copy at h
  refine x_enM (by decide) (Nat.le_of_ble_eq_true rfl) ?_
  intro p e s m below meth c G hr hlk hin hsz hA S ls hl
  obtain ⟨hx, hb, hml, hown, hts, hE, hK⟩ := id G
  have hl : lv_has ls 2 [(0, .ref v0), (1, .ref v1)] := hl
  refine lv_aload_n hx hb dX2_copy_0 rfl (lv_at hl 1 rfl) ?_
  obtain ⟨fs1, y2, hfs1, hvfs1, h⟩ := h
  refine x_get G S.1 hfs1 hvfs1 fl_X2_9 dX2_copy_1 ?_
  refine lv_iconst (v := (0 : Int32)) hx hb dX2_copy_4 (by decide) ?_
  refine lv_aload_n hx hb dX2_copy_5 rfl (lv_at hl 0 rfl) ?_
  obtain ⟨fs3, y4, hfs3, hvfs3, h⟩ := h
  refine x_get G S.1 hfs3 hvfs3 fl_X2_9 dX2_copy_6 ?_
  refine lv_iconst (v := (0 : Int32)) hx hb dX2_copy_9 (by decide) ?_
  refine lv_aload_n hx hb dX2_copy_10 rfl (lv_at hl 0 rfl) ?_
  obtain ⟨fs5, y6, hfs5, hvfs5, h⟩ := h
  refine x_get G S.1 hfs5 hvfs5 fl_X2_9 dX2_copy_11 ?_
  obtain ⟨n7, z8, hz8, h⟩ := h
  refine x_alen G S.1 hz8 rfl dX2_copy_14 ?_
  obtain ⟨n9, n10, f11, f12, hs0, hs1, i1, i2, i3, i4, i5, h⟩ := h
  have h := h _ rfl
  refine x_copyi G S hl.1 mk_X2_43 ac_nat ac_sta mi_sys hs0 hs1 i1 i2 i3 i4 i5 (Nat.le_of_ble_eq_true rfl) (Nat.le_of_ble_eq_true rfl) dX2_copy_15 (fun H locs S => ?_)
  refine lv_aload_n hx hb dX2_copy_18 rfl (lv_at hl 1 rfl) ?_
  obtain ⟨fs14, y15, hfs14, hvfs14, h⟩ := h
  refine x_get G S.1 hfs14 hvfs14 fl_X2_15 dX2_copy_19 ?_
  refine lv_iconst (v := (0 : Int32)) hx hb dX2_copy_22 (by decide) ?_
  refine lv_aload_n hx hb dX2_copy_23 rfl (lv_at hl 0 rfl) ?_
  obtain ⟨fs16, y17, hfs16, hvfs16, h⟩ := h
  refine x_get G S.1 hfs16 hvfs16 fl_X2_15 dX2_copy_24 ?_
  refine lv_iconst (v := (0 : Int32)) hx hb dX2_copy_27 (by decide) ?_
  refine lv_aload_n hx hb dX2_copy_28 rfl (lv_at hl 0 rfl) ?_
  obtain ⟨fs18, y19, hfs18, hvfs18, h⟩ := h
  refine x_get G S.1 hfs18 hvfs18 fl_X2_15 dX2_copy_29 ?_
  obtain ⟨n20, z21, hz21, h⟩ := h
  refine x_alen G S.1 hz21 rfl dX2_copy_32 ?_
  obtain ⟨n22, n23, f24, f25, hs0, hs1, i1, i2, i3, i4, i5, h⟩ := h
  have h := h _ rfl
  refine x_copyi G S hl.1 mk_X2_43 ac_nat ac_sta mi_sys hs0 hs1 i1 i2 i3 i4 i5 (Nat.le_of_ble_eq_true rfl) (Nat.le_of_ble_eq_true rfl) dX2_copy_33 (fun H locs S => ?_)
  exact x_vretM G hr hlk S (Nat.le_refl _) (Nat.le_refl _) h dX2_copy_36
def wp_X6_init (post : Hp → Prop) (mc ms : Nat) (X : Hp) (v0 : Nat) : Prop := 0 + 1 ≤ mc ∧ 0 + 210 ≤ ms ∧ ∀ q1 : Nat, q1 ∉ X.1 → ∀ X2 : Hp, X2 = hadd X q1 (.inl (0, 210, .inl (fun _ => 0))) → ∃ (fs3 : List Value), Hs X2 v0 (.inr (6, fs3)) ∧ 0 < fs3.length ∧ ∀ X4 : Hp, X4 = hput X2 v0 (.inr (6, fs3.set 0 (.ref q1))) → (0 + 1) + 1 ≤ mc ∧ (0 + 210) + 210 ≤ ms ∧ ∀ q5 : Nat, q5 ∉ X4.1 → ∀ X6 : Hp, X6 = hadd X4 q5 (.inl (0, 210, .inl (fun _ => 0))) → ∃ (fs7 : List Value), Hs X6 v0 (.inr (6, fs7)) ∧ 1 < fs7.length ∧ ∀ X8 : Hp, X8 = hput X6 v0 (.inr (6, fs7.set 1 (.ref q5))) → ((0 + 1) + 1) + 1 ≤ mc ∧ ((0 + 210) + 210) + 210 ≤ ms ∧ ∀ q9 : Nat, q9 ∉ X8.1 → ∀ X10 : Hp, X10 = hadd X8 q9 (.inl (0, 210, .inl (fun _ => 0))) → ∃ (fs11 : List Value), Hs X10 v0 (.inr (6, fs11)) ∧ 2 < fs11.length ∧ ∀ X12 : Hp, X12 = hput X10 v0 (.inr (6, fs11.set 2 (.ref q9))) → (((0 + 1) + 1) + 1) ≤ mc ∧ (((0 + 210) + 210) + 210) ≤ ms ∧ post X12
set_option maxHeartbeats 4000000 in
set_option maxRecDepth 100000 in
theorem c_X6_init (l : Launch) (D : va_G) (kA : Nat → ClassId) (post : Hp → Prop) (mc ms : Nat) (X : Hp) (sz : Nat) (v0 : Nat) (h : wp_X6_init post mc ms X v0) : Met l yX6_init (.code yX6_init cX6_init 1 none :: gd) (rmO 1 mc ms 21) (va_Pc [Value.ref v0] (PreM D kA X sz)) (va_Qv post (PoM D kA X sz) (va_A (hw kA X) sz)) mc ms (va_A (hw kA X) sz) := by
  unfold wp_X6_init at h
  refine x_enM (by decide) (Nat.le_of_ble_eq_true rfl) ?_
  intro p e s m below meth c G hr hlk hin hsz hA S ls hl
  obtain ⟨hx, hb, hml, hown, hts, hE, hK⟩ := id G
  have hl : lv_has ls 1 [(0, .ref v0)] := hl
  refine lv_aload_n hx hb dX6_init_0 rfl (lv_at hl 0 rfl) ?_
  refine x_objInit G mk_X6_3 oi_ins oi_cod hl.1 dX6_init_1 (Nat.le_of_ble_eq_true rfl) (Nat.le_of_ble_eq_true rfl) ?_
  refine lv_aload_n hx hb dX6_init_4 rfl (lv_at hl 0 rfl) ?_
  refine lv_sipush (v := (210 : Int32)) hx hb dX6_init_5 (by decide) ?_
  obtain ⟨hc1, hc2, h⟩ := h
  refine x_newa (atype := .int) (t := 0) (N' := 210) G S hA ac_int rfl rfl (fun z => z) rfl (by decide) (by decide) (Nat.le_of_ble_eq_true rfl) hc1 hc2 dX6_init_8 (fun q1 H hq1 S => ?_)
  have h := h q1 hq1 _ rfl
  obtain ⟨fs3, hfs3, hkfs3, h⟩ := h
  have h := h _ rfl
  refine x_putF G hin S hfs3 hkfs3 rfl rfl ff_X6_9 dX6_init_10 (fun H locs S => ?_)
  refine lv_aload_n hx hb dX6_init_13 rfl (lv_at hl 0 rfl) ?_
  refine lv_sipush (v := (210 : Int32)) hx hb dX6_init_14 (by decide) ?_
  obtain ⟨hc1, hc2, h⟩ := h
  refine x_newa (atype := .int) (t := 0) (N' := 210) G S hA ac_int rfl rfl (fun z => z) rfl (by decide) (by decide) (Nat.le_of_ble_eq_true rfl) hc1 hc2 dX6_init_17 (fun q5 H hq5 S => ?_)
  have h := h q5 hq5 _ rfl
  obtain ⟨fs7, hfs7, hkfs7, h⟩ := h
  have h := h _ rfl
  refine x_putF G hin S hfs7 hkfs7 rfl rfl ff_X6_15 dX6_init_19 (fun H locs S => ?_)
  refine lv_aload_n hx hb dX6_init_22 rfl (lv_at hl 0 rfl) ?_
  refine lv_sipush (v := (210 : Int32)) hx hb dX6_init_23 (by decide) ?_
  obtain ⟨hc1, hc2, h⟩ := h
  refine x_newa (atype := .int) (t := 0) (N' := 210) G S hA ac_int rfl rfl (fun z => z) rfl (by decide) (by decide) (Nat.le_of_ble_eq_true rfl) hc1 hc2 dX6_init_26 (fun q9 H hq9 S => ?_)
  have h := h q9 hq9 _ rfl
  obtain ⟨fs11, hfs11, hkfs11, h⟩ := h
  have h := h _ rfl
  refine x_putF G hin S hfs11 hkfs11 rfl rfl ff_X6_18 dX6_init_28 (fun H locs S => ?_)
  obtain ⟨hk1, hk2, h⟩ := h
  exact x_vretM G hr hlk S hk1 hk2 h dX6_init_31
def wp_X9_isOwed (post : Int32 → Prop) (X : Hp) (v0 : Int32) : Prop := wp_X9_within (fun r1 => (r1 = 0 ∨ r1 = 1) ∧ post r1)  X v0 (0 : Int32) (20 : Int32)
set_option maxHeartbeats 4000000 in
set_option maxRecDepth 100000 in
theorem c_X9_isOwed (l : Launch) (D : va_G) (kA : Nat → ClassId) (post : Int32 → Prop) (X : Hp) (v0 : Int32) (h : wp_X9_isOwed post X v0) : Met l yX9_isOwed (.code yX9_isOwed cX9_isOwed 1 (some .boolean) :: gd) (rmO 1 0 0 22) (va_Pc [Value.int v0] (Pre D kA X)) (vp_Si post) 0 0 (fun _ => False) := by
  unfold wp_X9_isOwed at h
  refine x_enR (by decide) (Nat.le_of_ble_eq_true rfl) ?_
  intro p e s m below meth c G hr hlk hP ls hl
  obtain ⟨hx, hb, hml, hown, hts, hE, hK⟩ := id G
  have hl : lv_has ls 1 [(0, .int v0)] := hl
  refine lv_iload_n hx hb dX9_isOwed_0 rfl (lv_at hl 0 rfl) ?_
  refine lv_iconst (v := (0 : Int32)) hx hb dX9_isOwed_1 (by decide) ?_
  refine lv_bipush (v := (20 : Int32)) hx hb dX9_isOwed_2 (by decide) ?_
  refine x_cRSi (As := [.int v0, .int (0 : Int32), .int (20 : Int32)]) (rest := []) G hP (c_X9_within l D kA _ _ v0 (0 : Int32) (20 : Int32) h) cd_X9_within ml_X9_64 ⟨(Nat.le_of_ble_eq_true rfl), (Nat.le_of_ble_eq_true rfl)⟩ rfl hl.1 rfl (Nat.le_of_ble_eq_true rfl) dX9_isOwed_4 ⟨Nat.zero_le _, Nat.zero_le _⟩ (fun r1 h => ?_)
  obtain ⟨hz, h⟩ := h
  exact x_zretR G hr hlk hz h dX9_isOwed_7
def bk_X6_readyFor_3 (post : Hp → Prop) (v0 : Nat) (v1 : Nat) (v2 : Nat) (v3 : Int32) (v4 : Int32)  : Nat → Hp → Int32 → Prop
  | 0, _, _ => False
  | k + 1, X, b3_5 => ((10 : Int32) ≤ b3_5 → post X) ∧ (¬ (10 : Int32) ≤ b3_5 → wp_X9_isOwed (fun r3 => (r3 = 0 → post X) ∧ (¬ r3 = 0 → ∀ x5 : Int32, x5 = ((b3_5 * (21 : Int32)) + v4) → ∀ x6 : Int32, x6 = (b3_5 / (2 : Int32)) → ∃ fs31 : List Value, Hs X v2 (.inr (2, fs31)) ∧ wp_X2_blindOf (fun r7 => ∃ (fs8 : List Value) (y9 : Nat), Hs X v0 (.inr (6, fs8)) ∧ fs8[0]? = some (.ref y9) ∧ wp_X9_hoursOf (fun r10 => ∃ fs30 : List Value, Hs X v2 (.inr (2, fs30)) ∧ wp_X2_owedBehind (fun r11 => ∃ (n12 : Nat) (f13 : Nat → Int32), Hs X y9 (.inl (0, n12, .inl f13)) ∧ vp_in x5 n12 ∧ ∀ X14 : Hp, X14 = hput X y9 (.inl (0, n12, .inl (upd f13 x5.toNatClampNeg (((v3 + r10) * (21 : Int32)) + r11)))) → ∃ (fs15 : List Value) (y16 : Nat), Hs X14 v0 (.inr (6, fs15)) ∧ fs15[1]? = some (.ref y16) ∧ ∃ fs29 : List Value, Hs X14 v1 (.inr (8, fs29)) ∧ wp_X8_shipsAt (fun r17 => ∃ (n18 : Nat) (f19 : Nat → Int32), Hs X14 y16 (.inl (0, n18, .inl f19)) ∧ vp_in x5 n18 ∧ ∀ X20 : Hp, X20 = hput X14 y16 (.inl (0, n18, .inl (upd f19 x5.toNatClampNeg ((1000000 : Int32) - (r17 * r7))))) → ∃ (fs21 : List Value) (y22 : Nat), Hs X20 v0 (.inr (6, fs21)) ∧ fs21[2]? = some (.ref y22) ∧ ∃ fs28 : List Value, Hs X20 v1 (.inr (8, fs28)) ∧ wp_X8_shipsAt (fun r23 => ∃ (n24 : Nat) (f25 : Nat → Int32), Hs X20 y22 (.inl (0, n24, .inl f25)) ∧ vp_in x5 n24 ∧ ∀ X26 : Hp, X26 = hput X20 y22 (.inl (0, n24, .inl (upd f25 x5.toNatClampNeg ((1000000 : Int32) - (r23 * r7))))) → ∀ x27 : Int32, x27 = b3_5 + (1 : Int32) → (bk_X6_readyFor_3 post v0 v1 v2 v3 v4 k) X26 x27) X20 v1 (v3 + (1 : Int32))) X14 v1 v3) X v2 v1 v3 v4 x6) X x6) X v2 b3_5 v4)) X v4)
def wp_X6_readyFor (post : Hp → Prop) (X : Hp) (v0 : Nat) (v1 : Nat) (v2 : Nat) (v3 : Int32) (v4 : Int32) : Prop := ∃ n1 : Nat, bk_X6_readyFor_3 post v0 v1 v2 v3 v4 n1 X (0 : Int32)
set_option maxHeartbeats 4000000 in
set_option maxRecDepth 100000 in
theorem c_X6_readyFor (l : Launch) (D : va_G) (kA : Nat → ClassId) (post : Hp → Prop) (X : Hp) (sz : Nat) (v0 : Nat) (v1 : Nat) (v2 : Nat) (v3 : Int32) (v4 : Int32) (h : wp_X6_readyFor post X v0 v1 v2 v3 v4) : Met l yX6_readyFor (.code yX6_readyFor cX6_readyFor 9 none :: gd) (rmO 3 0 0 69) (va_Pc [Value.ref v0, Value.ref v1, Value.ref v2, Value.int v3, Value.int v4] (PreM D kA X sz)) (va_Qv post (PoM D kA X sz) (va_A (hw kA X) sz)) 0 0 (va_A (hw kA X) sz) := by
  unfold wp_X6_readyFor at h
  refine x_enM (by decide) (Nat.le_of_ble_eq_true rfl) ?_
  intro p e s m below meth c G hr hlk hin hsz hA S ls hl
  obtain ⟨hx, hb, hml, hown, hts, hE, hK⟩ := id G
  have hl : lv_has ls 9 [(0, .ref v0), (1, .ref v1), (2, .ref v2), (3, .int v3), (4, .int v4)] := hl
  obtain ⟨X0, hX0⟩ : ∃ Y : Hp, Y = X := ⟨_, rfl⟩
  subst hX0
  have J_3 : ∀ (n : Nat) (X : Hp) (b3_5 : Int32), ∀ (H : Heap) (locs : List Loc) (_ : bk_X6_readyFor_3 post v0 v1 v2 v3 v4  n X b3_5), Sx D kA (va_A (hw kA X0) sz) s.heap H locs X → ∀ ls, lv_has ls 9 [(0, .ref v0), (1, .ref v1), (2, .ref v2), (3, .int v3), (4, .int v4), (5, .int b3_5)] → W p l e (rmO 3 0 0 69) s m [Value.ref v0, Value.ref v1, Value.ref v2, Value.int v3, Value.int v4].toArray below meth c H locs 0 0 (MQ below (va_Qv post (PoM D kA X0 sz) (va_A (hw kA X0) sz)) [Value.ref v0, Value.ref v1, Value.ref v2, Value.int v3, Value.int v4].toArray s 0 0 (va_A (hw kA X0) sz)) (F0 m 3 ls []) := by
    intro n
    induction n with
    | zero =>
      intro X b3_5 H locs h S ls hl
      rw [bk_X6_readyFor_3] at h
      exact h.elim
    | succ n_3 ih_3 =>
      intro X b3_5 H locs h S ls hl
      rw [bk_X6_readyFor_3] at h
      refine lv_iload hx hb dX6_readyFor_3 (lv_at hl 5 rfl) ?_
      refine lv_bipush (v := (10 : Int32)) hx hb dX6_readyFor_5 (by decide) ?_
      refine lv_icmp_ge (tgt := 116) hx hb dX6_readyFor_7 (by decide) (fun c2 => ?_) (fun c2 => ?_)
      · have h := h.1 c2
        exact x_vretM G hr hlk S (Nat.le_refl _) (Nat.le_refl _) h dX6_readyFor_116
      · have h := h.2 c2
        refine lv_iload hx hb dX6_readyFor_10 (lv_at hl 4 rfl) ?_
        refine x_cRSi (As := [.int v4]) (rest := []) G S.1 (c_X9_isOwed l D kA _ _ v4 h) cd_X9_isOwed ml_X6_25 ⟨(Nat.le_of_ble_eq_true rfl), (Nat.le_of_ble_eq_true rfl)⟩ rfl hl.1 rfl (Nat.le_of_ble_eq_true rfl) dX6_readyFor_12 ⟨Nat.zero_le _, Nat.zero_le _⟩ (fun r3 h => ?_)
        refine lv_if_eq (tgt := 116) hx hb dX6_readyFor_15 (by decide) (fun c4 => ?_) (fun c4 => ?_)
        · have h := h.1 c4
          exact x_vretM G hr hlk S (Nat.le_refl _) (Nat.le_refl _) h dX6_readyFor_116
        · have h := h.2 c4
          refine lv_iload hx hb dX6_readyFor_18 (lv_at hl 5 rfl) ?_
          refine lv_bipush (v := (21 : Int32)) hx hb dX6_readyFor_20 (by decide) ?_
          refine lv_imul hx hb dX6_readyFor_22 ?_
          refine lv_iload hx hb dX6_readyFor_23 (lv_at hl 4 rfl) ?_
          refine lv_iadd hx hb dX6_readyFor_25 ?_
          refine lv_topi (fun x5 ex5 => ?_)
          have h := h x5 ex5
          refine lv_istore (lv' := [(6, .int x5), (0, .ref v0), (1, .ref v1), (2, .ref v2), (3, .int v3), (4, .int v4), (5, .int b3_5)]) hx hb dX6_readyFor_26 hl (by decide) rfl (fun ls hl => ?_)
          refine lv_iload hx hb dX6_readyFor_28 (lv_at hl 6 rfl) ?_
          refine lv_iconst (v := (2 : Int32)) hx hb dX6_readyFor_30 (by decide) ?_
          refine lv_idiv hx hb dX6_readyFor_31 (by decide) ?_
          refine lv_topi (fun x6 ex6 => ?_)
          have h := h x6 ex6
          refine lv_istore (lv' := [(7, .int x6), (6, .int x5), (0, .ref v0), (1, .ref v1), (2, .ref v2), (3, .int v3), (4, .int v4), (5, .int b3_5)]) hx hb dX6_readyFor_32 hl (by decide) rfl (fun ls hl => ?_)
          refine lv_aload_n hx hb dX6_readyFor_34 rfl (lv_at hl 4 rfl) ?_
          refine lv_iload hx hb dX6_readyFor_35 (lv_at hl 7 rfl) ?_
          refine lv_iload hx hb dX6_readyFor_37 (lv_at hl 6 rfl) ?_
          obtain ⟨fs31, hfs31, h⟩ := h
          refine x_cRVi (As := [.int b3_5, .int v4]) (rest := []) G S.1 hfs31 rfl rfl (c_X2_blindOf l D kA _ _ v2 b3_5 v4 h) cd_X2_blindOf ml_X6_29 ⟨(Nat.le_of_ble_eq_true rfl), (Nat.le_of_ble_eq_true rfl)⟩ rfl hl.1 rfl (Nat.le_of_ble_eq_true rfl) dX6_readyFor_39 ⟨Nat.zero_le _, Nat.zero_le _⟩ (fun r7 h => ?_)
          refine lv_istore (lv' := [(8, .int r7), (7, .int x6), (6, .int x5), (0, .ref v0), (1, .ref v1), (2, .ref v2), (3, .int v3), (4, .int v4), (5, .int b3_5)]) hx hb dX6_readyFor_42 hl (by decide) rfl (fun ls hl => ?_)
          refine lv_aload_n hx hb dX6_readyFor_44 rfl (lv_at hl 3 rfl) ?_
          obtain ⟨fs8, y9, hfs8, hvfs8, h⟩ := h
          refine x_get G S.1 hfs8 hvfs8 fl_X6_9 dX6_readyFor_45 ?_
          refine lv_iload hx hb dX6_readyFor_48 (lv_at hl 2 rfl) ?_
          refine lv_iload_n hx hb dX6_readyFor_50 rfl (lv_at hl 6 rfl) ?_
          refine lv_iload hx hb dX6_readyFor_51 (lv_at hl 1 rfl) ?_
          refine x_cRSi (As := [.int x6]) (rest := [.int v3, .int x5, .ref y9]) G S.1 (c_X9_hoursOf l D kA _ _ x6 h) cd_X9_hoursOf ml_X6_35 ⟨(Nat.le_of_ble_eq_true rfl), (Nat.le_of_ble_eq_true rfl)⟩ rfl hl.1 rfl (Nat.le_of_ble_eq_true rfl) dX6_readyFor_53 ⟨Nat.zero_le _, Nat.zero_le _⟩ (fun r10 h => ?_)
          refine lv_iadd hx hb dX6_readyFor_56 ?_
          refine lv_bipush (v := (21 : Int32)) hx hb dX6_readyFor_57 (by decide) ?_
          refine lv_imul hx hb dX6_readyFor_59 ?_
          refine lv_aload_n hx hb dX6_readyFor_60 rfl (lv_at hl 5 rfl) ?_
          refine lv_aload_n hx hb dX6_readyFor_61 rfl (lv_at hl 4 rfl) ?_
          refine lv_iload_n hx hb dX6_readyFor_62 rfl (lv_at hl 6 rfl) ?_
          refine lv_iload hx hb dX6_readyFor_63 (lv_at hl 7 rfl) ?_
          refine lv_iload hx hb dX6_readyFor_65 (lv_at hl 1 rfl) ?_
          obtain ⟨fs30, hfs30, h⟩ := h
          refine x_cRVi (As := [.ref v1, .int v3, .int v4, .int x6]) (rest := [.int ((v3 + r10) * (21 : Int32)), .int x5, .ref y9]) G S.1 hfs30 rfl rfl (c_X2_owedBehind l D kA _ _ v2 v1 v3 v4 x6 h) cd_X2_owedBehind ml_X6_39 ⟨(Nat.le_of_ble_eq_true rfl), (Nat.le_of_ble_eq_true rfl)⟩ rfl hl.1 rfl (Nat.le_of_ble_eq_true rfl) dX6_readyFor_67 ⟨Nat.zero_le _, Nat.zero_le _⟩ (fun r11 h => ?_)
          refine lv_iadd hx hb dX6_readyFor_70 ?_
          obtain ⟨n12, f13, hf13, hif13, h⟩ := h
          have h := h _ rfl
          refine x_iast G S hf13 hif13 dX6_readyFor_71 (fun H locs S => ?_)
          refine lv_aload_n hx hb dX6_readyFor_72 rfl (lv_at hl 3 rfl) ?_
          obtain ⟨fs15, y16, hfs15, hvfs15, h⟩ := h
          refine x_get G S.1 hfs15 hvfs15 fl_X6_15 dX6_readyFor_73 ?_
          refine lv_iload hx hb dX6_readyFor_76 (lv_at hl 2 rfl) ?_
          refine lv_ldc hx hb hown (hts _ kc_X6_43) dX6_readyFor_78 ?_
          refine lv_aload_n hx hb dX6_readyFor_80 rfl (lv_at hl 4 rfl) ?_
          refine lv_iload_n hx hb dX6_readyFor_81 rfl (lv_at hl 6 rfl) ?_
          obtain ⟨fs29, hfs29, h⟩ := h
          refine x_cRVi (As := [.int v3]) (rest := [.int (1000000 : Int32), .int x5, .ref y16]) G S.1 hfs29 rfl rfl (c_X8_shipsAt l D kA _ _ v1 v3 h) cd_X8_shipsAt ml_X6_44 ⟨(Nat.le_of_ble_eq_true rfl), (Nat.le_of_ble_eq_true rfl)⟩ rfl hl.1 rfl (Nat.le_of_ble_eq_true rfl) dX6_readyFor_82 ⟨Nat.zero_le _, Nat.zero_le _⟩ (fun r17 h => ?_)
          refine lv_iload hx hb dX6_readyFor_85 (lv_at hl 0 rfl) ?_
          refine lv_imul hx hb dX6_readyFor_87 ?_
          refine lv_isub hx hb dX6_readyFor_88 ?_
          obtain ⟨n18, f19, hf19, hif19, h⟩ := h
          have h := h _ rfl
          refine x_iast G S hf19 hif19 dX6_readyFor_89 (fun H locs S => ?_)
          refine lv_aload_n hx hb dX6_readyFor_90 rfl (lv_at hl 3 rfl) ?_
          obtain ⟨fs21, y22, hfs21, hvfs21, h⟩ := h
          refine x_get G S.1 hfs21 hvfs21 fl_X6_18 dX6_readyFor_91 ?_
          refine lv_iload hx hb dX6_readyFor_94 (lv_at hl 2 rfl) ?_
          refine lv_ldc hx hb hown (hts _ kc_X6_43) dX6_readyFor_96 ?_
          refine lv_aload_n hx hb dX6_readyFor_98 rfl (lv_at hl 4 rfl) ?_
          refine lv_iload_n hx hb dX6_readyFor_99 rfl (lv_at hl 6 rfl) ?_
          refine lv_iconst (v := (1 : Int32)) hx hb dX6_readyFor_100 (by decide) ?_
          refine lv_iadd hx hb dX6_readyFor_101 ?_
          obtain ⟨fs28, hfs28, h⟩ := h
          refine x_cRVi (As := [.int (v3 + (1 : Int32))]) (rest := [.int (1000000 : Int32), .int x5, .ref y22]) G S.1 hfs28 rfl rfl (c_X8_shipsAt l D kA _ _ v1 (v3 + (1 : Int32)) h) cd_X8_shipsAt ml_X6_44 ⟨(Nat.le_of_ble_eq_true rfl), (Nat.le_of_ble_eq_true rfl)⟩ rfl hl.1 rfl (Nat.le_of_ble_eq_true rfl) dX6_readyFor_102 ⟨Nat.zero_le _, Nat.zero_le _⟩ (fun r23 h => ?_)
          refine lv_iload hx hb dX6_readyFor_105 (lv_at hl 0 rfl) ?_
          refine lv_imul hx hb dX6_readyFor_107 ?_
          refine lv_isub hx hb dX6_readyFor_108 ?_
          obtain ⟨n24, f25, hf25, hif25, h⟩ := h
          have h := h _ rfl
          refine x_iast G S hf25 hif25 dX6_readyFor_109 (fun H locs S => ?_)
          obtain ⟨x27, ex27⟩ : ∃ y : Int32, y = b3_5 + (1 : Int32) := ⟨_, rfl⟩
          have h := h x27 ex27
          refine lv_iinc (v := x27) (lv' := [(5, .int x27), (8, .int r7), (7, .int x6), (6, .int x5), (0, .ref v0), (1, .ref v1), (2, .ref v2), (3, .int v3), (4, .int v4)]) hx hb dX6_readyFor_110 hl (k := 8) rfl (by rw [ex27]; rfl) (by decide) rfl (fun ls hl => ?_)
          refine lv_goto (tgt := 3) hx hb dX6_readyFor_113 (by decide) ?_
          exact ih_3 _ _ _ _ h S ls (lv_sub hl [4, 5, 6, 7, 8, 0] rfl)
  refine lv_iconst (v := (0 : Int32)) hx hb dX6_readyFor_0 (by decide) ?_
  refine lv_istore (lv' := [(5, .int (0 : Int32)), (0, .ref v0), (1, .ref v1), (2, .ref v2), (3, .int v3), (4, .int v4)]) hx hb dX6_readyFor_1 hl (by decide) rfl (fun ls hl => ?_)
  obtain ⟨n1, h⟩ := h
  exact J_3 n1 _ _ _ _ h S ls (lv_sub hl [1, 2, 3, 4, 5, 0] rfl)
def bk_X6_ready_3 (post : Hp → Prop) (v0 : Nat) (v1 : Nat) (v2 : Nat) (v3 : Int32)  : Nat → Hp → Int32 → Prop
  | 0, _, _ => False
  | k + 1, X, b3_4 => ((21 : Int32) ≤ b3_4 → post X) ∧ (¬ (21 : Int32) ≤ b3_4 → ∃ fs5 : List Value, Hs X v0 (.inr (6, fs5)) ∧ wp_X6_readyFor (fun X3 => ∀ x4 : Int32, x4 = b3_4 + (1 : Int32) → (bk_X6_ready_3 post v0 v1 v2 v3 k) X3 x4) X v0 v1 v2 v3 b3_4)
def wp_X6_ready (post : Hp → Prop) (X : Hp) (v0 : Nat) (v1 : Nat) (v2 : Nat) (v3 : Int32) : Prop := ∃ n1 : Nat, bk_X6_ready_3 post v0 v1 v2 v3 n1 X (0 : Int32)
set_option maxHeartbeats 4000000 in
set_option maxRecDepth 100000 in
theorem c_X6_ready (l : Launch) (D : va_G) (kA : Nat → ClassId) (post : Hp → Prop) (X : Hp) (sz : Nat) (v0 : Nat) (v1 : Nat) (v2 : Nat) (v3 : Int32) (h : wp_X6_ready post X v0 v1 v2 v3) : Met l yX6_ready (.code yX6_ready cX6_ready 5 none :: gd) (rmO 4 0 0 97) (va_Pc [Value.ref v0, Value.ref v1, Value.ref v2, Value.int v3] (PreM D kA X sz)) (va_Qv post (PoM D kA X sz) (va_A (hw kA X) sz)) 0 0 (va_A (hw kA X) sz) := by
  unfold wp_X6_ready at h
  refine x_enM (by decide) (Nat.le_of_ble_eq_true rfl) ?_
  intro p e s m below meth c G hr hlk hin hsz hA S ls hl
  obtain ⟨hx, hb, hml, hown, hts, hE, hK⟩ := id G
  have hl : lv_has ls 5 [(0, .ref v0), (1, .ref v1), (2, .ref v2), (3, .int v3)] := hl
  obtain ⟨X0, hX0⟩ : ∃ Y : Hp, Y = X := ⟨_, rfl⟩
  subst hX0
  have J_3 : ∀ (n : Nat) (X : Hp) (b3_4 : Int32), ∀ (H : Heap) (locs : List Loc) (_ : bk_X6_ready_3 post v0 v1 v2 v3  n X b3_4), Sx D kA (va_A (hw kA X0) sz) s.heap H locs X → ∀ ls, lv_has ls 5 [(0, .ref v0), (1, .ref v1), (2, .ref v2), (3, .int v3), (4, .int b3_4)] → W p l e (rmO 4 0 0 97) s m [Value.ref v0, Value.ref v1, Value.ref v2, Value.int v3].toArray below meth c H locs 0 0 (MQ below (va_Qv post (PoM D kA X0 sz) (va_A (hw kA X0) sz)) [Value.ref v0, Value.ref v1, Value.ref v2, Value.int v3].toArray s 0 0 (va_A (hw kA X0) sz)) (F0 m 3 ls []) := by
    intro n
    induction n with
    | zero =>
      intro X b3_4 H locs h S ls hl
      rw [bk_X6_ready_3] at h
      exact h.elim
    | succ n_3 ih_3 =>
      intro X b3_4 H locs h S ls hl
      rw [bk_X6_ready_3] at h
      refine lv_iload hx hb dX6_ready_3 (lv_at hl 4 rfl) ?_
      refine lv_bipush (v := (21 : Int32)) hx hb dX6_ready_5 (by decide) ?_
      refine lv_icmp_ge (tgt := 25) hx hb dX6_ready_7 (by decide) (fun c2 => ?_) (fun c2 => ?_)
      · have h := h.1 c2
        exact x_vretM G hr hlk S (Nat.le_refl _) (Nat.le_refl _) h dX6_ready_25
      · have h := h.2 c2
        refine lv_aload_n hx hb dX6_ready_10 rfl (lv_at hl 0 rfl) ?_
        refine lv_aload_n hx hb dX6_ready_11 rfl (lv_at hl 1 rfl) ?_
        refine lv_aload_n hx hb dX6_ready_12 rfl (lv_at hl 2 rfl) ?_
        refine lv_iload_n hx hb dX6_ready_13 rfl (lv_at hl 3 rfl) ?_
        refine lv_iload hx hb dX6_ready_14 (lv_at hl 4 rfl) ?_
        obtain ⟨fs5, hfs5, h⟩ := h
        refine x_cMVv (As := [.ref v1, .ref v2, .int v3, .int b3_4]) (rest := []) G S hA hfs5 rfl rfl (c_X6_readyFor l D kA _ _ _ v0 v1 v2 v3 b3_4 h) cd_X6_readyFor ml_X6_21 ⟨(Nat.le_of_ble_eq_true rfl), (Nat.le_of_ble_eq_true rfl)⟩ rfl hl.1 rfl (Nat.le_of_ble_eq_true rfl) dX6_ready_16 ⟨Nat.zero_le _, Nat.zero_le _⟩ (fun X H locs h S => ?_)
        obtain ⟨x4, ex4⟩ : ∃ y : Int32, y = b3_4 + (1 : Int32) := ⟨_, rfl⟩
        have h := h x4 ex4
        refine lv_iinc (v := x4) (lv' := [(4, .int x4), (0, .ref v0), (1, .ref v1), (2, .ref v2), (3, .int v3)]) hx hb dX6_ready_19 hl (k := 4) rfl (by rw [ex4]; rfl) (by decide) rfl (fun ls hl => ?_)
        refine lv_goto (tgt := 3) hx hb dX6_ready_22 (by decide) ?_
        exact ih_3 _ _ _ _ h S ls (lv_sub hl [1, 2, 3, 4, 0] rfl)
  refine lv_iconst (v := (0 : Int32)) hx hb dX6_ready_0 (by decide) ?_
  refine lv_istore (lv' := [(4, .int (0 : Int32)), (0, .ref v0), (1, .ref v1), (2, .ref v2), (3, .int v3)]) hx hb dX6_ready_1 hl (by decide) rfl (fun ls hl => ?_)
  obtain ⟨n1, h⟩ := h
  exact J_3 n1 _ _ _ _ h S ls (lv_sub hl [1, 2, 3, 4, 0] rfl)
def bk_X6_safeBy_63 (post : Int32 → Prop) (X : Hp) (v0 : Nat) (v1 : Int32) (v2 : Int32) (v3 : Nat)  (b63_4 : Int32) (b63_5 : Int64) : Prop := ∃ (fs21 : List Value) (y22 : Nat), Hs X v0 (.inr (6, fs21)) ∧ fs21[1]? = some (.ref y22) ∧ ∃ (n23 : Nat) (f24 : Nat → Int32), Hs X y22 (.inl (0, n23, .inl f24)) ∧ vp_in b63_4 n23 ∧ post (((b63_5 * ((f24 b63_4.toNatClampNeg).toInt64)) / (1000000 : Int64)).toInt32)
def wp_X6_safeBy (post : Int32 → Prop) (X : Hp) (v0 : Nat) (v1 : Int32) (v2 : Int32) (v3 : Nat) : Prop := ∀ x1 : Int32, x1 = ((v1 * (21 : Int32)) + v2) → (x1 < 0 → post (0 : Int32)) ∧ (¬ x1 < 0 → ∃ (fs3 : List Value) (y4 : Nat), Hs X v0 (.inr (6, fs3)) ∧ fs3[0]? = some (.ref y4) ∧ ∃ (n5 : Nat) (z6 : (Nat → Int32) ⊕ (Nat → Int64) ⊕ (Nat → UInt32) ⊕ (Nat → UInt64) ⊕ (Nat → Option Nat)), Hs X y4 (.inl (0, n5, z6)) ∧ (x1 < (nI n5) → ∃ (fs8 : List Value) (y9 : Nat), Hs X v0 (.inr (6, fs8)) ∧ fs8[0]? = some (.ref y9) ∧ ∃ (n10 : Nat) (f11 : Nat → Int32), Hs X y9 (.inl (0, n10, .inl f11)) ∧ vp_in x1 n10 ∧ ∃ fs20 : List Value, Hs X v3 (.inr (5, fs20)) ∧ wp_X5_at (fun r12 => ∀ x13 : Int64, x13 = (r12.toInt64) → (¬ (v1 / (2 : Int32)) = (3 : Int32) → bk_X6_safeBy_63 post X v0 v1 v2 v3 x1 x13) ∧ ((v1 / (2 : Int32)) = (3 : Int32) → ∃ (fs15 : List Value) (y16 : Nat), Hs X v0 (.inr (6, fs15)) ∧ fs15[2]? = some (.ref y16) ∧ ∃ (n17 : Nat) (f18 : Nat → Int32), Hs X y16 (.inl (0, n17, .inl f18)) ∧ vp_in x1 n17 ∧ ∀ x19 : Int64, x19 = ((x13 * ((f18 x1.toNatClampNeg).toInt64)) / (1000000 : Int64)) → bk_X6_safeBy_63 post X v0 v1 v2 v3 x1 x19))  X v3 (f11 x1.toNatClampNeg)) ∧ (¬ x1 < (nI n5) → post (0 : Int32)))
set_option maxHeartbeats 4000000 in
set_option maxRecDepth 100000 in
theorem c_X6_safeBy (l : Launch) (D : va_G) (kA : Nat → ClassId) (post : Int32 → Prop) (X : Hp) (v0 : Nat) (v1 : Int32) (v2 : Int32) (v3 : Nat) (h : wp_X6_safeBy post X v0 v1 v2 v3) : Met l yX6_safeBy (.code yX6_safeBy cX6_safeBy 7 (some .int) :: gd) (rmO 1 0 0 21) (va_Pc [Value.ref v0, Value.int v1, Value.int v2, Value.ref v3] (Pre D kA X)) (vp_Si post) 0 0 (fun _ => False) := by
  unfold wp_X6_safeBy at h
  refine x_enR (by decide) (Nat.le_of_ble_eq_true rfl) ?_
  intro p e s m below meth c G hr hlk hP ls hl
  obtain ⟨hx, hb, hml, hown, hts, hE, hK⟩ := id G
  have hl : lv_has ls 7 [(0, .ref v0), (1, .int v1), (2, .int v2), (3, .ref v3)] := hl
  have J_63 : ∀ (b63_4 : Int32) (b63_5 : Int64), ∀ (_ : bk_X6_safeBy_63 post X v0 v1 v2 v3  b63_4 b63_5), ∀ ls, lv_has ls 7 [(0, .ref v0), (4, .int b63_4), (5, .long b63_5)] → W p l e (rmO 1 0 0 21) s m [Value.ref v0, Value.int v1, Value.int v2, Value.ref v3].toArray below meth c s.heap [] 0 0 (MQ below (vp_Si post) [Value.ref v0, Value.int v1, Value.int v2, Value.ref v3].toArray s 0 0 (fun _ => False)) (F0 m 63 ls []) := by
    intro b63_4 b63_5 h ls hl
    unfold bk_X6_safeBy_63 at h
    refine lv_lload hx hb dX6_safeBy_63 (lv_at hl 2 rfl) ?_
    refine lv_aload_n hx hb dX6_safeBy_65 rfl (lv_at hl 0 rfl) ?_
    obtain ⟨fs21, y22, hfs21, hvfs21, h⟩ := h
    refine x_get G hP hfs21 hvfs21 fl_X6_15 dX6_safeBy_66 ?_
    refine lv_iload hx hb dX6_safeBy_69 (lv_at hl 1 rfl) ?_
    obtain ⟨n23, f24, hf24, hif24, h⟩ := h
    refine x_iald G hP hf24 hif24 dX6_safeBy_71 ?_
    refine lv_i2l (v := (f24 b63_4.toNatClampNeg).toInt64) hx hb dX6_safeBy_72 rfl ?_
    refine lv_lmul hx hb dX6_safeBy_73 ?_
    refine lv_ldc2 hx hb hown (hts _ kc_X6_54) dX6_safeBy_74 ?_
    refine lv_ldiv hx hb dX6_safeBy_77 (by decide) ?_
    refine lv_l2i (v := ((b63_5 * ((f24 b63_4.toNatClampNeg).toInt64)) / (1000000 : Int64)).toInt32) hx hb dX6_safeBy_78 rfl ?_
    exact x_iretR G hr hlk h dX6_safeBy_79
  refine lv_iload_n hx hb dX6_safeBy_0 rfl (lv_at hl 1 rfl) ?_
  refine lv_bipush (v := (21 : Int32)) hx hb dX6_safeBy_1 (by decide) ?_
  refine lv_imul hx hb dX6_safeBy_3 ?_
  refine lv_iload_n hx hb dX6_safeBy_4 rfl (lv_at hl 2 rfl) ?_
  refine lv_iadd hx hb dX6_safeBy_5 ?_
  refine lv_topi (fun x1 ex1 => ?_)
  have h := h x1 ex1
  refine lv_istore (lv' := [(4, .int x1), (0, .ref v0), (1, .int v1), (2, .int v2), (3, .ref v3)]) hx hb dX6_safeBy_6 hl (by decide) rfl (fun ls hl => ?_)
  refine lv_iload hx hb dX6_safeBy_8 (lv_at hl 0 rfl) ?_
  refine lv_if_lt (tgt := 23) hx hb dX6_safeBy_10 (by decide) (fun c2 => ?_) (fun c2 => ?_)
  · have h := h.1 c2
    refine lv_iconst (v := (0 : Int32)) hx hb dX6_safeBy_23 (by decide) ?_
    exact x_iretR G hr hlk h dX6_safeBy_24
  · have h := h.2 c2
    refine lv_iload hx hb dX6_safeBy_13 (lv_at hl 0 rfl) ?_
    refine lv_aload_n hx hb dX6_safeBy_15 rfl (lv_at hl 1 rfl) ?_
    obtain ⟨fs3, y4, hfs3, hvfs3, h⟩ := h
    refine x_get G hP hfs3 hvfs3 fl_X6_9 dX6_safeBy_16 ?_
    obtain ⟨n5, z6, hz6, h⟩ := h
    refine x_alen G hP hz6 rfl dX6_safeBy_19 ?_
    refine lv_icmp_lt (tgt := 25) hx hb dX6_safeBy_20 (by decide) (fun c7 => ?_) (fun c7 => ?_)
    · have h := h.1 c7
      refine lv_aload_n hx hb dX6_safeBy_25 rfl (lv_at hl 4 rfl) ?_
      refine lv_aload_n hx hb dX6_safeBy_26 rfl (lv_at hl 1 rfl) ?_
      obtain ⟨fs8, y9, hfs8, hvfs8, h⟩ := h
      refine x_get G hP hfs8 hvfs8 fl_X6_9 dX6_safeBy_27 ?_
      refine lv_iload hx hb dX6_safeBy_30 (lv_at hl 0 rfl) ?_
      obtain ⟨n10, f11, hf11, hif11, h⟩ := h
      refine x_iald G hP hf11 hif11 dX6_safeBy_32 ?_
      obtain ⟨fs20, hfs20, h⟩ := h
      refine x_cRVi (As := [.int (f11 x1.toNatClampNeg)]) (rest := []) G hP hfs20 rfl rfl (c_X5_at l D kA _ _ v3 (f11 x1.toNatClampNeg) h) cd_X5_at ml_X6_49 ⟨(Nat.le_of_ble_eq_true rfl), (Nat.le_of_ble_eq_true rfl)⟩ rfl hl.1 rfl (Nat.le_of_ble_eq_true rfl) dX6_safeBy_33 ⟨Nat.zero_le _, Nat.zero_le _⟩ (fun r12 h => ?_)
      refine lv_i2l (v := r12.toInt64) hx hb dX6_safeBy_36 rfl ?_
      refine lv_topl (fun x13 ex13 => ?_)
      have h := h x13 ex13
      refine lv_lstore (lv' := [(5, .long x13), (4, .int x1), (0, .ref v0), (1, .int v1), (2, .int v2), (3, .ref v3)]) hx hb dX6_safeBy_37 hl (by decide) rfl (fun ls hl => ?_)
      refine lv_iload_n hx hb dX6_safeBy_39 rfl (lv_at hl 3 rfl) ?_
      refine lv_iconst (v := (2 : Int32)) hx hb dX6_safeBy_40 (by decide) ?_
      refine lv_idiv hx hb dX6_safeBy_41 (by decide) ?_
      refine lv_iconst (v := (3 : Int32)) hx hb dX6_safeBy_42 (by decide) ?_
      refine lv_icmp_ne (tgt := 63) hx hb dX6_safeBy_43 (by decide) (fun c14 => ?_) (fun c14 => ?_)
      · have h := h.1 c14
        exact J_63 _ _ h ls (lv_sub hl [2, 1, 0] rfl)
      · have h := h.2 c14
        refine lv_lload hx hb dX6_safeBy_46 (lv_at hl 0 rfl) ?_
        refine lv_aload_n hx hb dX6_safeBy_48 rfl (lv_at hl 2 rfl) ?_
        obtain ⟨fs15, y16, hfs15, hvfs15, h⟩ := h
        refine x_get G hP hfs15 hvfs15 fl_X6_18 dX6_safeBy_49 ?_
        refine lv_iload hx hb dX6_safeBy_52 (lv_at hl 1 rfl) ?_
        obtain ⟨n17, f18, hf18, hif18, h⟩ := h
        refine x_iald G hP hf18 hif18 dX6_safeBy_54 ?_
        refine lv_i2l (v := (f18 x1.toNatClampNeg).toInt64) hx hb dX6_safeBy_55 rfl ?_
        refine lv_lmul hx hb dX6_safeBy_56 ?_
        refine lv_ldc2 hx hb hown (hts _ kc_X6_54) dX6_safeBy_57 ?_
        refine lv_ldiv hx hb dX6_safeBy_60 (by decide) ?_
        refine lv_topl (fun x19 ex19 => ?_)
        have h := h x19 ex19
        refine lv_lstore (lv' := [(5, .long x19), (4, .int x1), (0, .ref v0), (1, .int v1), (2, .int v2), (3, .ref v3)]) hx hb dX6_safeBy_61 hl (by decide) rfl (fun ls hl => ?_)
        exact J_63 _ _ h ls (lv_sub hl [2, 1, 0] rfl)
    · have h := h.2 c7
      refine lv_iconst (v := (0 : Int32)) hx hb dX6_safeBy_23 (by decide) ?_
      exact x_iretR G hr hlk h dX6_safeBy_24
