def wp_X3_init (post : Hp → Prop) (mc ms : Nat) (X : Hp) (v0 : Nat) : Prop := 0 + 1 ≤ mc ∧ 0 + 60 ≤ ms ∧ ∀ q1 : Nat, q1 ∉ X.1 → ∀ X2 : Hp, X2 = hadd X q1 (.inl (0, 60, .inl (fun _ => 0))) → ∃ (fs3 : List Value), Hs X2 v0 (.inr (3, fs3)) ∧ 1 < fs3.length ∧ ∀ X4 : Hp, X4 = hput X2 v0 (.inr (3, fs3.set 1 (.ref q1))) → (0 + 1) ≤ mc ∧ (0 + 60) ≤ ms ∧ post X4
set_option maxHeartbeats 4000000 in
set_option maxRecDepth 100000 in
theorem c_X3_init (l : Launch) (D : va_G) (kA : Nat → ClassId) (post : Hp → Prop) (mc ms : Nat) (X : Hp) (sz : Nat) (v0 : Nat) (h : wp_X3_init post mc ms X v0) : Met l yX3_init (.code yX3_init cX3_init 1 none :: gd) (rmO 1 mc ms 21) (va_Pc [Value.ref v0] (PreM D kA X sz)) (va_Qv post (PoM D kA X sz) (va_A (hw kA X) sz)) mc ms (va_A (hw kA X) sz) := by
  unfold wp_X3_init at h
  refine x_enM (by decide) (Nat.le_of_ble_eq_true rfl) ?_
  intro p e s m below meth c G hr hlk hin hsz hA S ls hl
  obtain ⟨hx, hb, hml, hown, hts, hE, hK⟩ := id G
  have hl : lv_has ls 1 [(0, .ref v0)] := hl
  refine lv_aload_n hx hb dX3_init_0 rfl (lv_at hl 0 rfl) ?_
  refine x_objInit G mk_X3_3 oi_ins oi_cod hl.1 dX3_init_1 (Nat.le_of_ble_eq_true rfl) (Nat.le_of_ble_eq_true rfl) ?_
  refine lv_aload_n hx hb dX3_init_4 rfl (lv_at hl 0 rfl) ?_
  refine lv_bipush (v := (60 : Int32)) hx hb dX3_init_5 (by decide) ?_
  obtain ⟨hc1, hc2, h⟩ := h
  refine x_newa (atype := .int) (t := 0) (N' := 60) G S hA ac_int rfl rfl (fun z => z) rfl (by decide) (by decide) (Nat.le_of_ble_eq_true rfl) hc1 hc2 dX3_init_7 (fun q1 H hq1 S => ?_)
  have h := h q1 hq1 _ rfl
  obtain ⟨fs3, hfs3, hkfs3, h⟩ := h
  have h := h _ rfl
  refine x_putF G hin S hfs3 hkfs3 rfl rfl ff_X3_9 dX3_init_9 (fun H locs S => ?_)
  obtain ⟨hk1, hk2, h⟩ := h
  exact x_vretM G hr hlk S hk1 hk2 h dX3_init_12
def wp_X3_write (post : Int32 → Hp → Prop) (X : Hp) (v0 : Nat) (v1 : Int32) : Prop := ∃ (fs1 : List Value) (y2 : Int32), Hs X v0 (.inr (3, fs1)) ∧ fs1[0]? = some (.int y2) ∧ (y2 < (60 : Int32) → ∃ (fs4 : List Value) (y5 : Nat), Hs X v0 (.inr (3, fs4)) ∧ fs4[1]? = some (.ref y5) ∧ ∃ (fs6 : List Value) (y7 : Int32), Hs X v0 (.inr (3, fs6)) ∧ fs6[0]? = some (.int y7) ∧ ∃ (n8 : Nat) (f9 : Nat → Int32), Hs X y5 (.inl (0, n8, .inl f9)) ∧ vp_in y7 n8 ∧ ∀ X10 : Hp, X10 = hput X y5 (.inl (0, n8, .inl (upd f9 y7.toNatClampNeg v1))) → ∃ (fs11 : List Value) (y12 : Int32), Hs X10 v0 (.inr (3, fs11)) ∧ fs11[0]? = some (.int y12) ∧ ∃ (fs13 : List Value), Hs X10 v0 (.inr (3, fs13)) ∧ 0 < fs13.length ∧ ∀ X14 : Hp, X14 = hput X10 v0 (.inr (3, fs13.set 0 (.int (y12 + (1 : Int32))))) → post (1 : Int32) X14) ∧ (¬ y2 < (60 : Int32) → post (0 : Int32) X)
set_option maxHeartbeats 4000000 in
set_option maxRecDepth 100000 in
theorem c_X3_write (l : Launch) (D : va_G) (kA : Nat → ClassId) (post : Int32 → Hp → Prop) (X : Hp) (sz : Nat) (v0 : Nat) (v1 : Int32) (h : wp_X3_write post X v0 v1) : Met l yX3_write (.code yX3_write cX3_write 2 (some .boolean) :: gd) (rmO 0 0 0 0) (va_Pc [Value.ref v0, Value.int v1] (PreM D kA X sz)) (va_Qi post (PoM D kA X sz) (va_A (hw kA X) sz)) 0 0 (va_A (hw kA X) sz) := by
  unfold wp_X3_write at h
  refine x_enM (by decide) (Nat.le_of_ble_eq_true rfl) ?_
  intro p e s m below meth c G hr hlk hin hsz hA S ls hl
  obtain ⟨hx, hb, hml, hown, hts, hE, hK⟩ := id G
  have hl : lv_has ls 2 [(0, .ref v0), (1, .int v1)] := hl
  refine lv_aload_n hx hb dX3_write_0 rfl (lv_at hl 0 rfl) ?_
  obtain ⟨fs1, y2, hfs1, hvfs1, h⟩ := h
  refine x_get G S.1 hfs1 hvfs1 fl_X3_15 dX3_write_1 ?_
  refine lv_bipush (v := (60 : Int32)) hx hb dX3_write_4 (by decide) ?_
  refine lv_icmp_lt (tgt := 11) hx hb dX3_write_6 (by decide) (fun c3 => ?_) (fun c3 => ?_)
  · have h := h.1 c3
    refine lv_aload_n hx hb dX3_write_11 rfl (lv_at hl 0 rfl) ?_
    obtain ⟨fs4, y5, hfs4, hvfs4, h⟩ := h
    refine x_get G S.1 hfs4 hvfs4 fl_X3_9 dX3_write_12 ?_
    refine lv_aload_n hx hb dX3_write_15 rfl (lv_at hl 0 rfl) ?_
    obtain ⟨fs6, y7, hfs6, hvfs6, h⟩ := h
    refine x_get G S.1 hfs6 hvfs6 fl_X3_15 dX3_write_16 ?_
    refine lv_iload_n hx hb dX3_write_19 rfl (lv_at hl 1 rfl) ?_
    obtain ⟨n8, f9, hf9, hif9, h⟩ := h
    have h := h _ rfl
    refine x_iast G S hf9 hif9 dX3_write_20 (fun H locs S => ?_)
    refine lv_aload_n hx hb dX3_write_21 rfl (lv_at hl 0 rfl) ?_
    refine lv_dup hx hb dX3_write_22 rfl ?_
    obtain ⟨fs11, y12, hfs11, hvfs11, h⟩ := h
    refine x_get G S.1 hfs11 hvfs11 fl_X3_15 dX3_write_23 ?_
    refine lv_iconst (v := (1 : Int32)) hx hb dX3_write_26 (by decide) ?_
    refine lv_iadd hx hb dX3_write_27 ?_
    obtain ⟨fs13, hfs13, hkfs13, h⟩ := h
    have h := h _ rfl
    refine x_put G S hfs13 hkfs13 rfl rfl fw_X3_15 dX3_write_28 (fun H locs S => ?_)
    refine lv_iconst (v := (1 : Int32)) hx hb dX3_write_31 (by decide) ?_
    exact x_zretM G hr hlk (Or.inr rfl) S (Nat.le_refl _) (Nat.le_refl _) h dX3_write_32
  · have h := h.2 c3
    refine lv_iconst (v := (0 : Int32)) hx hb dX3_write_9 (by decide) ?_
    exact x_zretM G hr hlk (Or.inl rfl) S (Nat.le_refl _) (Nat.le_refl _) h dX3_write_10
def wp_X3_thingOf (post : Int32 → Prop) (X : Hp) (v0 : Int32) : Prop := (v0 = (49 : Int32) → post (1 : Int32)) ∧ (v0 = (50 : Int32) → post (2 : Int32)) ∧ (v0 = (51 : Int32) → post (3 : Int32)) ∧ (v0 = (108 : Int32) → post (4 : Int32)) ∧ (v0 = (119 : Int32) → post (0 : Int32)) ∧ (¬ v0 = (49 : Int32) ∧ ¬ v0 = (50 : Int32) ∧ ¬ v0 = (51 : Int32) ∧ ¬ v0 = (108 : Int32) ∧ ¬ v0 = (119 : Int32) → post (-6 : Int32))
set_option maxHeartbeats 4000000 in
set_option maxRecDepth 100000 in
theorem c_X3_thingOf (l : Launch) (D : va_G) (kA : Nat → ClassId) (post : Int32 → Prop) (X : Hp) (v0 : Int32) (h : wp_X3_thingOf post X v0) : Met l yX3_thingOf (.code yX3_thingOf cX3_thingOf 1 (some .int) :: gd) (rmO 0 0 0 0) (va_Pc [Value.int v0] (Pre D kA X)) (vp_Si post) 0 0 (fun _ => False) := by
  unfold wp_X3_thingOf at h
  refine x_enR (by decide) (Nat.le_of_ble_eq_true rfl) ?_
  intro p e s m below meth c G hr hlk hP ls hl
  obtain ⟨hx, hb, hml, hown, hts, hE, hK⟩ := id G
  have hl : lv_has ls 1 [(0, .int v0)] := hl
  refine lv_iload_n hx hb dX3_thingOf_0 rfl (lv_at hl 0 rfl) ?_
  by_cases c1 : v0 = (49 : Int32)
  · have h := h.1 c1
    refine lv_lookup (off := 53) (tgt := 54) hx hb dX3_thingOf_1 (by decide) (by rw [c1]; decide) (by decide) ?_
    refine lv_iconst (v := (1 : Int32)) hx hb dX3_thingOf_54 (by decide) ?_
    exact x_iretR G hr hlk h dX3_thingOf_55
  have h := h.2
  by_cases c2 : v0 = (50 : Int32)
  · have h := h.1 c2
    refine lv_lookup (off := 55) (tgt := 56) hx hb dX3_thingOf_1 (by decide) (by rw [c2]; decide) (by decide) ?_
    refine lv_iconst (v := (2 : Int32)) hx hb dX3_thingOf_56 (by decide) ?_
    exact x_iretR G hr hlk h dX3_thingOf_57
  have h := h.2
  by_cases c3 : v0 = (51 : Int32)
  · have h := h.1 c3
    refine lv_lookup (off := 57) (tgt := 58) hx hb dX3_thingOf_1 (by decide) (by rw [c3]; decide) (by decide) ?_
    refine lv_iconst (v := (3 : Int32)) hx hb dX3_thingOf_58 (by decide) ?_
    exact x_iretR G hr hlk h dX3_thingOf_59
  have h := h.2
  by_cases c4 : v0 = (108 : Int32)
  · have h := h.1 c4
    refine lv_lookup (off := 59) (tgt := 60) hx hb dX3_thingOf_1 (by decide) (by rw [c4]; decide) (by decide) ?_
    refine lv_iconst (v := (4 : Int32)) hx hb dX3_thingOf_60 (by decide) ?_
    exact x_iretR G hr hlk h dX3_thingOf_61
  have h := h.2
  by_cases c5 : v0 = (119 : Int32)
  · have h := h.1 c5
    refine lv_lookup (off := 51) (tgt := 52) hx hb dX3_thingOf_1 (by decide) (by rw [c5]; decide) (by decide) ?_
    refine lv_iconst (v := (0 : Int32)) hx hb dX3_thingOf_52 (by decide) ?_
    exact x_iretR G hr hlk h dX3_thingOf_53
  have h := h.2
  have h := h ⟨c1, c2, c3, c4, c5⟩
  refine lv_lookup (off := 61) (tgt := 62) hx hb dX3_thingOf_1 (by decide) (by show Op.lookupswitch.offset [(49, 53), (50, 55), (51, 57), (108, 59), (119, 51)] 61 _ = _; rw [lv_osw c1 (by decide), lv_osw c2 (by decide), lv_osw c3 (by decide), lv_osw c4 (by decide), lv_osw c5 (by decide)]; rfl) (by decide) ?_
  refine lv_bipush (v := (-6 : Int32)) hx hb dX3_thingOf_62 (by decide) ?_
  exact x_iretR G hr hlk h dX3_thingOf_64
def bk_X3_wantedBehind_55 (post : Int32 → Prop) (X : Hp) (v0 : Int32) (v1 : Int32)  (b55_2 : Int32) : Prop := (¬ b55_2 = (3 : Int32) → post (0 : Int32)) ∧ (b55_2 = (3 : Int32) → post (2 : Int32))
def wp_X3_wantedBehind (post : Int32 → Prop) (X : Hp) (v0 : Int32) (v1 : Int32) : Prop := (¬ v0 = (2 : Int32) → (¬ v1 = (33 : Int32) → wp_X3_thingOf (fun r3 => (r3 = (-6 : Int32) → post (3 : Int32)) ∧ (¬ r3 = (-6 : Int32) → (¬ r3 = 0 → bk_X3_wantedBehind_55 post X v0 v1 r3) ∧ (r3 = 0 → (¬ v0 = (1 : Int32) → bk_X3_wantedBehind_55 post X v0 v1 r3) ∧ (v0 = (1 : Int32) → post (3 : Int32)))))  X v1) ∧ (v1 = (33 : Int32) → (¬ v0 = 0 → post (3 : Int32)) ∧ (v0 = 0 → post (1 : Int32)))) ∧ (v0 = (2 : Int32) → (¬ v1 = (46 : Int32) → post (3 : Int32)) ∧ (v1 = (46 : Int32) → post (0 : Int32)))
set_option maxHeartbeats 4000000 in
set_option maxRecDepth 100000 in
theorem c_X3_wantedBehind (l : Launch) (D : va_G) (kA : Nat → ClassId) (post : Int32 → Prop) (X : Hp) (v0 : Int32) (v1 : Int32) (h : wp_X3_wantedBehind post X v0 v1) : Met l yX3_wantedBehind (.code yX3_wantedBehind cX3_wantedBehind 3 (some .int) :: gd) (rmO 1 0 0 20) (va_Pc [Value.int v0, Value.int v1] (Pre D kA X)) (vp_Si post) 0 0 (fun _ => False) := by
  unfold wp_X3_wantedBehind at h
  refine x_enR (by decide) (Nat.le_of_ble_eq_true rfl) ?_
  intro p e s m below meth c G hr hlk hP ls hl
  obtain ⟨hx, hb, hml, hown, hts, hE, hK⟩ := id G
  have hl : lv_has ls 3 [(0, .int v0), (1, .int v1)] := hl
  have J_55 : ∀ (b55_2 : Int32), ∀ (_ : bk_X3_wantedBehind_55 post X v0 v1  b55_2), ∀ ls, lv_has ls 3 [(2, .int b55_2)] → W p l e (rmO 1 0 0 20) s m [Value.int v0, Value.int v1].toArray below meth c s.heap [] 0 0 (MQ below (vp_Si post) [Value.int v0, Value.int v1].toArray s 0 0 (fun _ => False)) (F0 m 55 ls []) := by
    intro b55_2 h ls hl
    unfold bk_X3_wantedBehind_55 at h
    refine lv_iload_n hx hb dX3_wantedBehind_55 rfl (lv_at hl 0 rfl) ?_
    refine lv_iconst (v := (3 : Int32)) hx hb dX3_wantedBehind_56 (by decide) ?_
    refine lv_icmp_ne (tgt := 64) hx hb dX3_wantedBehind_57 (by decide) (fun c9 => ?_) (fun c9 => ?_)
    · have h := h.1 c9
      refine lv_iconst (v := (0 : Int32)) hx hb dX3_wantedBehind_64 (by decide) ?_
      exact x_iretR G hr hlk h dX3_wantedBehind_65
    · have h := h.2 c9
      refine lv_iconst (v := (2 : Int32)) hx hb dX3_wantedBehind_60 (by decide) ?_
      refine lv_goto (tgt := 65) hx hb dX3_wantedBehind_61 (by decide) ?_
      exact x_iretR G hr hlk h dX3_wantedBehind_65
  refine lv_iload_n hx hb dX3_wantedBehind_0 rfl (lv_at hl 0 rfl) ?_
  refine lv_iconst (v := (2 : Int32)) hx hb dX3_wantedBehind_1 (by decide) ?_
  refine lv_icmp_ne (tgt := 17) hx hb dX3_wantedBehind_2 (by decide) (fun c1 => ?_) (fun c1 => ?_)
  · have h := h.1 c1
    refine lv_iload_n hx hb dX3_wantedBehind_17 rfl (lv_at hl 1 rfl) ?_
    refine lv_bipush (v := (33 : Int32)) hx hb dX3_wantedBehind_18 (by decide) ?_
    refine lv_icmp_ne (tgt := 33) hx hb dX3_wantedBehind_20 (by decide) (fun c2 => ?_) (fun c2 => ?_)
    · have h := h.1 c2
      refine lv_iload_n hx hb dX3_wantedBehind_33 rfl (lv_at hl 1 rfl) ?_
      refine x_cRSi (As := [.int v1]) (rest := []) G hP (c_X3_thingOf l D kA _ _ v1 h) cd_X3_thingOf ml_X3_23 ⟨(Nat.le_of_ble_eq_true rfl), (Nat.le_of_ble_eq_true rfl)⟩ rfl hl.1 rfl (Nat.le_of_ble_eq_true rfl) dX3_wantedBehind_34 ⟨Nat.zero_le _, Nat.zero_le _⟩ (fun r3 h => ?_)
      refine lv_istore_n (lv' := [(2, .int r3), (0, .int v0), (1, .int v1)]) hx hb dX3_wantedBehind_37 rfl hl (by decide) rfl (fun ls hl => ?_)
      refine lv_iload_n hx hb dX3_wantedBehind_38 rfl (lv_at hl 0 rfl) ?_
      refine lv_bipush (v := (-6 : Int32)) hx hb dX3_wantedBehind_39 (by decide) ?_
      refine lv_icmp_eq (tgt := 53) hx hb dX3_wantedBehind_41 (by decide) (fun c4 => ?_) (fun c4 => ?_)
      · have h := h.1 c4
        refine lv_iconst (v := (3 : Int32)) hx hb dX3_wantedBehind_53 (by decide) ?_
        exact x_iretR G hr hlk h dX3_wantedBehind_54
      · have h := h.2 c4
        refine lv_iload_n hx hb dX3_wantedBehind_44 rfl (lv_at hl 0 rfl) ?_
        refine lv_if_ne (tgt := 55) hx hb dX3_wantedBehind_45 (by decide) (fun c5 => ?_) (fun c5 => ?_)
        · have h := h.1 c5
          exact J_55 _ h ls (lv_sub hl [0] rfl)
        · have h := h.2 c5
          refine lv_iload_n hx hb dX3_wantedBehind_48 rfl (lv_at hl 1 rfl) ?_
          refine lv_iconst (v := (1 : Int32)) hx hb dX3_wantedBehind_49 (by decide) ?_
          refine lv_icmp_ne (tgt := 55) hx hb dX3_wantedBehind_50 (by decide) (fun c6 => ?_) (fun c6 => ?_)
          · have h := h.1 c6
            exact J_55 _ h ls (lv_sub hl [0] rfl)
          · have h := h.2 c6
            refine lv_iconst (v := (3 : Int32)) hx hb dX3_wantedBehind_53 (by decide) ?_
            exact x_iretR G hr hlk h dX3_wantedBehind_54
    · have h := h.2 c2
      refine lv_iload_n hx hb dX3_wantedBehind_23 rfl (lv_at hl 0 rfl) ?_
      refine lv_if_ne (tgt := 31) hx hb dX3_wantedBehind_24 (by decide) (fun c7 => ?_) (fun c7 => ?_)
      · have h := h.1 c7
        refine lv_iconst (v := (3 : Int32)) hx hb dX3_wantedBehind_31 (by decide) ?_
        exact x_iretR G hr hlk h dX3_wantedBehind_32
      · have h := h.2 c7
        refine lv_iconst (v := (1 : Int32)) hx hb dX3_wantedBehind_27 (by decide) ?_
        refine lv_goto (tgt := 32) hx hb dX3_wantedBehind_28 (by decide) ?_
        exact x_iretR G hr hlk h dX3_wantedBehind_32
  · have h := h.2 c1
    refine lv_iload_n hx hb dX3_wantedBehind_5 rfl (lv_at hl 1 rfl) ?_
    refine lv_bipush (v := (46 : Int32)) hx hb dX3_wantedBehind_6 (by decide) ?_
    refine lv_icmp_ne (tgt := 15) hx hb dX3_wantedBehind_8 (by decide) (fun c8 => ?_) (fun c8 => ?_)
    · have h := h.1 c8
      refine lv_iconst (v := (3 : Int32)) hx hb dX3_wantedBehind_15 (by decide) ?_
      exact x_iretR G hr hlk h dX3_wantedBehind_16
    · have h := h.2 c8
      refine lv_iconst (v := (0 : Int32)) hx hb dX3_wantedBehind_11 (by decide) ?_
      refine lv_goto (tgt := 16) hx hb dX3_wantedBehind_12 (by decide) ?_
      exact x_iretR G hr hlk h dX3_wantedBehind_16
def bk_X3_faultPlace_4 (post : Int32 → Prop) (X : Hp) (v0 : Nat)  : Nat → Int32 → Int32 → Prop
  | 0, _, _ => False
  | k + 1, b4_1, b4_2 => ∃ (fs2 : List Value) (y3 : Int32), Hs X v0 (.inr (3, fs2)) ∧ fs2[0]? = some (.int y3) ∧ (y3 ≤ b4_2 → (¬ b4_1 = 0 → ∃ (fs6 : List Value) (y7 : Int32), Hs X v0 (.inr (3, fs6)) ∧ fs6[0]? = some (.int y7) ∧ post y7) ∧ (b4_1 = 0 → post (-6 : Int32))) ∧ (¬ y3 ≤ b4_2 → ∃ (fs8 : List Value) (y9 : Nat), Hs X v0 (.inr (3, fs8)) ∧ fs8[1]? = some (.ref y9) ∧ ∃ (n10 : Nat) (f11 : Nat → Int32), Hs X y9 (.inl (0, n10, .inl f11)) ∧ vp_in b4_2 n10 ∧ wp_X3_wantedBehind (fun r12 => (¬ r12 = (3 : Int32) → ∀ x14 : Int32, x14 = b4_2 + (1 : Int32) → (bk_X3_faultPlace_4 post X v0 k) r12 x14) ∧ (r12 = (3 : Int32) → post b4_2)) X b4_1 (f11 b4_2.toNatClampNeg))
def wp_X3_faultPlace (post : Int32 → Prop) (X : Hp) (v0 : Nat) : Prop := ∃ n1 : Nat, bk_X3_faultPlace_4 post X v0 n1 (0 : Int32) (0 : Int32)
set_option maxHeartbeats 4000000 in
set_option maxRecDepth 100000 in
theorem c_X3_faultPlace (l : Launch) (D : va_G) (kA : Nat → ClassId) (post : Int32 → Prop) (X : Hp) (v0 : Nat) (h : wp_X3_faultPlace post X v0) : Met l yX3_faultPlace (.code yX3_faultPlace cX3_faultPlace 3 (some .int) :: gd) (rmO 2 0 0 42) (va_Pc [Value.ref v0] (Pre D kA X)) (vp_Si post) 0 0 (fun _ => False) := by
  unfold wp_X3_faultPlace at h
  refine x_enR (by decide) (Nat.le_of_ble_eq_true rfl) ?_
  intro p e s m below meth c G hr hlk hP ls hl
  obtain ⟨hx, hb, hml, hown, hts, hE, hK⟩ := id G
  have hl : lv_has ls 3 [(0, .ref v0)] := hl
  have J_4 : ∀ (n : Nat) (b4_1 : Int32) (b4_2 : Int32), ∀ (_ : bk_X3_faultPlace_4 post X v0  n b4_1 b4_2), ∀ ls, lv_has ls 3 [(0, .ref v0), (1, .int b4_1), (2, .int b4_2)] → W p l e (rmO 2 0 0 42) s m [Value.ref v0].toArray below meth c s.heap [] 0 0 (MQ below (vp_Si post) [Value.ref v0].toArray s 0 0 (fun _ => False)) (F0 m 4 ls []) := by
    intro n
    induction n with
    | zero =>
      intro b4_1 b4_2 h ls hl
      rw [bk_X3_faultPlace_4] at h
      exact h.elim
    | succ n_4 ih_4 =>
      intro b4_1 b4_2 h ls hl
      rw [bk_X3_faultPlace_4] at h
      refine lv_iload_n hx hb dX3_faultPlace_4 rfl (lv_at hl 2 rfl) ?_
      refine lv_aload_n hx hb dX3_faultPlace_5 rfl (lv_at hl 0 rfl) ?_
      obtain ⟨fs2, y3, hfs2, hvfs2, h⟩ := h
      refine x_get G hP hfs2 hvfs2 fl_X3_15 dX3_faultPlace_6 ?_
      refine lv_icmp_ge (tgt := 36) hx hb dX3_faultPlace_9 (by decide) (fun c4 => ?_) (fun c4 => ?_)
      · have h := h.1 c4
        refine lv_iload_n hx hb dX3_faultPlace_36 rfl (lv_at hl 1 rfl) ?_
        refine lv_if_ne (tgt := 45) hx hb dX3_faultPlace_37 (by decide) (fun c5 => ?_) (fun c5 => ?_)
        · have h := h.1 c5
          refine lv_aload_n hx hb dX3_faultPlace_45 rfl (lv_at hl 0 rfl) ?_
          obtain ⟨fs6, y7, hfs6, hvfs6, h⟩ := h
          refine x_get G hP hfs6 hvfs6 fl_X3_15 dX3_faultPlace_46 ?_
          exact x_iretR G hr hlk h dX3_faultPlace_49
        · have h := h.2 c5
          refine lv_bipush (v := (-6 : Int32)) hx hb dX3_faultPlace_40 (by decide) ?_
          refine lv_goto (tgt := 49) hx hb dX3_faultPlace_42 (by decide) ?_
          exact x_iretR G hr hlk h dX3_faultPlace_49
      · have h := h.2 c4
        refine lv_iload_n hx hb dX3_faultPlace_12 rfl (lv_at hl 1 rfl) ?_
        refine lv_aload_n hx hb dX3_faultPlace_13 rfl (lv_at hl 0 rfl) ?_
        obtain ⟨fs8, y9, hfs8, hvfs8, h⟩ := h
        refine x_get G hP hfs8 hvfs8 fl_X3_9 dX3_faultPlace_14 ?_
        refine lv_iload_n hx hb dX3_faultPlace_17 rfl (lv_at hl 2 rfl) ?_
        obtain ⟨n10, f11, hf11, hif11, h⟩ := h
        refine x_iald G hP hf11 hif11 dX3_faultPlace_18 ?_
        refine x_cRSi (As := [.int b4_1, .int (f11 b4_2.toNatClampNeg)]) (rest := []) G hP (c_X3_wantedBehind l D kA _ _ b4_1 (f11 b4_2.toNatClampNeg) h) cd_X3_wantedBehind ml_X3_19 ⟨(Nat.le_of_ble_eq_true rfl), (Nat.le_of_ble_eq_true rfl)⟩ rfl hl.1 rfl (Nat.le_of_ble_eq_true rfl) dX3_faultPlace_19 ⟨Nat.zero_le _, Nat.zero_le _⟩ (fun r12 h => ?_)
        refine lv_istore_n (lv' := [(1, .int r12), (0, .ref v0), (2, .int b4_2)]) hx hb dX3_faultPlace_22 rfl hl (by decide) rfl (fun ls hl => ?_)
        refine lv_iload_n hx hb dX3_faultPlace_23 rfl (lv_at hl 0 rfl) ?_
        refine lv_iconst (v := (3 : Int32)) hx hb dX3_faultPlace_24 (by decide) ?_
        refine lv_icmp_ne (tgt := 30) hx hb dX3_faultPlace_25 (by decide) (fun c13 => ?_) (fun c13 => ?_)
        · have h := h.1 c13
          obtain ⟨x14, ex14⟩ : ∃ y : Int32, y = b4_2 + (1 : Int32) := ⟨_, rfl⟩
          have h := h x14 ex14
          refine lv_iinc (v := x14) (lv' := [(2, .int x14), (1, .int r12), (0, .ref v0)]) hx hb dX3_faultPlace_30 hl (k := 2) rfl (by rw [ex14]; rfl) (by decide) rfl (fun ls hl => ?_)
          refine lv_goto (tgt := 4) hx hb dX3_faultPlace_33 (by decide) ?_
          exact ih_4 _ _ h ls (lv_sub hl [2, 1, 0] rfl)
        · have h := h.2 c13
          refine lv_iload_n hx hb dX3_faultPlace_28 rfl (lv_at hl 2 rfl) ?_
          exact x_iretR G hr hlk h dX3_faultPlace_29
  refine lv_iconst (v := (0 : Int32)) hx hb dX3_faultPlace_0 (by decide) ?_
  refine lv_istore_n (lv' := [(1, .int (0 : Int32)), (0, .ref v0)]) hx hb dX3_faultPlace_1 rfl hl (by decide) rfl (fun ls hl => ?_)
  refine lv_iconst (v := (0 : Int32)) hx hb dX3_faultPlace_2 (by decide) ?_
  refine lv_istore_n (lv' := [(2, .int (0 : Int32)), (1, .int (0 : Int32)), (0, .ref v0)]) hx hb dX3_faultPlace_3 rfl hl (by decide) rfl (fun ls hl => ?_)
  obtain ⟨n1, h⟩ := h
  exact J_4 n1 _ _ h ls (lv_sub hl [2, 1, 0] rfl)
def wp_X5_init (post : Hp → Prop) (mc ms : Nat) (X : Hp) (v0 : Nat) : Prop := ∃ (fs1 : List Value), Hs X v0 (.inr (5, fs1)) ∧ 0 < fs1.length ∧ ∀ X2 : Hp, X2 = hput X v0 (.inr (5, fs1.set 0 (.int (49 : Int32)))) → 0 + 1 ≤ mc ∧ 0 + 1029 ≤ ms ∧ ∀ q3 : Nat, q3 ∉ X2.1 → ∀ X4 : Hp, X4 = hadd X2 q3 (.inl (0, 1029, .inl (fun _ => 0))) → ∃ (fs5 : List Value), Hs X4 v0 (.inr (5, fs5)) ∧ 1 < fs5.length ∧ ∀ X6 : Hp, X6 = hput X4 v0 (.inr (5, fs5.set 1 (.ref q3))) → (0 + 1) ≤ mc ∧ (0 + 1029) ≤ ms ∧ post X6
set_option maxHeartbeats 4000000 in
set_option maxRecDepth 100000 in
theorem c_X5_init (l : Launch) (D : va_G) (kA : Nat → ClassId) (post : Hp → Prop) (mc ms : Nat) (X : Hp) (sz : Nat) (v0 : Nat) (h : wp_X5_init post mc ms X v0) : Met l yX5_init (.code yX5_init cX5_init 1 none :: gd) (rmO 1 mc ms 21) (va_Pc [Value.ref v0] (PreM D kA X sz)) (va_Qv post (PoM D kA X sz) (va_A (hw kA X) sz)) mc ms (va_A (hw kA X) sz) := by
  unfold wp_X5_init at h
  refine x_enM (by decide) (Nat.le_of_ble_eq_true rfl) ?_
  intro p e s m below meth c G hr hlk hin hsz hA S ls hl
  obtain ⟨hx, hb, hml, hown, hts, hE, hK⟩ := id G
  have hl : lv_has ls 1 [(0, .ref v0)] := hl
  refine lv_aload_n hx hb dX5_init_0 rfl (lv_at hl 0 rfl) ?_
  refine x_objInit G mk_X5_3 oi_ins oi_cod hl.1 dX5_init_1 (Nat.le_of_ble_eq_true rfl) (Nat.le_of_ble_eq_true rfl) ?_
  refine lv_aload_n hx hb dX5_init_4 rfl (lv_at hl 0 rfl) ?_
  refine lv_bipush (v := (49 : Int32)) hx hb dX5_init_5 (by decide) ?_
  obtain ⟨fs1, hfs1, hkfs1, h⟩ := h
  have h := h _ rfl
  refine x_put G S hfs1 hkfs1 rfl rfl fw_X5_11 dX5_init_7 (fun H locs S => ?_)
  refine lv_aload_n hx hb dX5_init_10 rfl (lv_at hl 0 rfl) ?_
  refine lv_sipush (v := (1029 : Int32)) hx hb dX5_init_11 (by decide) ?_
  obtain ⟨hc1, hc2, h⟩ := h
  refine x_newa (atype := .int) (t := 0) (N' := 1029) G S hA ac_int rfl rfl (fun z => z) rfl (by decide) (by decide) (Nat.le_of_ble_eq_true rfl) hc1 hc2 dX5_init_14 (fun q3 H hq3 S => ?_)
  have h := h q3 hq3 _ rfl
  obtain ⟨fs5, hfs5, hkfs5, h⟩ := h
  have h := h _ rfl
  refine x_putF G hin S hfs5 hkfs5 rfl rfl ff_X5_15 dX5_init_16 (fun H locs S => ?_)
  obtain ⟨hk1, hk2, h⟩ := h
  exact x_vretM G hr hlk S hk1 hk2 h dX5_init_19
def wp_X5_at (post : Int32 → Prop) (X : Hp) (v0 : Nat) (v1 : Int32) : Prop := (v1 < 0 → post (0 : Int32)) ∧ (¬ v1 < 0 → ∃ (fs2 : List Value) (y3 : Nat), Hs X v0 (.inr (5, fs2)) ∧ fs2[1]? = some (.ref y3) ∧ ∃ (n4 : Nat) (z5 : (Nat → Int32) ⊕ (Nat → Int64) ⊕ (Nat → UInt32) ⊕ (Nat → UInt64) ⊕ (Nat → Option Nat)), Hs X y3 (.inl (0, n4, z5)) ∧ ((nI n4) ≤ v1 → post (0 : Int32)) ∧ (¬ (nI n4) ≤ v1 → ∃ (fs7 : List Value) (y8 : Nat), Hs X v0 (.inr (5, fs7)) ∧ fs7[1]? = some (.ref y8) ∧ ∃ (n9 : Nat) (f10 : Nat → Int32), Hs X y8 (.inl (0, n9, .inl f10)) ∧ vp_in v1 n9 ∧ post (f10 v1.toNatClampNeg)))
set_option maxHeartbeats 4000000 in
set_option maxRecDepth 100000 in
theorem c_X5_at (l : Launch) (D : va_G) (kA : Nat → ClassId) (post : Int32 → Prop) (X : Hp) (v0 : Nat) (v1 : Int32) (h : wp_X5_at post X v0 v1) : Met l yX5_at (.code yX5_at cX5_at 2 (some .int) :: gd) (rmO 0 0 0 0) (va_Pc [Value.ref v0, Value.int v1] (Pre D kA X)) (vp_Si post) 0 0 (fun _ => False) := by
  unfold wp_X5_at at h
  refine x_enR (by decide) (Nat.le_of_ble_eq_true rfl) ?_
  intro p e s m below meth c G hr hlk hP ls hl
  obtain ⟨hx, hb, hml, hown, hts, hE, hK⟩ := id G
  have hl : lv_has ls 2 [(0, .ref v0), (1, .int v1)] := hl
  refine lv_iload_n hx hb dX5_at_0 rfl (lv_at hl 1 rfl) ?_
  refine lv_if_lt (tgt := 22) hx hb dX5_at_1 (by decide) (fun c1 => ?_) (fun c1 => ?_)
  · have h := h.1 c1
    refine lv_iconst (v := (0 : Int32)) hx hb dX5_at_22 (by decide) ?_
    exact x_iretR G hr hlk h dX5_at_23
  · have h := h.2 c1
    refine lv_iload_n hx hb dX5_at_4 rfl (lv_at hl 1 rfl) ?_
    refine lv_aload_n hx hb dX5_at_5 rfl (lv_at hl 0 rfl) ?_
    obtain ⟨fs2, y3, hfs2, hvfs2, h⟩ := h
    refine x_get G hP hfs2 hvfs2 fl_X5_15 dX5_at_6 ?_
    obtain ⟨n4, z5, hz5, h⟩ := h
    refine x_alen G hP hz5 rfl dX5_at_9 ?_
    refine lv_icmp_ge (tgt := 22) hx hb dX5_at_10 (by decide) (fun c6 => ?_) (fun c6 => ?_)
    · have h := h.1 c6
      refine lv_iconst (v := (0 : Int32)) hx hb dX5_at_22 (by decide) ?_
      exact x_iretR G hr hlk h dX5_at_23
    · have h := h.2 c6
      refine lv_aload_n hx hb dX5_at_13 rfl (lv_at hl 0 rfl) ?_
      obtain ⟨fs7, y8, hfs7, hvfs7, h⟩ := h
      refine x_get G hP hfs7 hvfs7 fl_X5_15 dX5_at_14 ?_
      refine lv_iload_n hx hb dX5_at_17 rfl (lv_at hl 1 rfl) ?_
      obtain ⟨n9, f10, hf10, hif10, h⟩ := h
      refine x_iald G hP hf10 hif10 dX5_at_18 ?_
      refine lv_goto (tgt := 23) hx hb dX5_at_19 (by decide) ?_
      exact x_iretR G hr hlk h dX5_at_23
def wp_X5_put (post : Hp → Prop) (X : Hp) (v0 : Nat) (v1 : Int32) (v2 : Int32) : Prop := (v1 < 0 → post X) ∧ (¬ v1 < 0 → ∃ (fs2 : List Value) (y3 : Nat), Hs X v0 (.inr (5, fs2)) ∧ fs2[1]? = some (.ref y3) ∧ ∃ (n4 : Nat) (z5 : (Nat → Int32) ⊕ (Nat → Int64) ⊕ (Nat → UInt32) ⊕ (Nat → UInt64) ⊕ (Nat → Option Nat)), Hs X y3 (.inl (0, n4, z5)) ∧ ((nI n4) ≤ v1 → post X) ∧ (¬ (nI n4) ≤ v1 → ∃ (fs7 : List Value) (y8 : Nat), Hs X v0 (.inr (5, fs7)) ∧ fs7[1]? = some (.ref y8) ∧ ∃ (n9 : Nat) (f10 : Nat → Int32), Hs X y8 (.inl (0, n9, .inl f10)) ∧ vp_in v1 n9 ∧ ∀ X11 : Hp, X11 = hput X y8 (.inl (0, n9, .inl (upd f10 v1.toNatClampNeg v2))) → post X11))
set_option maxHeartbeats 4000000 in
set_option maxRecDepth 100000 in
theorem c_X5_put (l : Launch) (D : va_G) (kA : Nat → ClassId) (post : Hp → Prop) (X : Hp) (sz : Nat) (v0 : Nat) (v1 : Int32) (v2 : Int32) (h : wp_X5_put post X v0 v1 v2) : Met l yX5_put (.code yX5_put cX5_put 3 none :: gd) (rmO 0 0 0 0) (va_Pc [Value.ref v0, Value.int v1, Value.int v2] (PreM D kA X sz)) (va_Qv post (PoM D kA X sz) (va_A (hw kA X) sz)) 0 0 (va_A (hw kA X) sz) := by
  unfold wp_X5_put at h
  refine x_enM (by decide) (Nat.le_of_ble_eq_true rfl) ?_
  intro p e s m below meth c G hr hlk hin hsz hA S ls hl
  obtain ⟨hx, hb, hml, hown, hts, hE, hK⟩ := id G
  have hl : lv_has ls 3 [(0, .ref v0), (1, .int v1), (2, .int v2)] := hl
  refine lv_iload_n hx hb dX5_put_0 rfl (lv_at hl 1 rfl) ?_
  refine lv_if_lt (tgt := 20) hx hb dX5_put_1 (by decide) (fun c1 => ?_) (fun c1 => ?_)
  · have h := h.1 c1
    exact x_vretM G hr hlk S (Nat.le_refl _) (Nat.le_refl _) h dX5_put_20
  · have h := h.2 c1
    refine lv_iload_n hx hb dX5_put_4 rfl (lv_at hl 1 rfl) ?_
    refine lv_aload_n hx hb dX5_put_5 rfl (lv_at hl 0 rfl) ?_
    obtain ⟨fs2, y3, hfs2, hvfs2, h⟩ := h
    refine x_get G S.1 hfs2 hvfs2 fl_X5_15 dX5_put_6 ?_
    obtain ⟨n4, z5, hz5, h⟩ := h
    refine x_alen G S.1 hz5 rfl dX5_put_9 ?_
    refine lv_icmp_ge (tgt := 20) hx hb dX5_put_10 (by decide) (fun c6 => ?_) (fun c6 => ?_)
    · have h := h.1 c6
      exact x_vretM G hr hlk S (Nat.le_refl _) (Nat.le_refl _) h dX5_put_20
    · have h := h.2 c6
      refine lv_aload_n hx hb dX5_put_13 rfl (lv_at hl 0 rfl) ?_
      obtain ⟨fs7, y8, hfs7, hvfs7, h⟩ := h
      refine x_get G S.1 hfs7 hvfs7 fl_X5_15 dX5_put_14 ?_
      refine lv_iload_n hx hb dX5_put_17 rfl (lv_at hl 1 rfl) ?_
      refine lv_iload_n hx hb dX5_put_18 rfl (lv_at hl 2 rfl) ?_
      obtain ⟨n9, f10, hf10, hif10, h⟩ := h
      have h := h _ rfl
      refine x_iast G S hf10 hif10 dX5_put_19 (fun H locs S => ?_)
      exact x_vretM G hr hlk S (Nat.le_refl _) (Nat.le_refl _) h dX5_put_20
def wp_X7_init (post : Hp → Prop) (mc ms : Nat) (X : Hp) (v0 : Nat) : Prop := 0 + 1 ≤ mc ∧ 0 + 60 ≤ ms ∧ ∀ q1 : Nat, q1 ∉ X.1 → ∀ X2 : Hp, X2 = hadd X q1 (.inl (0, 60, .inl (fun _ => 0))) → ∃ (fs3 : List Value), Hs X2 v0 (.inr (7, fs3)) ∧ 1 < fs3.length ∧ ∀ X4 : Hp, X4 = hput X2 v0 (.inr (7, fs3.set 1 (.ref q1))) → (0 + 1) + 1 ≤ mc ∧ (0 + 60) + 60 ≤ ms ∧ ∀ q5 : Nat, q5 ∉ X4.1 → ∀ X6 : Hp, X6 = hadd X4 q5 (.inl (0, 60, .inl (fun _ => 0))) → ∃ (fs7 : List Value), Hs X6 v0 (.inr (7, fs7)) ∧ 2 < fs7.length ∧ ∀ X8 : Hp, X8 = hput X6 v0 (.inr (7, fs7.set 2 (.ref q5))) → ((0 + 1) + 1) ≤ mc ∧ ((0 + 60) + 60) ≤ ms ∧ post X8
set_option maxHeartbeats 4000000 in
set_option maxRecDepth 100000 in
theorem c_X7_init (l : Launch) (D : va_G) (kA : Nat → ClassId) (post : Hp → Prop) (mc ms : Nat) (X : Hp) (sz : Nat) (v0 : Nat) (h : wp_X7_init post mc ms X v0) : Met l yX7_init (.code yX7_init cX7_init 1 none :: gd) (rmO 1 mc ms 21) (va_Pc [Value.ref v0] (PreM D kA X sz)) (va_Qv post (PoM D kA X sz) (va_A (hw kA X) sz)) mc ms (va_A (hw kA X) sz) := by
  unfold wp_X7_init at h
  refine x_enM (by decide) (Nat.le_of_ble_eq_true rfl) ?_
  intro p e s m below meth c G hr hlk hin hsz hA S ls hl
  obtain ⟨hx, hb, hml, hown, hts, hE, hK⟩ := id G
  have hl : lv_has ls 1 [(0, .ref v0)] := hl
  refine lv_aload_n hx hb dX7_init_0 rfl (lv_at hl 0 rfl) ?_
  refine x_objInit G mk_X7_3 oi_ins oi_cod hl.1 dX7_init_1 (Nat.le_of_ble_eq_true rfl) (Nat.le_of_ble_eq_true rfl) ?_
  refine lv_aload_n hx hb dX7_init_4 rfl (lv_at hl 0 rfl) ?_
  refine lv_bipush (v := (60 : Int32)) hx hb dX7_init_5 (by decide) ?_
  obtain ⟨hc1, hc2, h⟩ := h
  refine x_newa (atype := .int) (t := 0) (N' := 60) G S hA ac_int rfl rfl (fun z => z) rfl (by decide) (by decide) (Nat.le_of_ble_eq_true rfl) hc1 hc2 dX7_init_7 (fun q1 H hq1 S => ?_)
  have h := h q1 hq1 _ rfl
  obtain ⟨fs3, hfs3, hkfs3, h⟩ := h
  have h := h _ rfl
  refine x_putF G hin S hfs3 hkfs3 rfl rfl ff_X7_9 dX7_init_9 (fun H locs S => ?_)
  refine lv_aload_n hx hb dX7_init_12 rfl (lv_at hl 0 rfl) ?_
  refine lv_bipush (v := (60 : Int32)) hx hb dX7_init_13 (by decide) ?_
  obtain ⟨hc1, hc2, h⟩ := h
  refine x_newa (atype := .int) (t := 0) (N' := 60) G S hA ac_int rfl rfl (fun z => z) rfl (by decide) (by decide) (Nat.le_of_ble_eq_true rfl) hc1 hc2 dX7_init_15 (fun q5 H hq5 S => ?_)
  have h := h q5 hq5 _ rfl
  obtain ⟨fs7, hfs7, hkfs7, h⟩ := h
  have h := h _ rfl
  refine x_putF G hin S hfs7 hkfs7 rfl rfl ff_X7_15 dX7_init_17 (fun H locs S => ?_)
  obtain ⟨hk1, hk2, h⟩ := h
  exact x_vretM G hr hlk S hk1 hk2 h dX7_init_20
def wp_X7_pass (post : Hp → Prop) (X : Hp) (v0 : Nat) (v1 : Int32) (v2 : Int32) : Prop := ∃ (fs1 : List Value) (y2 : Int32), Hs X v0 (.inr (7, fs1)) ∧ fs1[0]? = some (.int y2) ∧ ((60 : Int32) ≤ y2 → post X) ∧ (¬ (60 : Int32) ≤ y2 → ∃ (fs4 : List Value) (y5 : Nat), Hs X v0 (.inr (7, fs4)) ∧ fs4[1]? = some (.ref y5) ∧ ∃ (fs6 : List Value) (y7 : Int32), Hs X v0 (.inr (7, fs6)) ∧ fs6[0]? = some (.int y7) ∧ ∃ (n8 : Nat) (f9 : Nat → Int32), Hs X y5 (.inl (0, n8, .inl f9)) ∧ vp_in y7 n8 ∧ ∀ X10 : Hp, X10 = hput X y5 (.inl (0, n8, .inl (upd f9 y7.toNatClampNeg v1))) → ∃ (fs11 : List Value) (y12 : Nat), Hs X10 v0 (.inr (7, fs11)) ∧ fs11[2]? = some (.ref y12) ∧ ∃ (fs13 : List Value) (y14 : Int32), Hs X10 v0 (.inr (7, fs13)) ∧ fs13[0]? = some (.int y14) ∧ ∃ (n15 : Nat) (f16 : Nat → Int32), Hs X10 y12 (.inl (0, n15, .inl f16)) ∧ vp_in y14 n15 ∧ ∀ X17 : Hp, X17 = hput X10 y12 (.inl (0, n15, .inl (upd f16 y14.toNatClampNeg v2))) → ∃ (fs18 : List Value) (y19 : Int32), Hs X17 v0 (.inr (7, fs18)) ∧ fs18[0]? = some (.int y19) ∧ ∃ (fs20 : List Value), Hs X17 v0 (.inr (7, fs20)) ∧ 0 < fs20.length ∧ ∀ X21 : Hp, X21 = hput X17 v0 (.inr (7, fs20.set 0 (.int (y19 + (1 : Int32))))) → post X21)
set_option maxHeartbeats 4000000 in
set_option maxRecDepth 100000 in
theorem c_X7_pass (l : Launch) (D : va_G) (kA : Nat → ClassId) (post : Hp → Prop) (X : Hp) (sz : Nat) (v0 : Nat) (v1 : Int32) (v2 : Int32) (h : wp_X7_pass post X v0 v1 v2) : Met l yX7_pass (.code yX7_pass cX7_pass 3 none :: gd) (rmO 0 0 0 0) (va_Pc [Value.ref v0, Value.int v1, Value.int v2] (PreM D kA X sz)) (va_Qv post (PoM D kA X sz) (va_A (hw kA X) sz)) 0 0 (va_A (hw kA X) sz) := by
  unfold wp_X7_pass at h
  refine x_enM (by decide) (Nat.le_of_ble_eq_true rfl) ?_
  intro p e s m below meth c G hr hlk hin hsz hA S ls hl
  obtain ⟨hx, hb, hml, hown, hts, hE, hK⟩ := id G
  have hl : lv_has ls 3 [(0, .ref v0), (1, .int v1), (2, .int v2)] := hl
  refine lv_aload_n hx hb dX7_pass_0 rfl (lv_at hl 0 rfl) ?_
  obtain ⟨fs1, y2, hfs1, hvfs1, h⟩ := h
  refine x_get G S.1 hfs1 hvfs1 fl_X7_18 dX7_pass_1 ?_
  refine lv_bipush (v := (60 : Int32)) hx hb dX7_pass_4 (by decide) ?_
  refine lv_icmp_ge (tgt := 39) hx hb dX7_pass_6 (by decide) (fun c3 => ?_) (fun c3 => ?_)
  · have h := h.1 c3
    exact x_vretM G hr hlk S (Nat.le_refl _) (Nat.le_refl _) h dX7_pass_39
  · have h := h.2 c3
    refine lv_aload_n hx hb dX7_pass_9 rfl (lv_at hl 0 rfl) ?_
    obtain ⟨fs4, y5, hfs4, hvfs4, h⟩ := h
    refine x_get G S.1 hfs4 hvfs4 fl_X7_9 dX7_pass_10 ?_
    refine lv_aload_n hx hb dX7_pass_13 rfl (lv_at hl 0 rfl) ?_
    obtain ⟨fs6, y7, hfs6, hvfs6, h⟩ := h
    refine x_get G S.1 hfs6 hvfs6 fl_X7_18 dX7_pass_14 ?_
    refine lv_iload_n hx hb dX7_pass_17 rfl (lv_at hl 1 rfl) ?_
    obtain ⟨n8, f9, hf9, hif9, h⟩ := h
    have h := h _ rfl
    refine x_iast G S hf9 hif9 dX7_pass_18 (fun H locs S => ?_)
    refine lv_aload_n hx hb dX7_pass_19 rfl (lv_at hl 0 rfl) ?_
    obtain ⟨fs11, y12, hfs11, hvfs11, h⟩ := h
    refine x_get G S.1 hfs11 hvfs11 fl_X7_15 dX7_pass_20 ?_
    refine lv_aload_n hx hb dX7_pass_23 rfl (lv_at hl 0 rfl) ?_
    obtain ⟨fs13, y14, hfs13, hvfs13, h⟩ := h
    refine x_get G S.1 hfs13 hvfs13 fl_X7_18 dX7_pass_24 ?_
    refine lv_iload_n hx hb dX7_pass_27 rfl (lv_at hl 2 rfl) ?_
    obtain ⟨n15, f16, hf16, hif16, h⟩ := h
    have h := h _ rfl
    refine x_iast G S hf16 hif16 dX7_pass_28 (fun H locs S => ?_)
    refine lv_aload_n hx hb dX7_pass_29 rfl (lv_at hl 0 rfl) ?_
    refine lv_dup hx hb dX7_pass_30 rfl ?_
    obtain ⟨fs18, y19, hfs18, hvfs18, h⟩ := h
    refine x_get G S.1 hfs18 hvfs18 fl_X7_18 dX7_pass_31 ?_
    refine lv_iconst (v := (1 : Int32)) hx hb dX7_pass_34 (by decide) ?_
    refine lv_iadd hx hb dX7_pass_35 ?_
    obtain ⟨fs20, hfs20, hkfs20, h⟩ := h
    have h := h _ rfl
    refine x_put G S hfs20 hkfs20 rfl rfl fw_X7_18 dX7_pass_36 (fun H locs S => ?_)
    exact x_vretM G hr hlk S (Nat.le_refl _) (Nat.le_refl _) h dX7_pass_39
def wp_X9_lessened (post : Int32 → Prop) (X : Hp) (v0 : Int32) (v1 : Int32) : Prop := post ((((v0.toInt64) * (((1000000 : Int32) - v1).toInt64)) / (1000000 : Int64)).toInt32)
set_option maxHeartbeats 4000000 in
set_option maxRecDepth 100000 in
theorem c_X9_lessened (l : Launch) (D : va_G) (kA : Nat → ClassId) (post : Int32 → Prop) (X : Hp) (v0 : Int32) (v1 : Int32) (h : wp_X9_lessened post X v0 v1) : Met l yX9_lessened (.code yX9_lessened cX9_lessened 2 (some .int) :: gd) (rmO 0 0 0 0) (va_Pc [Value.int v0, Value.int v1] (Pre D kA X)) (vp_Si post) 0 0 (fun _ => False) := by
  unfold wp_X9_lessened at h
  refine x_enR (by decide) (Nat.le_of_ble_eq_true rfl) ?_
  intro p e s m below meth c G hr hlk hP ls hl
  obtain ⟨hx, hb, hml, hown, hts, hE, hK⟩ := id G
  have hl : lv_has ls 2 [(0, .int v0), (1, .int v1)] := hl
  refine lv_iload_n hx hb dX9_lessened_0 rfl (lv_at hl 0 rfl) ?_
  refine lv_i2l (v := v0.toInt64) hx hb dX9_lessened_1 rfl ?_
  refine lv_ldc hx hb hown (hts _ kc_X9_217) dX9_lessened_2 ?_
  refine lv_iload_n hx hb dX9_lessened_4 rfl (lv_at hl 1 rfl) ?_
  refine lv_isub hx hb dX9_lessened_5 ?_
  refine lv_i2l (v := ((1000000 : Int32) - v1).toInt64) hx hb dX9_lessened_6 rfl ?_
  refine lv_lmul hx hb dX9_lessened_7 ?_
  refine lv_ldc2 hx hb hown (hts _ kc_X9_238) dX9_lessened_8 ?_
  refine lv_ldiv hx hb dX9_lessened_11 (by decide) ?_
  refine lv_l2i (v := (((v0.toInt64) * (((1000000 : Int32) - v1).toInt64)) / (1000000 : Int64)).toInt32) hx hb dX9_lessened_12 rfl ?_
  exact x_iretR G hr hlk h dX9_lessened_13
def bk_X7_safe_10 (post : Int32 → Prop) (X : Hp) (v0 : Nat)  : Nat → Int32 → Int32 → Prop
  | 0, _, _ => False
  | k + 1, b10_1, b10_2 => (b10_2 < 0 → post b10_1) ∧ (¬ b10_2 < 0 → ∃ (fs6 : List Value) (y7 : Nat), Hs X v0 (.inr (7, fs6)) ∧ fs6[1]? = some (.ref y7) ∧ ∃ (n8 : Nat) (f9 : Nat → Int32), Hs X y7 (.inl (0, n8, .inl f9)) ∧ vp_in b10_2 n8 ∧ ∃ (fs10 : List Value) (y11 : Nat), Hs X v0 (.inr (7, fs10)) ∧ fs10[2]? = some (.ref y11) ∧ ∃ (n12 : Nat) (f13 : Nat → Int32), Hs X y11 (.inl (0, n12, .inl f13)) ∧ vp_in b10_2 n12 ∧ wp_X9_lessened (fun r14 => ∀ x15 : Int32, x15 = b10_2 + (-1 : Int32) → (bk_X7_safe_10 post X v0 k) r14 x15) X b10_1 ((f9 b10_2.toNatClampNeg) * (f13 b10_2.toNatClampNeg)))
def wp_X7_safe (post : Int32 → Prop) (X : Hp) (v0 : Nat) : Prop := ∃ (fs1 : List Value) (y2 : Int32), Hs X v0 (.inr (7, fs1)) ∧ fs1[0]? = some (.int y2) ∧ ∀ x3 : Int32, x3 = (y2 - (1 : Int32)) → ∃ n4 : Nat, bk_X7_safe_10 post X v0 n4 (1000000 : Int32) x3
set_option maxHeartbeats 4000000 in
set_option maxRecDepth 100000 in
theorem c_X7_safe (l : Launch) (D : va_G) (kA : Nat → ClassId) (post : Int32 → Prop) (X : Hp) (v0 : Nat) (h : wp_X7_safe post X v0) : Met l yX7_safe (.code yX7_safe cX7_safe 3 (some .int) :: gd) (rmO 1 0 0 21) (va_Pc [Value.ref v0] (Pre D kA X)) (vp_Si post) 0 0 (fun _ => False) := by
  unfold wp_X7_safe at h
  refine x_enR (by decide) (Nat.le_of_ble_eq_true rfl) ?_
  intro p e s m below meth c G hr hlk hP ls hl
  obtain ⟨hx, hb, hml, hown, hts, hE, hK⟩ := id G
  have hl : lv_has ls 3 [(0, .ref v0)] := hl
  have J_10 : ∀ (n : Nat) (b10_1 : Int32) (b10_2 : Int32), ∀ (_ : bk_X7_safe_10 post X v0  n b10_1 b10_2), ∀ ls, lv_has ls 3 [(0, .ref v0), (1, .int b10_1), (2, .int b10_2)] → W p l e (rmO 1 0 0 21) s m [Value.ref v0].toArray below meth c s.heap [] 0 0 (MQ below (vp_Si post) [Value.ref v0].toArray s 0 0 (fun _ => False)) (F0 m 10 ls []) := by
    intro n
    induction n with
    | zero =>
      intro b10_1 b10_2 h ls hl
      rw [bk_X7_safe_10] at h
      exact h.elim
    | succ n_10 ih_10 =>
      intro b10_1 b10_2 h ls hl
      rw [bk_X7_safe_10] at h
      refine lv_iload_n hx hb dX7_safe_10 rfl (lv_at hl 2 rfl) ?_
      refine lv_if_lt (tgt := 38) hx hb dX7_safe_11 (by decide) (fun c5 => ?_) (fun c5 => ?_)
      · have h := h.1 c5
        refine lv_iload_n hx hb dX7_safe_38 rfl (lv_at hl 1 rfl) ?_
        exact x_iretR G hr hlk h dX7_safe_39
      · have h := h.2 c5
        refine lv_iload_n hx hb dX7_safe_14 rfl (lv_at hl 1 rfl) ?_
        refine lv_aload_n hx hb dX7_safe_15 rfl (lv_at hl 0 rfl) ?_
        obtain ⟨fs6, y7, hfs6, hvfs6, h⟩ := h
        refine x_get G hP hfs6 hvfs6 fl_X7_9 dX7_safe_16 ?_
        refine lv_iload_n hx hb dX7_safe_19 rfl (lv_at hl 2 rfl) ?_
        obtain ⟨n8, f9, hf9, hif9, h⟩ := h
        refine x_iald G hP hf9 hif9 dX7_safe_20 ?_
        refine lv_aload_n hx hb dX7_safe_21 rfl (lv_at hl 0 rfl) ?_
        obtain ⟨fs10, y11, hfs10, hvfs10, h⟩ := h
        refine x_get G hP hfs10 hvfs10 fl_X7_15 dX7_safe_22 ?_
        refine lv_iload_n hx hb dX7_safe_25 rfl (lv_at hl 2 rfl) ?_
        obtain ⟨n12, f13, hf13, hif13, h⟩ := h
        refine x_iald G hP hf13 hif13 dX7_safe_26 ?_
        refine lv_imul hx hb dX7_safe_27 ?_
        refine x_cRSi (As := [.int b10_1, .int ((f9 b10_2.toNatClampNeg) * (f13 b10_2.toNatClampNeg))]) (rest := []) G hP (c_X9_lessened l D kA _ _ b10_1 ((f9 b10_2.toNatClampNeg) * (f13 b10_2.toNatClampNeg)) h) cd_X9_lessened ml_X7_23 ⟨(Nat.le_of_ble_eq_true rfl), (Nat.le_of_ble_eq_true rfl)⟩ rfl hl.1 rfl (Nat.le_of_ble_eq_true rfl) dX7_safe_28 ⟨Nat.zero_le _, Nat.zero_le _⟩ (fun r14 h => ?_)
        refine lv_istore_n (lv' := [(1, .int r14), (0, .ref v0), (2, .int b10_2)]) hx hb dX7_safe_31 rfl hl (by decide) rfl (fun ls hl => ?_)
        obtain ⟨x15, ex15⟩ : ∃ y : Int32, y = b10_2 + (-1 : Int32) := ⟨_, rfl⟩
        have h := h x15 ex15
        refine lv_iinc (v := x15) (lv' := [(2, .int x15), (1, .int r14), (0, .ref v0)]) hx hb dX7_safe_32 hl (k := 2) rfl (by rw [ex15]; rfl) (by decide) rfl (fun ls hl => ?_)
        refine lv_goto (tgt := 10) hx hb dX7_safe_35 (by decide) ?_
        exact ih_10 _ _ h ls (lv_sub hl [2, 1, 0] rfl)
  refine lv_ldc hx hb hown (hts _ kc_X7_22) dX7_safe_0 ?_
  refine lv_istore_n (lv' := [(1, .int (1000000 : Int32)), (0, .ref v0)]) hx hb dX7_safe_2 rfl hl (by decide) rfl (fun ls hl => ?_)
  refine lv_aload_n hx hb dX7_safe_3 rfl (lv_at hl 1 rfl) ?_
  obtain ⟨fs1, y2, hfs1, hvfs1, h⟩ := h
  refine x_get G hP hfs1 hvfs1 fl_X7_18 dX7_safe_4 ?_
  refine lv_iconst (v := (1 : Int32)) hx hb dX7_safe_7 (by decide) ?_
  refine lv_isub hx hb dX7_safe_8 ?_
  refine lv_topi (fun x3 ex3 => ?_)
  have h := h x3 ex3
  refine lv_istore_n (lv' := [(2, .int x3), (1, .int (1000000 : Int32)), (0, .ref v0)]) hx hb dX7_safe_9 rfl hl (by decide) rfl (fun ls hl => ?_)
  obtain ⟨n4, h⟩ := h
  exact J_10 n4 _ _ h ls (lv_sub hl [2, 1, 0] rfl)
def bk_X7_riskiest_48 (post : Int32 → Prop) (X : Hp) (v0 : Nat) (r_7 : Int32 → Int32 → Int32 → Prop) (b48_1 : Int32) (b48_2 : Int32) (b48_3 : Int32) : Prop := ∀ x23 : Int32, x23 = b48_3 + (1 : Int32) → r_7 b48_1 b48_2 x23
def bk_X7_riskiest_7 (post : Int32 → Prop) (X : Hp) (v0 : Nat)  : Nat → Int32 → Int32 → Int32 → Prop
  | 0, _, _, _ => False
  | k + 1, b7_1, b7_2, b7_3 => ∃ (fs2 : List Value) (y3 : Int32), Hs X v0 (.inr (7, fs2)) ∧ fs2[0]? = some (.int y3) ∧ (y3 ≤ b7_3 → post b7_1) ∧ (¬ y3 ≤ b7_3 → ∃ (fs5 : List Value) (y6 : Nat), Hs X v0 (.inr (7, fs5)) ∧ fs5[1]? = some (.ref y6) ∧ ∃ (n7 : Nat) (f8 : Nat → Int32), Hs X y6 (.inl (0, n7, .inl f8)) ∧ vp_in b7_3 n7 ∧ ∃ (fs9 : List Value) (y10 : Nat), Hs X v0 (.inr (7, fs9)) ∧ fs9[2]? = some (.ref y10) ∧ ∃ (n11 : Nat) (f12 : Nat → Int32), Hs X y10 (.inl (0, n11, .inl f12)) ∧ vp_in b7_3 n11 ∧ (((f8 b7_3.toNatClampNeg) * (f12 b7_3.toNatClampNeg)) ≤ b7_2 → bk_X7_riskiest_48 post X v0 (bk_X7_riskiest_7 post X v0 k) b7_1 b7_2 b7_3) ∧ (¬ ((f8 b7_3.toNatClampNeg) * (f12 b7_3.toNatClampNeg)) ≤ b7_2 → ∃ (fs14 : List Value) (y15 : Nat), Hs X v0 (.inr (7, fs14)) ∧ fs14[1]? = some (.ref y15) ∧ ∃ (n16 : Nat) (f17 : Nat → Int32), Hs X y15 (.inl (0, n16, .inl f17)) ∧ vp_in b7_3 n16 ∧ ∃ (fs18 : List Value) (y19 : Nat), Hs X v0 (.inr (7, fs18)) ∧ fs18[2]? = some (.ref y19) ∧ ∃ (n20 : Nat) (f21 : Nat → Int32), Hs X y19 (.inl (0, n20, .inl f21)) ∧ vp_in b7_3 n20 ∧ ∀ x22 : Int32, x22 = ((f17 b7_3.toNatClampNeg) * (f21 b7_3.toNatClampNeg)) → bk_X7_riskiest_48 post X v0 (bk_X7_riskiest_7 post X v0 k) b7_3 x22 b7_3))
def wp_X7_riskiest (post : Int32 → Prop) (X : Hp) (v0 : Nat) : Prop := ∃ n1 : Nat, bk_X7_riskiest_7 post X v0 n1 (-6 : Int32) (-1 : Int32) (0 : Int32)
set_option maxHeartbeats 4000000 in
set_option maxRecDepth 100000 in
theorem c_X7_riskiest (l : Launch) (D : va_G) (kA : Nat → ClassId) (post : Int32 → Prop) (X : Hp) (v0 : Nat) (h : wp_X7_riskiest post X v0) : Met l yX7_riskiest (.code yX7_riskiest cX7_riskiest 4 (some .int) :: gd) (rmO 0 0 0 0) (va_Pc [Value.ref v0] (Pre D kA X)) (vp_Si post) 0 0 (fun _ => False) := by
  unfold wp_X7_riskiest at h
  refine x_enR (by decide) (Nat.le_of_ble_eq_true rfl) ?_
  intro p e s m below meth c G hr hlk hP ls hl
  obtain ⟨hx, hb, hml, hown, hts, hE, hK⟩ := id G
  have hl : lv_has ls 4 [(0, .ref v0)] := hl
  have J_7 : ∀ (n : Nat) (b7_1 : Int32) (b7_2 : Int32) (b7_3 : Int32), ∀ (_ : bk_X7_riskiest_7 post X v0  n b7_1 b7_2 b7_3), ∀ ls, lv_has ls 4 [(0, .ref v0), (1, .int b7_1), (2, .int b7_2), (3, .int b7_3)] → W p l e (rmO 0 0 0 0) s m [Value.ref v0].toArray below meth c s.heap [] 0 0 (MQ below (vp_Si post) [Value.ref v0].toArray s 0 0 (fun _ => False)) (F0 m 7 ls []) := by
    intro n
    induction n with
    | zero =>
      intro b7_1 b7_2 b7_3 h ls hl
      rw [bk_X7_riskiest_7] at h
      exact h.elim
    | succ n_7 ih_7 =>
      have J_48 : ∀ (b48_1 : Int32) (b48_2 : Int32) (b48_3 : Int32), ∀ (_ : bk_X7_riskiest_48 post X v0 (bk_X7_riskiest_7 post X v0 n_7) b48_1 b48_2 b48_3), ∀ ls, lv_has ls 4 [(0, .ref v0), (1, .int b48_1), (2, .int b48_2), (3, .int b48_3)] → W p l e (rmO 0 0 0 0) s m [Value.ref v0].toArray below meth c s.heap [] 0 0 (MQ below (vp_Si post) [Value.ref v0].toArray s 0 0 (fun _ => False)) (F0 m 48 ls []) := by
        intro b48_1 b48_2 b48_3 h ls hl
        unfold bk_X7_riskiest_48 at h
        obtain ⟨x23, ex23⟩ : ∃ y : Int32, y = b48_3 + (1 : Int32) := ⟨_, rfl⟩
        have h := h x23 ex23
        refine lv_iinc (v := x23) (lv' := [(3, .int x23), (0, .ref v0), (1, .int b48_1), (2, .int b48_2)]) hx hb dX7_riskiest_48 hl (k := 3) rfl (by rw [ex23]; rfl) (by decide) rfl (fun ls hl => ?_)
        refine lv_goto (tgt := 7) hx hb dX7_riskiest_51 (by decide) ?_
        exact ih_7 _ _ _ h ls (lv_sub hl [1, 2, 3, 0] rfl)
      intro b7_1 b7_2 b7_3 h ls hl
      rw [bk_X7_riskiest_7] at h
      refine lv_iload_n hx hb dX7_riskiest_7 rfl (lv_at hl 3 rfl) ?_
      refine lv_aload_n hx hb dX7_riskiest_8 rfl (lv_at hl 0 rfl) ?_
      obtain ⟨fs2, y3, hfs2, hvfs2, h⟩ := h
      refine x_get G hP hfs2 hvfs2 fl_X7_18 dX7_riskiest_9 ?_
      refine lv_icmp_ge (tgt := 54) hx hb dX7_riskiest_12 (by decide) (fun c4 => ?_) (fun c4 => ?_)
      · have h := h.1 c4
        refine lv_iload_n hx hb dX7_riskiest_54 rfl (lv_at hl 1 rfl) ?_
        exact x_iretR G hr hlk h dX7_riskiest_55
      · have h := h.2 c4
        refine lv_aload_n hx hb dX7_riskiest_15 rfl (lv_at hl 0 rfl) ?_
        obtain ⟨fs5, y6, hfs5, hvfs5, h⟩ := h
        refine x_get G hP hfs5 hvfs5 fl_X7_9 dX7_riskiest_16 ?_
        refine lv_iload_n hx hb dX7_riskiest_19 rfl (lv_at hl 3 rfl) ?_
        obtain ⟨n7, f8, hf8, hif8, h⟩ := h
        refine x_iald G hP hf8 hif8 dX7_riskiest_20 ?_
        refine lv_aload_n hx hb dX7_riskiest_21 rfl (lv_at hl 0 rfl) ?_
        obtain ⟨fs9, y10, hfs9, hvfs9, h⟩ := h
        refine x_get G hP hfs9 hvfs9 fl_X7_15 dX7_riskiest_22 ?_
        refine lv_iload_n hx hb dX7_riskiest_25 rfl (lv_at hl 3 rfl) ?_
        obtain ⟨n11, f12, hf12, hif12, h⟩ := h
        refine x_iald G hP hf12 hif12 dX7_riskiest_26 ?_
        refine lv_imul hx hb dX7_riskiest_27 ?_
        refine lv_iload_n hx hb dX7_riskiest_28 rfl (lv_at hl 2 rfl) ?_
        refine lv_icmp_le (tgt := 48) hx hb dX7_riskiest_29 (by decide) (fun c13 => ?_) (fun c13 => ?_)
        · have h := h.1 c13
          exact J_48 _ _ _ h ls (lv_sub hl [0, 1, 2, 3] rfl)
        · have h := h.2 c13
          refine lv_aload_n hx hb dX7_riskiest_32 rfl (lv_at hl 0 rfl) ?_
          obtain ⟨fs14, y15, hfs14, hvfs14, h⟩ := h
          refine x_get G hP hfs14 hvfs14 fl_X7_9 dX7_riskiest_33 ?_
          refine lv_iload_n hx hb dX7_riskiest_36 rfl (lv_at hl 3 rfl) ?_
          obtain ⟨n16, f17, hf17, hif17, h⟩ := h
          refine x_iald G hP hf17 hif17 dX7_riskiest_37 ?_
          refine lv_aload_n hx hb dX7_riskiest_38 rfl (lv_at hl 0 rfl) ?_
          obtain ⟨fs18, y19, hfs18, hvfs18, h⟩ := h
          refine x_get G hP hfs18 hvfs18 fl_X7_15 dX7_riskiest_39 ?_
          refine lv_iload_n hx hb dX7_riskiest_42 rfl (lv_at hl 3 rfl) ?_
          obtain ⟨n20, f21, hf21, hif21, h⟩ := h
          refine x_iald G hP hf21 hif21 dX7_riskiest_43 ?_
          refine lv_imul hx hb dX7_riskiest_44 ?_
          refine lv_topi (fun x22 ex22 => ?_)
          have h := h x22 ex22
          refine lv_istore_n (lv' := [(2, .int x22), (0, .ref v0), (1, .int b7_1), (3, .int b7_3)]) hx hb dX7_riskiest_45 rfl hl (by decide) rfl (fun ls hl => ?_)
          refine lv_iload_n hx hb dX7_riskiest_46 rfl (lv_at hl 3 rfl) ?_
          refine lv_istore_n (lv' := [(1, .int b7_3), (2, .int x22), (0, .ref v0), (3, .int b7_3)]) hx hb dX7_riskiest_47 rfl hl (by decide) rfl (fun ls hl => ?_)
          exact J_48 _ _ _ h ls (lv_sub hl [2, 0, 1, 3] rfl)
  refine lv_bipush (v := (-6 : Int32)) hx hb dX7_riskiest_0 (by decide) ?_
  refine lv_istore_n (lv' := [(1, .int (-6 : Int32)), (0, .ref v0)]) hx hb dX7_riskiest_2 rfl hl (by decide) rfl (fun ls hl => ?_)
  refine lv_iconst (v := (-1 : Int32)) hx hb dX7_riskiest_3 (by decide) ?_
  refine lv_istore_n (lv' := [(2, .int (-1 : Int32)), (1, .int (-6 : Int32)), (0, .ref v0)]) hx hb dX7_riskiest_4 rfl hl (by decide) rfl (fun ls hl => ?_)
  refine lv_iconst (v := (0 : Int32)) hx hb dX7_riskiest_5 (by decide) ?_
  refine lv_istore_n (lv' := [(3, .int (0 : Int32)), (2, .int (-1 : Int32)), (1, .int (-6 : Int32)), (0, .ref v0)]) hx hb dX7_riskiest_6 rfl hl (by decide) rfl (fun ls hl => ?_)
  obtain ⟨n1, h⟩ := h
  exact J_7 n1 _ _ _ h ls (lv_sub hl [3, 2, 1, 0] rfl)
def wp_X7_drawBehind (post : Int32 → Prop) (X : Hp) (v0 : Int32) : Prop := post (((v0 * (75 : Int32)) + (74 : Int32)) - ((v0 * (75 : Int32)) + (74 : Int32)) / (65537 : Int32) * (65537 : Int32))
set_option maxHeartbeats 4000000 in
set_option maxRecDepth 100000 in
theorem c_X7_drawBehind (l : Launch) (D : va_G) (kA : Nat → ClassId) (post : Int32 → Prop) (X : Hp) (v0 : Int32) (h : wp_X7_drawBehind post X v0) : Met l yX7_drawBehind (.code yX7_drawBehind cX7_drawBehind 1 (some .int) :: gd) (rmO 0 0 0 0) (va_Pc [Value.int v0] (Pre D kA X)) (vp_Si post) 0 0 (fun _ => False) := by
  unfold wp_X7_drawBehind at h
  refine x_enR (by decide) (Nat.le_of_ble_eq_true rfl) ?_
  intro p e s m below meth c G hr hlk hP ls hl
  obtain ⟨hx, hb, hml, hown, hts, hE, hK⟩ := id G
  have hl : lv_has ls 1 [(0, .int v0)] := hl
  refine lv_iload_n hx hb dX7_drawBehind_0 rfl (lv_at hl 0 rfl) ?_
  refine lv_bipush (v := (75 : Int32)) hx hb dX7_drawBehind_1 (by decide) ?_
  refine lv_imul hx hb dX7_drawBehind_3 ?_
  refine lv_bipush (v := (74 : Int32)) hx hb dX7_drawBehind_4 (by decide) ?_
  refine lv_iadd hx hb dX7_drawBehind_6 ?_
  refine lv_ldc hx hb hown (hts _ kc_X7_31) dX7_drawBehind_7 ?_
  refine lv_irem hx hb dX7_drawBehind_9 (by decide) ?_
  exact x_iretR G hr hlk h dX7_drawBehind_10
def bk_X7_struckBy_52 (post : Int32 → Prop) (X : Hp) (v0 : Nat) (v1 : Int32) (r_4 : Int32 → Int32 → Prop) (b52_2 : Int32) (b52_3 : Int32) : Prop := ∀ x17 : Int32, x17 = b52_3 + (1 : Int32) → r_4 b52_2 x17
def bk_X7_struckBy_4 (post : Int32 → Prop) (X : Hp) (v0 : Nat) (v1 : Int32)  : Nat → Int32 → Int32 → Prop
  | 0, _, _ => False
  | k + 1, b4_2, b4_3 => ∃ (fs2 : List Value) (y3 : Int32), Hs X v0 (.inr (7, fs2)) ∧ fs2[0]? = some (.int y3) ∧ (y3 ≤ b4_3 → post (-6 : Int32)) ∧ (¬ y3 ≤ b4_3 → wp_X7_drawBehind (fun r5 => ∃ (fs6 : List Value) (y7 : Nat), Hs X v0 (.inr (7, fs6)) ∧ fs6[1]? = some (.ref y7) ∧ ∃ (n8 : Nat) (f9 : Nat → Int32), Hs X y7 (.inl (0, n8, .inl f9)) ∧ vp_in b4_3 n8 ∧ ((f9 b4_3.toNatClampNeg) ≤ (r5 - r5 / (1000 : Int32) * (1000 : Int32)) → bk_X7_struckBy_52 post X v0 v1 (bk_X7_struckBy_4 post X v0 v1 k) r5 b4_3) ∧ (¬ (f9 b4_3.toNatClampNeg) ≤ (r5 - r5 / (1000 : Int32) * (1000 : Int32)) → wp_X7_drawBehind (fun r11 => ∃ (fs12 : List Value) (y13 : Nat), Hs X v0 (.inr (7, fs12)) ∧ fs12[2]? = some (.ref y13) ∧ ∃ (n14 : Nat) (f15 : Nat → Int32), Hs X y13 (.inl (0, n14, .inl f15)) ∧ vp_in b4_3 n14 ∧ ((f15 b4_3.toNatClampNeg) ≤ (r11 - r11 / (1000 : Int32) * (1000 : Int32)) → bk_X7_struckBy_52 post X v0 v1 (bk_X7_struckBy_4 post X v0 v1 k) r11 b4_3) ∧ (¬ (f15 b4_3.toNatClampNeg) ≤ (r11 - r11 / (1000 : Int32) * (1000 : Int32)) → post b4_3)) X r5)) X b4_2)
def wp_X7_struckBy (post : Int32 → Prop) (X : Hp) (v0 : Nat) (v1 : Int32) : Prop := ∃ n1 : Nat, bk_X7_struckBy_4 post X v0 v1 n1 v1 (0 : Int32)
set_option maxHeartbeats 4000000 in
set_option maxRecDepth 100000 in
theorem c_X7_struckBy (l : Launch) (D : va_G) (kA : Nat → ClassId) (post : Int32 → Prop) (X : Hp) (v0 : Nat) (v1 : Int32) (h : wp_X7_struckBy post X v0 v1) : Met l yX7_struckBy (.code yX7_struckBy cX7_struckBy 4 (some .int) :: gd) (rmO 1 0 0 20) (va_Pc [Value.ref v0, Value.int v1] (Pre D kA X)) (vp_Si post) 0 0 (fun _ => False) := by
  unfold wp_X7_struckBy at h
  refine x_enR (by decide) (Nat.le_of_ble_eq_true rfl) ?_
  intro p e s m below meth c G hr hlk hP ls hl
  obtain ⟨hx, hb, hml, hown, hts, hE, hK⟩ := id G
  have hl : lv_has ls 4 [(0, .ref v0), (1, .int v1)] := hl
  have J_4 : ∀ (n : Nat) (b4_2 : Int32) (b4_3 : Int32), ∀ (_ : bk_X7_struckBy_4 post X v0 v1  n b4_2 b4_3), ∀ ls, lv_has ls 4 [(0, .ref v0), (2, .int b4_2), (3, .int b4_3)] → W p l e (rmO 1 0 0 20) s m [Value.ref v0, Value.int v1].toArray below meth c s.heap [] 0 0 (MQ below (vp_Si post) [Value.ref v0, Value.int v1].toArray s 0 0 (fun _ => False)) (F0 m 4 ls []) := by
    intro n
    induction n with
    | zero =>
      intro b4_2 b4_3 h ls hl
      rw [bk_X7_struckBy_4] at h
      exact h.elim
    | succ n_4 ih_4 =>
      have J_52 : ∀ (b52_2 : Int32) (b52_3 : Int32), ∀ (_ : bk_X7_struckBy_52 post X v0 v1 (bk_X7_struckBy_4 post X v0 v1 n_4) b52_2 b52_3), ∀ ls, lv_has ls 4 [(0, .ref v0), (2, .int b52_2), (3, .int b52_3)] → W p l e (rmO 1 0 0 20) s m [Value.ref v0, Value.int v1].toArray below meth c s.heap [] 0 0 (MQ below (vp_Si post) [Value.ref v0, Value.int v1].toArray s 0 0 (fun _ => False)) (F0 m 52 ls []) := by
        intro b52_2 b52_3 h ls hl
        unfold bk_X7_struckBy_52 at h
        obtain ⟨x17, ex17⟩ : ∃ y : Int32, y = b52_3 + (1 : Int32) := ⟨_, rfl⟩
        have h := h x17 ex17
        refine lv_iinc (v := x17) (lv' := [(3, .int x17), (0, .ref v0), (2, .int b52_2)]) hx hb dX7_struckBy_52 hl (k := 2) rfl (by rw [ex17]; rfl) (by decide) rfl (fun ls hl => ?_)
        refine lv_goto (tgt := 4) hx hb dX7_struckBy_55 (by decide) ?_
        exact ih_4 _ _ h ls (lv_sub hl [1, 2, 0] rfl)
      intro b4_2 b4_3 h ls hl
      rw [bk_X7_struckBy_4] at h
      refine lv_iload_n hx hb dX7_struckBy_4 rfl (lv_at hl 2 rfl) ?_
      refine lv_aload_n hx hb dX7_struckBy_5 rfl (lv_at hl 0 rfl) ?_
      obtain ⟨fs2, y3, hfs2, hvfs2, h⟩ := h
      refine x_get G hP hfs2 hvfs2 fl_X7_18 dX7_struckBy_6 ?_
      refine lv_icmp_ge (tgt := 58) hx hb dX7_struckBy_9 (by decide) (fun c4 => ?_) (fun c4 => ?_)
      · have h := h.1 c4
        refine lv_bipush (v := (-6 : Int32)) hx hb dX7_struckBy_58 (by decide) ?_
        exact x_iretR G hr hlk h dX7_struckBy_60
      · have h := h.2 c4
        refine lv_iload_n hx hb dX7_struckBy_12 rfl (lv_at hl 1 rfl) ?_
        refine x_cRSi (As := [.int b4_2]) (rest := []) G hP (c_X7_drawBehind l D kA _ _ b4_2 h) cd_X7_drawBehind ml_X7_27 ⟨(Nat.le_of_ble_eq_true rfl), (Nat.le_of_ble_eq_true rfl)⟩ rfl hl.1 rfl (Nat.le_of_ble_eq_true rfl) dX7_struckBy_13 ⟨Nat.zero_le _, Nat.zero_le _⟩ (fun r5 h => ?_)
        refine lv_istore_n (lv' := [(2, .int r5), (0, .ref v0), (3, .int b4_3)]) hx hb dX7_struckBy_16 rfl hl (by decide) rfl (fun ls hl => ?_)
        refine lv_iload_n hx hb dX7_struckBy_17 rfl (lv_at hl 0 rfl) ?_
        refine lv_sipush (v := (1000 : Int32)) hx hb dX7_struckBy_18 (by decide) ?_
        refine lv_irem hx hb dX7_struckBy_21 (by decide) ?_
        refine lv_aload_n hx hb dX7_struckBy_22 rfl (lv_at hl 1 rfl) ?_
        obtain ⟨fs6, y7, hfs6, hvfs6, h⟩ := h
        refine x_get G hP hfs6 hvfs6 fl_X7_9 dX7_struckBy_23 ?_
        refine lv_iload_n hx hb dX7_struckBy_26 rfl (lv_at hl 2 rfl) ?_
        obtain ⟨n8, f9, hf9, hif9, h⟩ := h
        refine x_iald G hP hf9 hif9 dX7_struckBy_27 ?_
        refine lv_icmp_ge (tgt := 52) hx hb dX7_struckBy_28 (by decide) (fun c10 => ?_) (fun c10 => ?_)
        · have h := h.1 c10
          exact J_52 _ _ h ls (lv_sub hl [1, 0, 2] rfl)
        · have h := h.2 c10
          refine lv_iload_n hx hb dX7_struckBy_31 rfl (lv_at hl 0 rfl) ?_
          refine x_cRSi (As := [.int r5]) (rest := []) G hP (c_X7_drawBehind l D kA _ _ r5 h) cd_X7_drawBehind ml_X7_27 ⟨(Nat.le_of_ble_eq_true rfl), (Nat.le_of_ble_eq_true rfl)⟩ rfl hl.1 rfl (Nat.le_of_ble_eq_true rfl) dX7_struckBy_32 ⟨Nat.zero_le _, Nat.zero_le _⟩ (fun r11 h => ?_)
          refine lv_istore_n (lv' := [(2, .int r11), (0, .ref v0), (3, .int b4_3)]) hx hb dX7_struckBy_35 rfl hl (by decide) rfl (fun ls hl => ?_)
          refine lv_iload_n hx hb dX7_struckBy_36 rfl (lv_at hl 0 rfl) ?_
          refine lv_sipush (v := (1000 : Int32)) hx hb dX7_struckBy_37 (by decide) ?_
          refine lv_irem hx hb dX7_struckBy_40 (by decide) ?_
          refine lv_aload_n hx hb dX7_struckBy_41 rfl (lv_at hl 1 rfl) ?_
          obtain ⟨fs12, y13, hfs12, hvfs12, h⟩ := h
          refine x_get G hP hfs12 hvfs12 fl_X7_15 dX7_struckBy_42 ?_
          refine lv_iload_n hx hb dX7_struckBy_45 rfl (lv_at hl 2 rfl) ?_
          obtain ⟨n14, f15, hf15, hif15, h⟩ := h
          refine x_iald G hP hf15 hif15 dX7_struckBy_46 ?_
          refine lv_icmp_ge (tgt := 52) hx hb dX7_struckBy_47 (by decide) (fun c16 => ?_) (fun c16 => ?_)
          · have h := h.1 c16
            exact J_52 _ _ h ls (lv_sub hl [1, 0, 2] rfl)
          · have h := h.2 c16
            refine lv_iload_n hx hb dX7_struckBy_50 rfl (lv_at hl 2 rfl) ?_
            exact x_iretR G hr hlk h dX7_struckBy_51
  refine lv_iload_n hx hb dX7_struckBy_0 rfl (lv_at hl 1 rfl) ?_
  refine lv_istore_n (lv' := [(2, .int v1), (0, .ref v0), (1, .int v1)]) hx hb dX7_struckBy_1 rfl hl (by decide) rfl (fun ls hl => ?_)
  refine lv_iconst (v := (0 : Int32)) hx hb dX7_struckBy_2 (by decide) ?_
  refine lv_istore_n (lv' := [(3, .int (0 : Int32)), (2, .int v1), (0, .ref v0), (1, .int v1)]) hx hb dX7_struckBy_3 rfl hl (by decide) rfl (fun ls hl => ?_)
  obtain ⟨n1, h⟩ := h
  exact J_4 n1 _ _ h ls (lv_sub hl [2, 1, 0] rfl)
def wp_X8_init (post : Hp → Prop) (mc ms : Nat) (X : Hp) (v0 : Nat) : Prop := 0 + 1 ≤ mc ∧ 0 + 8 ≤ ms ∧ ∀ q1 : Nat, q1 ∉ X.1 → ∀ X2 : Hp, X2 = hadd X q1 (.inl (0, 8, .inl (fun _ => 0))) → ∃ (fs3 : List Value), Hs X2 v0 (.inr (8, fs3)) ∧ 2 < fs3.length ∧ ∀ X4 : Hp, X4 = hput X2 v0 (.inr (8, fs3.set 2 (.ref q1))) → (0 + 1) + 1 ≤ mc ∧ (0 + 8) + 8 ≤ ms ∧ ∀ q5 : Nat, q5 ∉ X4.1 → ∀ X6 : Hp, X6 = hadd X4 q5 (.inl (0, 8, .inl (fun _ => 0))) → ∃ (fs7 : List Value), Hs X6 v0 (.inr (8, fs7)) ∧ 3 < fs7.length ∧ ∀ X8 : Hp, X8 = hput X6 v0 (.inr (8, fs7.set 3 (.ref q5))) → ((0 + 1) + 1) + 1 ≤ mc ∧ ((0 + 8) + 8) + 8 ≤ ms ∧ ∀ q9 : Nat, q9 ∉ X8.1 → ∀ X10 : Hp, X10 = hadd X8 q9 (.inl (0, 8, .inl (fun _ => 0))) → ∃ (fs11 : List Value), Hs X10 v0 (.inr (8, fs11)) ∧ 4 < fs11.length ∧ ∀ X12 : Hp, X12 = hput X10 v0 (.inr (8, fs11.set 4 (.ref q9))) → (((0 + 1) + 1) + 1) + 1 ≤ mc ∧ (((0 + 8) + 8) + 8) + 48 ≤ ms ∧ ∀ q13 : Nat, q13 ∉ X12.1 → ∀ X14 : Hp, X14 = hadd X12 q13 (.inl (0, 48, .inl (fun _ => 0))) → ∃ (fs15 : List Value), Hs X14 v0 (.inr (8, fs15)) ∧ 5 < fs15.length ∧ ∀ X16 : Hp, X16 = hput X14 v0 (.inr (8, fs15.set 5 (.ref q13))) → ((((0 + 1) + 1) + 1) + 1) + 1 ≤ mc ∧ ((((0 + 8) + 8) + 8) + 48) + 48 ≤ ms ∧ ∀ q17 : Nat, q17 ∉ X16.1 → ∀ X18 : Hp, X18 = hadd X16 q17 (.inl (0, 48, .inl (fun _ => 0))) → ∃ (fs19 : List Value), Hs X18 v0 (.inr (8, fs19)) ∧ 6 < fs19.length ∧ ∀ X20 : Hp, X20 = hput X18 v0 (.inr (8, fs19.set 6 (.ref q17))) → (((((0 + 1) + 1) + 1) + 1) + 1) ≤ mc ∧ (((((0 + 8) + 8) + 8) + 48) + 48) ≤ ms ∧ post X20
set_option maxHeartbeats 4000000 in
set_option maxRecDepth 100000 in
theorem c_X8_init (l : Launch) (D : va_G) (kA : Nat → ClassId) (post : Hp → Prop) (mc ms : Nat) (X : Hp) (sz : Nat) (v0 : Nat) (h : wp_X8_init post mc ms X v0) : Met l yX8_init (.code yX8_init cX8_init 1 none :: gd) (rmO 1 mc ms 21) (va_Pc [Value.ref v0] (PreM D kA X sz)) (va_Qv post (PoM D kA X sz) (va_A (hw kA X) sz)) mc ms (va_A (hw kA X) sz) := by
  unfold wp_X8_init at h
  refine x_enM (by decide) (Nat.le_of_ble_eq_true rfl) ?_
  intro p e s m below meth c G hr hlk hin hsz hA S ls hl
  obtain ⟨hx, hb, hml, hown, hts, hE, hK⟩ := id G
  have hl : lv_has ls 1 [(0, .ref v0)] := hl
  refine lv_aload_n hx hb dX8_init_0 rfl (lv_at hl 0 rfl) ?_
  refine x_objInit G mk_X8_3 oi_ins oi_cod hl.1 dX8_init_1 (Nat.le_of_ble_eq_true rfl) (Nat.le_of_ble_eq_true rfl) ?_
  refine lv_aload_n hx hb dX8_init_4 rfl (lv_at hl 0 rfl) ?_
  refine lv_bipush (v := (8 : Int32)) hx hb dX8_init_5 (by decide) ?_
  obtain ⟨hc1, hc2, h⟩ := h
  refine x_newa (atype := .int) (t := 0) (N' := 8) G S hA ac_int rfl rfl (fun z => z) rfl (by decide) (by decide) (Nat.le_of_ble_eq_true rfl) hc1 hc2 dX8_init_7 (fun q1 H hq1 S => ?_)
  have h := h q1 hq1 _ rfl
  obtain ⟨fs3, hfs3, hkfs3, h⟩ := h
  have h := h _ rfl
  refine x_putF G hin S hfs3 hkfs3 rfl rfl ff_X8_9 dX8_init_9 (fun H locs S => ?_)
  refine lv_aload_n hx hb dX8_init_12 rfl (lv_at hl 0 rfl) ?_
  refine lv_bipush (v := (8 : Int32)) hx hb dX8_init_13 (by decide) ?_
  obtain ⟨hc1, hc2, h⟩ := h
  refine x_newa (atype := .int) (t := 0) (N' := 8) G S hA ac_int rfl rfl (fun z => z) rfl (by decide) (by decide) (Nat.le_of_ble_eq_true rfl) hc1 hc2 dX8_init_15 (fun q5 H hq5 S => ?_)
  have h := h q5 hq5 _ rfl
  obtain ⟨fs7, hfs7, hkfs7, h⟩ := h
  have h := h _ rfl
  refine x_putF G hin S hfs7 hkfs7 rfl rfl ff_X8_15 dX8_init_17 (fun H locs S => ?_)
  refine lv_aload_n hx hb dX8_init_20 rfl (lv_at hl 0 rfl) ?_
  refine lv_bipush (v := (8 : Int32)) hx hb dX8_init_21 (by decide) ?_
  obtain ⟨hc1, hc2, h⟩ := h
  refine x_newa (atype := .int) (t := 0) (N' := 8) G S hA ac_int rfl rfl (fun z => z) rfl (by decide) (by decide) (Nat.le_of_ble_eq_true rfl) hc1 hc2 dX8_init_23 (fun q9 H hq9 S => ?_)
  have h := h q9 hq9 _ rfl
  obtain ⟨fs11, hfs11, hkfs11, h⟩ := h
  have h := h _ rfl
  refine x_putF G hin S hfs11 hkfs11 rfl rfl ff_X8_18 dX8_init_25 (fun H locs S => ?_)
  refine lv_aload_n hx hb dX8_init_28 rfl (lv_at hl 0 rfl) ?_
  refine lv_bipush (v := (48 : Int32)) hx hb dX8_init_29 (by decide) ?_
  obtain ⟨hc1, hc2, h⟩ := h
  refine x_newa (atype := .int) (t := 0) (N' := 48) G S hA ac_int rfl rfl (fun z => z) rfl (by decide) (by decide) (Nat.le_of_ble_eq_true rfl) hc1 hc2 dX8_init_31 (fun q13 H hq13 S => ?_)
  have h := h q13 hq13 _ rfl
  obtain ⟨fs15, hfs15, hkfs15, h⟩ := h
  have h := h _ rfl
  refine x_putF G hin S hfs15 hkfs15 rfl rfl ff_X8_21 dX8_init_33 (fun H locs S => ?_)
  refine lv_aload_n hx hb dX8_init_36 rfl (lv_at hl 0 rfl) ?_
  refine lv_bipush (v := (48 : Int32)) hx hb dX8_init_37 (by decide) ?_
  obtain ⟨hc1, hc2, h⟩ := h
  refine x_newa (atype := .int) (t := 0) (N' := 48) G S hA ac_int rfl rfl (fun z => z) rfl (by decide) (by decide) (Nat.le_of_ble_eq_true rfl) hc1 hc2 dX8_init_39 (fun q17 H hq17 S => ?_)
  have h := h q17 hq17 _ rfl
  obtain ⟨fs19, hfs19, hkfs19, h⟩ := h
  have h := h _ rfl
  refine x_putF G hin S hfs19 hkfs19 rfl rfl ff_X8_24 dX8_init_41 (fun H locs S => ?_)
  obtain ⟨hk1, hk2, h⟩ := h
  exact x_vretM G hr hlk S hk1 hk2 h dX8_init_44
def wp_X8_hasRoom (post : Int32 → Prop) (X : Hp) (v0 : Nat) (v1 : Int32) : Prop := ∃ (fs1 : List Value) (y2 : Int32), Hs X v0 (.inr (8, fs1)) ∧ fs1[0]? = some (.int y2) ∧ ((8 : Int32) ≤ y2 → post (0 : Int32)) ∧ (¬ (8 : Int32) ≤ y2 → ∃ (fs4 : List Value) (y5 : Int32), Hs X v0 (.inr (8, fs4)) ∧ fs4[1]? = some (.int y5) ∧ ((48 : Int32) < (y5 + v1) → post (0 : Int32)) ∧ (¬ (48 : Int32) < (y5 + v1) → post (1 : Int32)))
set_option maxHeartbeats 4000000 in
set_option maxRecDepth 100000 in
theorem c_X8_hasRoom (l : Launch) (D : va_G) (kA : Nat → ClassId) (post : Int32 → Prop) (X : Hp) (v0 : Nat) (v1 : Int32) (h : wp_X8_hasRoom post X v0 v1) : Met l yX8_hasRoom (.code yX8_hasRoom cX8_hasRoom 2 (some .boolean) :: gd) (rmO 0 0 0 0) (va_Pc [Value.ref v0, Value.int v1] (Pre D kA X)) (vp_Si post) 0 0 (fun _ => False) := by
  unfold wp_X8_hasRoom at h
  refine x_enR (by decide) (Nat.le_of_ble_eq_true rfl) ?_
  intro p e s m below meth c G hr hlk hP ls hl
  obtain ⟨hx, hb, hml, hown, hts, hE, hK⟩ := id G
  have hl : lv_has ls 2 [(0, .ref v0), (1, .int v1)] := hl
  refine lv_aload_n hx hb dX8_hasRoom_0 rfl (lv_at hl 0 rfl) ?_
  obtain ⟨fs1, y2, hfs1, hvfs1, h⟩ := h
  refine x_get G hP hfs1 hvfs1 fl_X8_27 dX8_hasRoom_1 ?_
  refine lv_bipush (v := (8 : Int32)) hx hb dX8_hasRoom_4 (by decide) ?_
  refine lv_icmp_ge (tgt := 24) hx hb dX8_hasRoom_6 (by decide) (fun c3 => ?_) (fun c3 => ?_)
  · have h := h.1 c3
    refine lv_iconst (v := (0 : Int32)) hx hb dX8_hasRoom_24 (by decide) ?_
    exact x_zretR G hr hlk (Or.inl rfl) h dX8_hasRoom_25
  · have h := h.2 c3
    refine lv_aload_n hx hb dX8_hasRoom_9 rfl (lv_at hl 0 rfl) ?_
    obtain ⟨fs4, y5, hfs4, hvfs4, h⟩ := h
    refine x_get G hP hfs4 hvfs4 fl_X8_31 dX8_hasRoom_10 ?_
    refine lv_iload_n hx hb dX8_hasRoom_13 rfl (lv_at hl 1 rfl) ?_
    refine lv_iadd hx hb dX8_hasRoom_14 ?_
    refine lv_bipush (v := (48 : Int32)) hx hb dX8_hasRoom_15 (by decide) ?_
    refine lv_icmp_gt (tgt := 24) hx hb dX8_hasRoom_17 (by decide) (fun c6 => ?_) (fun c6 => ?_)
    · have h := h.1 c6
      refine lv_iconst (v := (0 : Int32)) hx hb dX8_hasRoom_24 (by decide) ?_
      exact x_zretR G hr hlk (Or.inl rfl) h dX8_hasRoom_25
    · have h := h.2 c6
      refine lv_iconst (v := (1 : Int32)) hx hb dX8_hasRoom_20 (by decide) ?_
      refine lv_goto (tgt := 25) hx hb dX8_hasRoom_21 (by decide) ?_
      exact x_zretR G hr hlk (Or.inr rfl) h dX8_hasRoom_25
def wp_X9_within (post : Int32 → Prop) (X : Hp) (v0 : Int32) (v1 : Int32) (v2 : Int32) : Prop := (v0 < v1 → post (0 : Int32)) ∧ (¬ v0 < v1 → (v2 < v0 → post (0 : Int32)) ∧ (¬ v2 < v0 → post (1 : Int32)))
set_option maxHeartbeats 4000000 in
set_option maxRecDepth 100000 in
theorem c_X9_within (l : Launch) (D : va_G) (kA : Nat → ClassId) (post : Int32 → Prop) (X : Hp) (v0 : Int32) (v1 : Int32) (v2 : Int32) (h : wp_X9_within post X v0 v1 v2) : Met l yX9_within (.code yX9_within cX9_within 3 (some .boolean) :: gd) (rmO 0 0 0 0) (va_Pc [Value.int v0, Value.int v1, Value.int v2] (Pre D kA X)) (vp_Si post) 0 0 (fun _ => False) := by
  unfold wp_X9_within at h
  refine x_enR (by decide) (Nat.le_of_ble_eq_true rfl) ?_
  intro p e s m below meth c G hr hlk hP ls hl
  obtain ⟨hx, hb, hml, hown, hts, hE, hK⟩ := id G
  have hl : lv_has ls 3 [(0, .int v0), (1, .int v1), (2, .int v2)] := hl
  refine lv_iload_n hx hb dX9_within_0 rfl (lv_at hl 0 rfl) ?_
  refine lv_iload_n hx hb dX9_within_1 rfl (lv_at hl 1 rfl) ?_
  refine lv_icmp_lt (tgt := 14) hx hb dX9_within_2 (by decide) (fun c1 => ?_) (fun c1 => ?_)
  · have h := h.1 c1
    refine lv_iconst (v := (0 : Int32)) hx hb dX9_within_14 (by decide) ?_
    exact x_zretR G hr hlk (Or.inl rfl) h dX9_within_15
  · have h := h.2 c1
    refine lv_iload_n hx hb dX9_within_5 rfl (lv_at hl 0 rfl) ?_
    refine lv_iload_n hx hb dX9_within_6 rfl (lv_at hl 2 rfl) ?_
    refine lv_icmp_gt (tgt := 14) hx hb dX9_within_7 (by decide) (fun c2 => ?_) (fun c2 => ?_)
    · have h := h.1 c2
      refine lv_iconst (v := (0 : Int32)) hx hb dX9_within_14 (by decide) ?_
      exact x_zretR G hr hlk (Or.inl rfl) h dX9_within_15
    · have h := h.2 c2
      refine lv_iconst (v := (1 : Int32)) hx hb dX9_within_10 (by decide) ?_
      refine lv_goto (tgt := 15) hx hb dX9_within_11 (by decide) ?_
      exact x_zretR G hr hlk (Or.inr rfl) h dX9_within_15
def wp_X8_hasLeg (post : Int32 → Prop) (X : Hp) (v0 : Nat) (v1 : Int32) : Prop := ∃ (fs1 : List Value) (y2 : Int32), Hs X v0 (.inr (8, fs1)) ∧ fs1[0]? = some (.int y2) ∧ wp_X9_within (fun r3 => (r3 = 0 ∨ r3 = 1) ∧ post r3)  X v1 (0 : Int32) (y2 - (1 : Int32))
set_option maxHeartbeats 4000000 in
set_option maxRecDepth 100000 in
theorem c_X8_hasLeg (l : Launch) (D : va_G) (kA : Nat → ClassId) (post : Int32 → Prop) (X : Hp) (v0 : Nat) (v1 : Int32) (h : wp_X8_hasLeg post X v0 v1) : Met l yX8_hasLeg (.code yX8_hasLeg cX8_hasLeg 2 (some .boolean) :: gd) (rmO 1 0 0 22) (va_Pc [Value.ref v0, Value.int v1] (Pre D kA X)) (vp_Si post) 0 0 (fun _ => False) := by
  unfold wp_X8_hasLeg at h
  refine x_enR (by decide) (Nat.le_of_ble_eq_true rfl) ?_
  intro p e s m below meth c G hr hlk hP ls hl
  obtain ⟨hx, hb, hml, hown, hts, hE, hK⟩ := id G
  have hl : lv_has ls 2 [(0, .ref v0), (1, .int v1)] := hl
  refine lv_iload_n hx hb dX8_hasLeg_0 rfl (lv_at hl 1 rfl) ?_
  refine lv_iconst (v := (0 : Int32)) hx hb dX8_hasLeg_1 (by decide) ?_
  refine lv_aload_n hx hb dX8_hasLeg_2 rfl (lv_at hl 0 rfl) ?_
  obtain ⟨fs1, y2, hfs1, hvfs1, h⟩ := h
  refine x_get G hP hfs1 hvfs1 fl_X8_27 dX8_hasLeg_3 ?_
  refine lv_iconst (v := (1 : Int32)) hx hb dX8_hasLeg_6 (by decide) ?_
  refine lv_isub hx hb dX8_hasLeg_7 ?_
  refine x_cRSi (As := [.int v1, .int (0 : Int32), .int (y2 - (1 : Int32))]) (rest := []) G hP (c_X9_within l D kA _ _ v1 (0 : Int32) (y2 - (1 : Int32)) h) cd_X9_within ml_X8_34 ⟨(Nat.le_of_ble_eq_true rfl), (Nat.le_of_ble_eq_true rfl)⟩ rfl hl.1 rfl (Nat.le_of_ble_eq_true rfl) dX8_hasLeg_8 ⟨Nat.zero_le _, Nat.zero_le _⟩ (fun r3 h => ?_)
  obtain ⟨hz, h⟩ := h
  exact x_zretR G hr hlk hz h dX8_hasLeg_11
def wp_X8_hasHour (post : Int32 → Prop) (X : Hp) (v0 : Nat) (v1 : Int32) : Prop := (v1 < 0 → post (0 : Int32)) ∧ (¬ v1 < 0 → ∃ (fs2 : List Value) (y3 : Int32), Hs X v0 (.inr (8, fs2)) ∧ fs2[1]? = some (.int y3) ∧ (y3 ≤ v1 → post (0 : Int32)) ∧ (¬ y3 ≤ v1 → post (1 : Int32)))
set_option maxHeartbeats 4000000 in
set_option maxRecDepth 100000 in
theorem c_X8_hasHour (l : Launch) (D : va_G) (kA : Nat → ClassId) (post : Int32 → Prop) (X : Hp) (v0 : Nat) (v1 : Int32) (h : wp_X8_hasHour post X v0 v1) : Met l yX8_hasHour (.code yX8_hasHour cX8_hasHour 2 (some .boolean) :: gd) (rmO 0 0 0 0) (va_Pc [Value.ref v0, Value.int v1] (Pre D kA X)) (vp_Si post) 0 0 (fun _ => False) := by
  unfold wp_X8_hasHour at h
  refine x_enR (by decide) (Nat.le_of_ble_eq_true rfl) ?_
  intro p e s m below meth c G hr hlk hP ls hl
  obtain ⟨hx, hb, hml, hown, hts, hE, hK⟩ := id G
  have hl : lv_has ls 2 [(0, .ref v0), (1, .int v1)] := hl
  refine lv_iload_n hx hb dX8_hasHour_0 rfl (lv_at hl 1 rfl) ?_
  refine lv_if_lt (tgt := 16) hx hb dX8_hasHour_1 (by decide) (fun c1 => ?_) (fun c1 => ?_)
  · have h := h.1 c1
    refine lv_iconst (v := (0 : Int32)) hx hb dX8_hasHour_16 (by decide) ?_
    exact x_zretR G hr hlk (Or.inl rfl) h dX8_hasHour_17
  · have h := h.2 c1
    refine lv_iload_n hx hb dX8_hasHour_4 rfl (lv_at hl 1 rfl) ?_
    refine lv_aload_n hx hb dX8_hasHour_5 rfl (lv_at hl 0 rfl) ?_
    obtain ⟨fs2, y3, hfs2, hvfs2, h⟩ := h
    refine x_get G hP hfs2 hvfs2 fl_X8_31 dX8_hasHour_6 ?_
    refine lv_icmp_ge (tgt := 16) hx hb dX8_hasHour_9 (by decide) (fun c4 => ?_) (fun c4 => ?_)
    · have h := h.1 c4
      refine lv_iconst (v := (0 : Int32)) hx hb dX8_hasHour_16 (by decide) ?_
      exact x_zretR G hr hlk (Or.inl rfl) h dX8_hasHour_17
    · have h := h.2 c4
      refine lv_iconst (v := (1 : Int32)) hx hb dX8_hasHour_12 (by decide) ?_
      refine lv_goto (tgt := 17) hx hb dX8_hasHour_13 (by decide) ?_
      exact x_zretR G hr hlk (Or.inr rfl) h dX8_hasHour_17
def bk_X8_lengthen_52 (post : Hp → Prop) (v0 : Nat) (v1 : Int32) (v2 : Int32) (v3 : Int32)  : Nat → Hp → Int32 → Prop
  | 0, _, _ => False
  | k + 1, X, b52_4 => (v1 ≤ b52_4 → post X) ∧ (¬ v1 ≤ b52_4 → ∃ (fs31 : List Value) (y32 : Nat), Hs X v0 (.inr (8, fs31)) ∧ fs31[5]? = some (.ref y32) ∧ ∃ (fs33 : List Value) (y34 : Int32), Hs X v0 (.inr (8, fs33)) ∧ fs33[1]? = some (.int y34) ∧ ∃ (n35 : Nat) (f36 : Nat → Int32), Hs X y32 (.inl (0, n35, .inl f36)) ∧ vp_in y34 n35 ∧ ∀ X37 : Hp, X37 = hput X y32 (.inl (0, n35, .inl (upd f36 y34.toNatClampNeg v2))) → ∃ (fs38 : List Value) (y39 : Nat), Hs X37 v0 (.inr (8, fs38)) ∧ fs38[6]? = some (.ref y39) ∧ ∃ (fs40 : List Value) (y41 : Int32), Hs X37 v0 (.inr (8, fs40)) ∧ fs40[1]? = some (.int y41) ∧ ∃ (n42 : Nat) (f43 : Nat → Int32), Hs X37 y39 (.inl (0, n42, .inl f43)) ∧ vp_in y41 n42 ∧ ∀ X44 : Hp, X44 = hput X37 y39 (.inl (0, n42, .inl (upd f43 y41.toNatClampNeg v3))) → ∃ (fs45 : List Value) (y46 : Int32), Hs X44 v0 (.inr (8, fs45)) ∧ fs45[1]? = some (.int y46) ∧ ∃ (fs47 : List Value), Hs X44 v0 (.inr (8, fs47)) ∧ 1 < fs47.length ∧ ∀ X48 : Hp, X48 = hput X44 v0 (.inr (8, fs47.set 1 (.int (y46 + (1 : Int32))))) → ∀ x49 : Int32, x49 = b52_4 + (1 : Int32) → (bk_X8_lengthen_52 post v0 v1 v2 v3 k) X48 x49)
def wp_X8_lengthen (post : Hp → Prop) (X : Hp) (v0 : Nat) (v1 : Int32) (v2 : Int32) (v3 : Int32) : Prop := ∃ fs29 : List Value, Hs X v0 (.inr (8, fs29)) ∧ wp_X8_hasRoom (fun r1 => (¬ r1 = 0 → ∃ (fs3 : List Value) (y4 : Nat), Hs X v0 (.inr (8, fs3)) ∧ fs3[2]? = some (.ref y4) ∧ ∃ (fs5 : List Value) (y6 : Int32), Hs X v0 (.inr (8, fs5)) ∧ fs5[0]? = some (.int y6) ∧ ∃ (n7 : Nat) (f8 : Nat → Int32), Hs X y4 (.inl (0, n7, .inl f8)) ∧ vp_in y6 n7 ∧ ∀ X9 : Hp, X9 = hput X y4 (.inl (0, n7, .inl (upd f8 y6.toNatClampNeg v1))) → ∃ (fs10 : List Value) (y11 : Nat), Hs X9 v0 (.inr (8, fs10)) ∧ fs10[3]? = some (.ref y11) ∧ ∃ (fs12 : List Value) (y13 : Int32), Hs X9 v0 (.inr (8, fs12)) ∧ fs12[0]? = some (.int y13) ∧ ∃ (n14 : Nat) (f15 : Nat → Int32), Hs X9 y11 (.inl (0, n14, .inl f15)) ∧ vp_in y13 n14 ∧ ∀ X16 : Hp, X16 = hput X9 y11 (.inl (0, n14, .inl (upd f15 y13.toNatClampNeg v2))) → ∃ (fs17 : List Value) (y18 : Nat), Hs X16 v0 (.inr (8, fs17)) ∧ fs17[4]? = some (.ref y18) ∧ ∃ (fs19 : List Value) (y20 : Int32), Hs X16 v0 (.inr (8, fs19)) ∧ fs19[0]? = some (.int y20) ∧ ∃ (n21 : Nat) (f22 : Nat → Int32), Hs X16 y18 (.inl (0, n21, .inl f22)) ∧ vp_in y20 n21 ∧ ∀ X23 : Hp, X23 = hput X16 y18 (.inl (0, n21, .inl (upd f22 y20.toNatClampNeg v3))) → ∃ (fs24 : List Value) (y25 : Int32), Hs X23 v0 (.inr (8, fs24)) ∧ fs24[0]? = some (.int y25) ∧ ∃ (fs26 : List Value), Hs X23 v0 (.inr (8, fs26)) ∧ 0 < fs26.length ∧ ∀ X27 : Hp, X27 = hput X23 v0 (.inr (8, fs26.set 0 (.int (y25 + (1 : Int32))))) → ∃ n28 : Nat, bk_X8_lengthen_52 post v0 v1 v2 v3 n28 X27 (0 : Int32)) ∧ (r1 = 0 → post X))  X v0 v1
set_option maxHeartbeats 4000000 in
set_option maxRecDepth 100000 in
theorem c_X8_lengthen (l : Launch) (D : va_G) (kA : Nat → ClassId) (post : Hp → Prop) (X : Hp) (sz : Nat) (v0 : Nat) (v1 : Int32) (v2 : Int32) (v3 : Int32) (h : wp_X8_lengthen post X v0 v1 v2 v3) : Met l yX8_lengthen (.code yX8_lengthen cX8_lengthen 5 none :: gd) (rmO 1 0 0 21) (va_Pc [Value.ref v0, Value.int v1, Value.int v2, Value.int v3] (PreM D kA X sz)) (va_Qv post (PoM D kA X sz) (va_A (hw kA X) sz)) 0 0 (va_A (hw kA X) sz) := by
  unfold wp_X8_lengthen at h
  refine x_enM (by decide) (Nat.le_of_ble_eq_true rfl) ?_
  intro p e s m below meth c G hr hlk hin hsz hA S ls hl
  obtain ⟨hx, hb, hml, hown, hts, hE, hK⟩ := id G
  have hl : lv_has ls 5 [(0, .ref v0), (1, .int v1), (2, .int v2), (3, .int v3)] := hl
  obtain ⟨X0, hX0⟩ : ∃ Y : Hp, Y = X := ⟨_, rfl⟩
  subst hX0
  have J_52 : ∀ (n : Nat) (X : Hp) (b52_4 : Int32), ∀ (H : Heap) (locs : List Loc) (_ : bk_X8_lengthen_52 post v0 v1 v2 v3  n X b52_4), Sx D kA (va_A (hw kA X0) sz) s.heap H locs X → ∀ ls, lv_has ls 5 [(0, .ref v0), (1, .int v1), (2, .int v2), (3, .int v3), (4, .int b52_4)] → W p l e (rmO 1 0 0 21) s m [Value.ref v0, Value.int v1, Value.int v2, Value.int v3].toArray below meth c H locs 0 0 (MQ below (va_Qv post (PoM D kA X0 sz) (va_A (hw kA X0) sz)) [Value.ref v0, Value.int v1, Value.int v2, Value.int v3].toArray s 0 0 (va_A (hw kA X0) sz)) (F0 m 52 ls []) := by
    intro n
    induction n with
    | zero =>
      intro X b52_4 H locs h S ls hl
      rw [bk_X8_lengthen_52] at h
      exact h.elim
    | succ n_52 ih_52 =>
      intro X b52_4 H locs h S ls hl
      rw [bk_X8_lengthen_52] at h
      refine lv_iload hx hb dX8_lengthen_52 (lv_at hl 4 rfl) ?_
      refine lv_iload_n hx hb dX8_lengthen_54 rfl (lv_at hl 1 rfl) ?_
      refine lv_icmp_ge (tgt := 94) hx hb dX8_lengthen_55 (by decide) (fun c30 => ?_) (fun c30 => ?_)
      · have h := h.1 c30
        exact x_vretM G hr hlk S (Nat.le_refl _) (Nat.le_refl _) h dX8_lengthen_94
      · have h := h.2 c30
        refine lv_aload_n hx hb dX8_lengthen_58 rfl (lv_at hl 0 rfl) ?_
        obtain ⟨fs31, y32, hfs31, hvfs31, h⟩ := h
        refine x_get G S.1 hfs31 hvfs31 fl_X8_21 dX8_lengthen_59 ?_
        refine lv_aload_n hx hb dX8_lengthen_62 rfl (lv_at hl 0 rfl) ?_
        obtain ⟨fs33, y34, hfs33, hvfs33, h⟩ := h
        refine x_get G S.1 hfs33 hvfs33 fl_X8_31 dX8_lengthen_63 ?_
        refine lv_iload_n hx hb dX8_lengthen_66 rfl (lv_at hl 2 rfl) ?_
        obtain ⟨n35, f36, hf36, hif36, h⟩ := h
        have h := h _ rfl
        refine x_iast G S hf36 hif36 dX8_lengthen_67 (fun H locs S => ?_)
        refine lv_aload_n hx hb dX8_lengthen_68 rfl (lv_at hl 0 rfl) ?_
        obtain ⟨fs38, y39, hfs38, hvfs38, h⟩ := h
        refine x_get G S.1 hfs38 hvfs38 fl_X8_24 dX8_lengthen_69 ?_
        refine lv_aload_n hx hb dX8_lengthen_72 rfl (lv_at hl 0 rfl) ?_
        obtain ⟨fs40, y41, hfs40, hvfs40, h⟩ := h
        refine x_get G S.1 hfs40 hvfs40 fl_X8_31 dX8_lengthen_73 ?_
        refine lv_iload_n hx hb dX8_lengthen_76 rfl (lv_at hl 3 rfl) ?_
        obtain ⟨n42, f43, hf43, hif43, h⟩ := h
        have h := h _ rfl
        refine x_iast G S hf43 hif43 dX8_lengthen_77 (fun H locs S => ?_)
        refine lv_aload_n hx hb dX8_lengthen_78 rfl (lv_at hl 0 rfl) ?_
        refine lv_dup hx hb dX8_lengthen_79 rfl ?_
        obtain ⟨fs45, y46, hfs45, hvfs45, h⟩ := h
        refine x_get G S.1 hfs45 hvfs45 fl_X8_31 dX8_lengthen_80 ?_
        refine lv_iconst (v := (1 : Int32)) hx hb dX8_lengthen_83 (by decide) ?_
        refine lv_iadd hx hb dX8_lengthen_84 ?_
        obtain ⟨fs47, hfs47, hkfs47, h⟩ := h
        have h := h _ rfl
        refine x_put G S hfs47 hkfs47 rfl rfl fw_X8_31 dX8_lengthen_85 (fun H locs S => ?_)
        obtain ⟨x49, ex49⟩ : ∃ y : Int32, y = b52_4 + (1 : Int32) := ⟨_, rfl⟩
        have h := h x49 ex49
        refine lv_iinc (v := x49) (lv' := [(4, .int x49), (0, .ref v0), (1, .int v1), (2, .int v2), (3, .int v3)]) hx hb dX8_lengthen_88 hl (k := 4) rfl (by rw [ex49]; rfl) (by decide) rfl (fun ls hl => ?_)
        refine lv_goto (tgt := 52) hx hb dX8_lengthen_91 (by decide) ?_
        exact ih_52 _ _ _ _ h S ls (lv_sub hl [1, 2, 3, 4, 0] rfl)
  refine lv_aload_n hx hb dX8_lengthen_0 rfl (lv_at hl 0 rfl) ?_
  refine lv_iload_n hx hb dX8_lengthen_1 rfl (lv_at hl 1 rfl) ?_
  obtain ⟨fs29, hfs29, h⟩ := h
  refine x_cRVi (As := [.int v1]) (rest := []) G S.1 hfs29 rfl rfl (c_X8_hasRoom l D kA _ _ v0 v1 h) cd_X8_hasRoom ml_X8_38 ⟨(Nat.le_of_ble_eq_true rfl), (Nat.le_of_ble_eq_true rfl)⟩ rfl hl.1 rfl (Nat.le_of_ble_eq_true rfl) dX8_lengthen_2 ⟨Nat.zero_le _, Nat.zero_le _⟩ (fun r1 h => ?_)
  refine lv_if_ne (tgt := 9) hx hb dX8_lengthen_5 (by decide) (fun c2 => ?_) (fun c2 => ?_)
  · have h := h.1 c2
    refine lv_aload_n hx hb dX8_lengthen_9 rfl (lv_at hl 0 rfl) ?_
    obtain ⟨fs3, y4, hfs3, hvfs3, h⟩ := h
    refine x_get G S.1 hfs3 hvfs3 fl_X8_9 dX8_lengthen_10 ?_
    refine lv_aload_n hx hb dX8_lengthen_13 rfl (lv_at hl 0 rfl) ?_
    obtain ⟨fs5, y6, hfs5, hvfs5, h⟩ := h
    refine x_get G S.1 hfs5 hvfs5 fl_X8_27 dX8_lengthen_14 ?_
    refine lv_iload_n hx hb dX8_lengthen_17 rfl (lv_at hl 1 rfl) ?_
    obtain ⟨n7, f8, hf8, hif8, h⟩ := h
    have h := h _ rfl
    refine x_iast G S hf8 hif8 dX8_lengthen_18 (fun H locs S => ?_)
    refine lv_aload_n hx hb dX8_lengthen_19 rfl (lv_at hl 0 rfl) ?_
    obtain ⟨fs10, y11, hfs10, hvfs10, h⟩ := h
    refine x_get G S.1 hfs10 hvfs10 fl_X8_15 dX8_lengthen_20 ?_
    refine lv_aload_n hx hb dX8_lengthen_23 rfl (lv_at hl 0 rfl) ?_
    obtain ⟨fs12, y13, hfs12, hvfs12, h⟩ := h
    refine x_get G S.1 hfs12 hvfs12 fl_X8_27 dX8_lengthen_24 ?_
    refine lv_iload_n hx hb dX8_lengthen_27 rfl (lv_at hl 2 rfl) ?_
    obtain ⟨n14, f15, hf15, hif15, h⟩ := h
    have h := h _ rfl
    refine x_iast G S hf15 hif15 dX8_lengthen_28 (fun H locs S => ?_)
    refine lv_aload_n hx hb dX8_lengthen_29 rfl (lv_at hl 0 rfl) ?_
    obtain ⟨fs17, y18, hfs17, hvfs17, h⟩ := h
    refine x_get G S.1 hfs17 hvfs17 fl_X8_18 dX8_lengthen_30 ?_
    refine lv_aload_n hx hb dX8_lengthen_33 rfl (lv_at hl 0 rfl) ?_
    obtain ⟨fs19, y20, hfs19, hvfs19, h⟩ := h
    refine x_get G S.1 hfs19 hvfs19 fl_X8_27 dX8_lengthen_34 ?_
    refine lv_iload_n hx hb dX8_lengthen_37 rfl (lv_at hl 3 rfl) ?_
    obtain ⟨n21, f22, hf22, hif22, h⟩ := h
    have h := h _ rfl
    refine x_iast G S hf22 hif22 dX8_lengthen_38 (fun H locs S => ?_)
    refine lv_aload_n hx hb dX8_lengthen_39 rfl (lv_at hl 0 rfl) ?_
    refine lv_dup hx hb dX8_lengthen_40 rfl ?_
    obtain ⟨fs24, y25, hfs24, hvfs24, h⟩ := h
    refine x_get G S.1 hfs24 hvfs24 fl_X8_27 dX8_lengthen_41 ?_
    refine lv_iconst (v := (1 : Int32)) hx hb dX8_lengthen_44 (by decide) ?_
    refine lv_iadd hx hb dX8_lengthen_45 ?_
    obtain ⟨fs26, hfs26, hkfs26, h⟩ := h
    have h := h _ rfl
    refine x_put G S hfs26 hkfs26 rfl rfl fw_X8_27 dX8_lengthen_46 (fun H locs S => ?_)
    refine lv_iconst (v := (0 : Int32)) hx hb dX8_lengthen_49 (by decide) ?_
    refine lv_istore (lv' := [(4, .int (0 : Int32)), (0, .ref v0), (1, .int v1), (2, .int v2), (3, .int v3)]) hx hb dX8_lengthen_50 hl (by decide) rfl (fun ls hl => ?_)
    obtain ⟨n28, h⟩ := h
    exact J_52 n28 _ _ _ _ h S ls (lv_sub hl [1, 2, 3, 4, 0] rfl)
  · have h := h.2 c2
    exact x_vretM G hr hlk S (Nat.le_refl _) (Nat.le_refl _) h dX8_lengthen_8
def wp_X8_shorten (post : Hp → Prop) (X : Hp) (v0 : Nat) : Prop := ∃ (fs1 : List Value) (y2 : Int32), Hs X v0 (.inr (8, fs1)) ∧ fs1[0]? = some (.int y2) ∧ (y2 ≤ 0 → post X) ∧ (¬ y2 ≤ 0 → ∃ (fs4 : List Value) (y5 : Int32), Hs X v0 (.inr (8, fs4)) ∧ fs4[0]? = some (.int y5) ∧ ∃ (fs6 : List Value), Hs X v0 (.inr (8, fs6)) ∧ 0 < fs6.length ∧ ∀ X7 : Hp, X7 = hput X v0 (.inr (8, fs6.set 0 (.int (y5 - (1 : Int32))))) → ∃ (fs8 : List Value) (y9 : Int32), Hs X7 v0 (.inr (8, fs8)) ∧ fs8[1]? = some (.int y9) ∧ ∃ (fs10 : List Value) (y11 : Nat), Hs X7 v0 (.inr (8, fs10)) ∧ fs10[2]? = some (.ref y11) ∧ ∃ (fs12 : List Value) (y13 : Int32), Hs X7 v0 (.inr (8, fs12)) ∧ fs12[0]? = some (.int y13) ∧ ∃ (n14 : Nat) (f15 : Nat → Int32), Hs X7 y11 (.inl (0, n14, .inl f15)) ∧ vp_in y13 n14 ∧ ∃ (fs16 : List Value), Hs X7 v0 (.inr (8, fs16)) ∧ 1 < fs16.length ∧ ∀ X17 : Hp, X17 = hput X7 v0 (.inr (8, fs16.set 1 (.int (y9 - (f15 y13.toNatClampNeg))))) → post X17)
set_option maxHeartbeats 4000000 in
set_option maxRecDepth 100000 in
theorem c_X8_shorten (l : Launch) (D : va_G) (kA : Nat → ClassId) (post : Hp → Prop) (X : Hp) (sz : Nat) (v0 : Nat) (h : wp_X8_shorten post X v0) : Met l yX8_shorten (.code yX8_shorten cX8_shorten 1 none :: gd) (rmO 0 0 0 0) (va_Pc [Value.ref v0] (PreM D kA X sz)) (va_Qv post (PoM D kA X sz) (va_A (hw kA X) sz)) 0 0 (va_A (hw kA X) sz) := by
  unfold wp_X8_shorten at h
  refine x_enM (by decide) (Nat.le_of_ble_eq_true rfl) ?_
  intro p e s m below meth c G hr hlk hin hsz hA S ls hl
  obtain ⟨hx, hb, hml, hown, hts, hE, hK⟩ := id G
  have hl : lv_has ls 1 [(0, .ref v0)] := hl
  refine lv_aload_n hx hb dX8_shorten_0 rfl (lv_at hl 0 rfl) ?_
  obtain ⟨fs1, y2, hfs1, hvfs1, h⟩ := h
  refine x_get G S.1 hfs1 hvfs1 fl_X8_27 dX8_shorten_1 ?_
  refine lv_if_le (tgt := 35) hx hb dX8_shorten_4 (by decide) (fun c3 => ?_) (fun c3 => ?_)
  · have h := h.1 c3
    exact x_vretM G hr hlk S (Nat.le_refl _) (Nat.le_refl _) h dX8_shorten_35
  · have h := h.2 c3
    refine lv_aload_n hx hb dX8_shorten_7 rfl (lv_at hl 0 rfl) ?_
    refine lv_dup hx hb dX8_shorten_8 rfl ?_
    obtain ⟨fs4, y5, hfs4, hvfs4, h⟩ := h
    refine x_get G S.1 hfs4 hvfs4 fl_X8_27 dX8_shorten_9 ?_
    refine lv_iconst (v := (1 : Int32)) hx hb dX8_shorten_12 (by decide) ?_
    refine lv_isub hx hb dX8_shorten_13 ?_
    obtain ⟨fs6, hfs6, hkfs6, h⟩ := h
    have h := h _ rfl
    refine x_put G S hfs6 hkfs6 rfl rfl fw_X8_27 dX8_shorten_14 (fun H locs S => ?_)
    refine lv_aload_n hx hb dX8_shorten_17 rfl (lv_at hl 0 rfl) ?_
    refine lv_dup hx hb dX8_shorten_18 rfl ?_
    obtain ⟨fs8, y9, hfs8, hvfs8, h⟩ := h
    refine x_get G S.1 hfs8 hvfs8 fl_X8_31 dX8_shorten_19 ?_
    refine lv_aload_n hx hb dX8_shorten_22 rfl (lv_at hl 0 rfl) ?_
    obtain ⟨fs10, y11, hfs10, hvfs10, h⟩ := h
    refine x_get G S.1 hfs10 hvfs10 fl_X8_9 dX8_shorten_23 ?_
    refine lv_aload_n hx hb dX8_shorten_26 rfl (lv_at hl 0 rfl) ?_
    obtain ⟨fs12, y13, hfs12, hvfs12, h⟩ := h
    refine x_get G S.1 hfs12 hvfs12 fl_X8_27 dX8_shorten_27 ?_
    obtain ⟨n14, f15, hf15, hif15, h⟩ := h
    refine x_iald G S.1 hf15 hif15 dX8_shorten_30 ?_
    refine lv_isub hx hb dX8_shorten_31 ?_
    obtain ⟨fs16, hfs16, hkfs16, h⟩ := h
    have h := h _ rfl
    refine x_put G S hfs16 hkfs16 rfl rfl fw_X8_31 dX8_shorten_32 (fun H locs S => ?_)
    exact x_vretM G hr hlk S (Nat.le_refl _) (Nat.le_refl _) h dX8_shorten_35
def bk_X8_firstHourOf_4 (post : Int32 → Prop) (X : Hp) (v0 : Nat) (v1 : Int32)  : Nat → Int32 → Int32 → Prop
  | 0, _, _ => False
  | k + 1, b4_2, b4_3 => (v1 ≤ b4_3 → post b4_2) ∧ (¬ v1 ≤ b4_3 → ∃ (fs3 : List Value) (y4 : Int32), Hs X v0 (.inr (8, fs3)) ∧ fs3[0]? = some (.int y4) ∧ (y4 ≤ b4_3 → post b4_2) ∧ (¬ y4 ≤ b4_3 → ∃ (fs6 : List Value) (y7 : Nat), Hs X v0 (.inr (8, fs6)) ∧ fs6[2]? = some (.ref y7) ∧ ∃ (n8 : Nat) (f9 : Nat → Int32), Hs X y7 (.inl (0, n8, .inl f9)) ∧ vp_in b4_3 n8 ∧ ∀ x10 : Int32, x10 = (b4_2 + (f9 b4_3.toNatClampNeg)) → ∀ x11 : Int32, x11 = b4_3 + (1 : Int32) → (bk_X8_firstHourOf_4 post X v0 v1 k) x10 x11))
def wp_X8_firstHourOf (post : Int32 → Prop) (X : Hp) (v0 : Nat) (v1 : Int32) : Prop := ∃ n1 : Nat, bk_X8_firstHourOf_4 post X v0 v1 n1 (0 : Int32) (0 : Int32)
set_option maxHeartbeats 4000000 in
set_option maxRecDepth 100000 in
theorem c_X8_firstHourOf (l : Launch) (D : va_G) (kA : Nat → ClassId) (post : Int32 → Prop) (X : Hp) (v0 : Nat) (v1 : Int32) (h : wp_X8_firstHourOf post X v0 v1) : Met l yX8_firstHourOf (.code yX8_firstHourOf cX8_firstHourOf 4 (some .int) :: gd) (rmO 0 0 0 0) (va_Pc [Value.ref v0, Value.int v1] (Pre D kA X)) (vp_Si post) 0 0 (fun _ => False) := by
  unfold wp_X8_firstHourOf at h
  refine x_enR (by decide) (Nat.le_of_ble_eq_true rfl) ?_
  intro p e s m below meth c G hr hlk hP ls hl
  obtain ⟨hx, hb, hml, hown, hts, hE, hK⟩ := id G
  have hl : lv_has ls 4 [(0, .ref v0), (1, .int v1)] := hl
  have J_4 : ∀ (n : Nat) (b4_2 : Int32) (b4_3 : Int32), ∀ (_ : bk_X8_firstHourOf_4 post X v0 v1  n b4_2 b4_3), ∀ ls, lv_has ls 4 [(0, .ref v0), (1, .int v1), (2, .int b4_2), (3, .int b4_3)] → W p l e (rmO 0 0 0 0) s m [Value.ref v0, Value.int v1].toArray below meth c s.heap [] 0 0 (MQ below (vp_Si post) [Value.ref v0, Value.int v1].toArray s 0 0 (fun _ => False)) (F0 m 4 ls []) := by
    intro n
    induction n with
    | zero =>
      intro b4_2 b4_3 h ls hl
      rw [bk_X8_firstHourOf_4] at h
      exact h.elim
    | succ n_4 ih_4 =>
      intro b4_2 b4_3 h ls hl
      rw [bk_X8_firstHourOf_4] at h
      refine lv_iload_n hx hb dX8_firstHourOf_4 rfl (lv_at hl 3 rfl) ?_
      refine lv_iload_n hx hb dX8_firstHourOf_5 rfl (lv_at hl 1 rfl) ?_
      refine lv_icmp_ge (tgt := 32) hx hb dX8_firstHourOf_6 (by decide) (fun c2 => ?_) (fun c2 => ?_)
      · have h := h.1 c2
        refine lv_iload_n hx hb dX8_firstHourOf_32 rfl (lv_at hl 2 rfl) ?_
        exact x_iretR G hr hlk h dX8_firstHourOf_33
      · have h := h.2 c2
        refine lv_iload_n hx hb dX8_firstHourOf_9 rfl (lv_at hl 3 rfl) ?_
        refine lv_aload_n hx hb dX8_firstHourOf_10 rfl (lv_at hl 0 rfl) ?_
        obtain ⟨fs3, y4, hfs3, hvfs3, h⟩ := h
        refine x_get G hP hfs3 hvfs3 fl_X8_27 dX8_firstHourOf_11 ?_
        refine lv_icmp_ge (tgt := 32) hx hb dX8_firstHourOf_14 (by decide) (fun c5 => ?_) (fun c5 => ?_)
        · have h := h.1 c5
          refine lv_iload_n hx hb dX8_firstHourOf_32 rfl (lv_at hl 2 rfl) ?_
          exact x_iretR G hr hlk h dX8_firstHourOf_33
        · have h := h.2 c5
          refine lv_iload_n hx hb dX8_firstHourOf_17 rfl (lv_at hl 2 rfl) ?_
          refine lv_aload_n hx hb dX8_firstHourOf_18 rfl (lv_at hl 0 rfl) ?_
          obtain ⟨fs6, y7, hfs6, hvfs6, h⟩ := h
          refine x_get G hP hfs6 hvfs6 fl_X8_9 dX8_firstHourOf_19 ?_
          refine lv_iload_n hx hb dX8_firstHourOf_22 rfl (lv_at hl 3 rfl) ?_
          obtain ⟨n8, f9, hf9, hif9, h⟩ := h
          refine x_iald G hP hf9 hif9 dX8_firstHourOf_23 ?_
          refine lv_iadd hx hb dX8_firstHourOf_24 ?_
          refine lv_topi (fun x10 ex10 => ?_)
          have h := h x10 ex10
          refine lv_istore_n (lv' := [(2, .int x10), (0, .ref v0), (1, .int v1), (3, .int b4_3)]) hx hb dX8_firstHourOf_25 rfl hl (by decide) rfl (fun ls hl => ?_)
          obtain ⟨x11, ex11⟩ : ∃ y : Int32, y = b4_3 + (1 : Int32) := ⟨_, rfl⟩
          have h := h x11 ex11
          refine lv_iinc (v := x11) (lv' := [(3, .int x11), (2, .int x10), (0, .ref v0), (1, .int v1)]) hx hb dX8_firstHourOf_26 hl (k := 3) rfl (by rw [ex11]; rfl) (by decide) rfl (fun ls hl => ?_)
          refine lv_goto (tgt := 4) hx hb dX8_firstHourOf_29 (by decide) ?_
          exact ih_4 _ _ h ls (lv_sub hl [2, 3, 1, 0] rfl)
  refine lv_iconst (v := (0 : Int32)) hx hb dX8_firstHourOf_0 (by decide) ?_
  refine lv_istore_n (lv' := [(2, .int (0 : Int32)), (0, .ref v0), (1, .int v1)]) hx hb dX8_firstHourOf_1 rfl hl (by decide) rfl (fun ls hl => ?_)
  refine lv_iconst (v := (0 : Int32)) hx hb dX8_firstHourOf_2 (by decide) ?_
  refine lv_istore_n (lv' := [(3, .int (0 : Int32)), (2, .int (0 : Int32)), (0, .ref v0), (1, .int v1)]) hx hb dX8_firstHourOf_3 rfl hl (by decide) rfl (fun ls hl => ?_)
  obtain ⟨n1, h⟩ := h
  exact J_4 n1 _ _ h ls (lv_sub hl [2, 3, 1, 0] rfl)
def wp_X8_shipsAt (post : Int32 → Prop) (X : Hp) (v0 : Nat) (v1 : Int32) : Prop := (v1 < 0 → post (0 : Int32)) ∧ (¬ v1 < 0 → ∃ (fs2 : List Value) (y3 : Int32), Hs X v0 (.inr (8, fs2)) ∧ fs2[1]? = some (.int y3) ∧ (y3 ≤ v1 → post (0 : Int32)) ∧ (¬ y3 ≤ v1 → ∃ (fs5 : List Value) (y6 : Nat), Hs X v0 (.inr (8, fs5)) ∧ fs5[5]? = some (.ref y6) ∧ ∃ (n7 : Nat) (f8 : Nat → Int32), Hs X y6 (.inl (0, n7, .inl f8)) ∧ vp_in v1 n7 ∧ post (f8 v1.toNatClampNeg)))
set_option maxHeartbeats 4000000 in
set_option maxRecDepth 100000 in
theorem c_X8_shipsAt (l : Launch) (D : va_G) (kA : Nat → ClassId) (post : Int32 → Prop) (X : Hp) (v0 : Nat) (v1 : Int32) (h : wp_X8_shipsAt post X v0 v1) : Met l yX8_shipsAt (.code yX8_shipsAt cX8_shipsAt 2 (some .int) :: gd) (rmO 0 0 0 0) (va_Pc [Value.ref v0, Value.int v1] (Pre D kA X)) (vp_Si post) 0 0 (fun _ => False) := by
  unfold wp_X8_shipsAt at h
  refine x_enR (by decide) (Nat.le_of_ble_eq_true rfl) ?_
  intro p e s m below meth c G hr hlk hP ls hl
  obtain ⟨hx, hb, hml, hown, hts, hE, hK⟩ := id G
  have hl : lv_has ls 2 [(0, .ref v0), (1, .int v1)] := hl
  refine lv_iload_n hx hb dX8_shipsAt_0 rfl (lv_at hl 1 rfl) ?_
  refine lv_if_lt (tgt := 21) hx hb dX8_shipsAt_1 (by decide) (fun c1 => ?_) (fun c1 => ?_)
  · have h := h.1 c1
    refine lv_iconst (v := (0 : Int32)) hx hb dX8_shipsAt_21 (by decide) ?_
    exact x_iretR G hr hlk h dX8_shipsAt_22
  · have h := h.2 c1
    refine lv_iload_n hx hb dX8_shipsAt_4 rfl (lv_at hl 1 rfl) ?_
    refine lv_aload_n hx hb dX8_shipsAt_5 rfl (lv_at hl 0 rfl) ?_
    obtain ⟨fs2, y3, hfs2, hvfs2, h⟩ := h
    refine x_get G hP hfs2 hvfs2 fl_X8_31 dX8_shipsAt_6 ?_
    refine lv_icmp_ge (tgt := 21) hx hb dX8_shipsAt_9 (by decide) (fun c4 => ?_) (fun c4 => ?_)
    · have h := h.1 c4
      refine lv_iconst (v := (0 : Int32)) hx hb dX8_shipsAt_21 (by decide) ?_
      exact x_iretR G hr hlk h dX8_shipsAt_22
    · have h := h.2 c4
      refine lv_aload_n hx hb dX8_shipsAt_12 rfl (lv_at hl 0 rfl) ?_
      obtain ⟨fs5, y6, hfs5, hvfs5, h⟩ := h
      refine x_get G hP hfs5 hvfs5 fl_X8_21 dX8_shipsAt_13 ?_
      refine lv_iload_n hx hb dX8_shipsAt_16 rfl (lv_at hl 1 rfl) ?_
      obtain ⟨n7, f8, hf8, hif8, h⟩ := h
      refine x_iald G hP hf8 hif8 dX8_shipsAt_17 ?_
      refine lv_goto (tgt := 22) hx hb dX8_shipsAt_18 (by decide) ?_
      exact x_iretR G hr hlk h dX8_shipsAt_22
def wp_X8_squallAt (post : Int32 → Prop) (X : Hp) (v0 : Nat) (v1 : Int32) : Prop := (v1 < 0 → post (0 : Int32)) ∧ (¬ v1 < 0 → ∃ (fs2 : List Value) (y3 : Int32), Hs X v0 (.inr (8, fs2)) ∧ fs2[1]? = some (.int y3) ∧ (y3 ≤ v1 → post (0 : Int32)) ∧ (¬ y3 ≤ v1 → ∃ (fs5 : List Value) (y6 : Nat), Hs X v0 (.inr (8, fs5)) ∧ fs5[6]? = some (.ref y6) ∧ ∃ (n7 : Nat) (f8 : Nat → Int32), Hs X y6 (.inl (0, n7, .inl f8)) ∧ vp_in v1 n7 ∧ (¬ (f8 v1.toNatClampNeg) = (1 : Int32) → post (0 : Int32)) ∧ ((f8 v1.toNatClampNeg) = (1 : Int32) → post (1 : Int32))))
set_option maxHeartbeats 4000000 in
set_option maxRecDepth 100000 in
theorem c_X8_squallAt (l : Launch) (D : va_G) (kA : Nat → ClassId) (post : Int32 → Prop) (X : Hp) (v0 : Nat) (v1 : Int32) (h : wp_X8_squallAt post X v0 v1) : Met l yX8_squallAt (.code yX8_squallAt cX8_squallAt 2 (some .boolean) :: gd) (rmO 0 0 0 0) (va_Pc [Value.ref v0, Value.int v1] (Pre D kA X)) (vp_Si post) 0 0 (fun _ => False) := by
  unfold wp_X8_squallAt at h
  refine x_enR (by decide) (Nat.le_of_ble_eq_true rfl) ?_
  intro p e s m below meth c G hr hlk hP ls hl
  obtain ⟨hx, hb, hml, hown, hts, hE, hK⟩ := id G
  have hl : lv_has ls 2 [(0, .ref v0), (1, .int v1)] := hl
  refine lv_iload_n hx hb dX8_squallAt_0 rfl (lv_at hl 1 rfl) ?_
  refine lv_if_lt (tgt := 26) hx hb dX8_squallAt_1 (by decide) (fun c1 => ?_) (fun c1 => ?_)
  · have h := h.1 c1
    refine lv_iconst (v := (0 : Int32)) hx hb dX8_squallAt_26 (by decide) ?_
    exact x_zretR G hr hlk (Or.inl rfl) h dX8_squallAt_27
  · have h := h.2 c1
    refine lv_iload_n hx hb dX8_squallAt_4 rfl (lv_at hl 1 rfl) ?_
    refine lv_aload_n hx hb dX8_squallAt_5 rfl (lv_at hl 0 rfl) ?_
    obtain ⟨fs2, y3, hfs2, hvfs2, h⟩ := h
    refine x_get G hP hfs2 hvfs2 fl_X8_31 dX8_squallAt_6 ?_
    refine lv_icmp_ge (tgt := 26) hx hb dX8_squallAt_9 (by decide) (fun c4 => ?_) (fun c4 => ?_)
    · have h := h.1 c4
      refine lv_iconst (v := (0 : Int32)) hx hb dX8_squallAt_26 (by decide) ?_
      exact x_zretR G hr hlk (Or.inl rfl) h dX8_squallAt_27
    · have h := h.2 c4
      refine lv_aload_n hx hb dX8_squallAt_12 rfl (lv_at hl 0 rfl) ?_
      obtain ⟨fs5, y6, hfs5, hvfs5, h⟩ := h
      refine x_get G hP hfs5 hvfs5 fl_X8_24 dX8_squallAt_13 ?_
      refine lv_iload_n hx hb dX8_squallAt_16 rfl (lv_at hl 1 rfl) ?_
      obtain ⟨n7, f8, hf8, hif8, h⟩ := h
      refine x_iald G hP hf8 hif8 dX8_squallAt_17 ?_
      refine lv_iconst (v := (1 : Int32)) hx hb dX8_squallAt_18 (by decide) ?_
      refine lv_icmp_ne (tgt := 26) hx hb dX8_squallAt_19 (by decide) (fun c9 => ?_) (fun c9 => ?_)
      · have h := h.1 c9
        refine lv_iconst (v := (0 : Int32)) hx hb dX8_squallAt_26 (by decide) ?_
        exact x_zretR G hr hlk (Or.inl rfl) h dX8_squallAt_27
      · have h := h.2 c9
        refine lv_iconst (v := (1 : Int32)) hx hb dX8_squallAt_22 (by decide) ?_
        refine lv_goto (tgt := 27) hx hb dX8_squallAt_23 (by decide) ?_
        exact x_zretR G hr hlk (Or.inr rfl) h dX8_squallAt_27
def wp_X8_lets (post : Int32 → Prop) (X : Hp) (v0 : Nat) (v1 : Int32) (v2 : Int32) : Prop := ∃ fs14 : List Value, Hs X v0 (.inr (8, fs14)) ∧ wp_X8_hasHour (fun r1 => (¬ r1 = 0 → (¬ v2 = 0 → ∃ fs13 : List Value, Hs X v0 (.inr (8, fs13)) ∧ wp_X8_squallAt (fun r4 => (r4 = 0 → (¬ v2 = (3 : Int32) → post (1 : Int32)) ∧ (v2 = (3 : Int32) → ∃ fs12 : List Value, Hs X v0 (.inr (8, fs12)) ∧ wp_X8_hasHour (fun r7 => (r7 = 0 → post (0 : Int32)) ∧ (¬ r7 = 0 → ∃ fs11 : List Value, Hs X v0 (.inr (8, fs11)) ∧ wp_X8_squallAt (fun r9 => (¬ r9 = 0 → post (0 : Int32)) ∧ (r9 = 0 → post (1 : Int32)))  X v0 (v1 + (1 : Int32))))  X v0 (v1 + (1 : Int32)))) ∧ (¬ r4 = 0 → post (0 : Int32)))  X v0 v1) ∧ (v2 = 0 → post (1 : Int32))) ∧ (r1 = 0 → post (0 : Int32)))  X v0 v1
set_option maxHeartbeats 4000000 in
set_option maxRecDepth 100000 in
theorem c_X8_lets (l : Launch) (D : va_G) (kA : Nat → ClassId) (post : Int32 → Prop) (X : Hp) (v0 : Nat) (v1 : Int32) (v2 : Int32) (h : wp_X8_lets post X v0 v1 v2) : Met l yX8_lets (.code yX8_lets cX8_lets 3 (some .boolean) :: gd) (rmO 1 0 0 21) (va_Pc [Value.ref v0, Value.int v1, Value.int v2] (Pre D kA X)) (vp_Si post) 0 0 (fun _ => False) := by
  unfold wp_X8_lets at h
  refine x_enR (by decide) (Nat.le_of_ble_eq_true rfl) ?_
  intro p e s m below meth c G hr hlk hP ls hl
  obtain ⟨hx, hb, hml, hown, hts, hE, hK⟩ := id G
  have hl : lv_has ls 3 [(0, .ref v0), (1, .int v1), (2, .int v2)] := hl
  refine lv_aload_n hx hb dX8_lets_0 rfl (lv_at hl 0 rfl) ?_
  refine lv_iload_n hx hb dX8_lets_1 rfl (lv_at hl 1 rfl) ?_
  obtain ⟨fs14, hfs14, h⟩ := h
  refine x_cRVi (As := [.int v1]) (rest := []) G hP hfs14 rfl rfl (c_X8_hasHour l D kA _ _ v0 v1 h) cd_X8_hasHour ml_X8_42 ⟨(Nat.le_of_ble_eq_true rfl), (Nat.le_of_ble_eq_true rfl)⟩ rfl hl.1 rfl (Nat.le_of_ble_eq_true rfl) dX8_lets_2 ⟨Nat.zero_le _, Nat.zero_le _⟩ (fun r1 h => ?_)
  refine lv_if_ne (tgt := 10) hx hb dX8_lets_5 (by decide) (fun c2 => ?_) (fun c2 => ?_)
  · have h := h.1 c2
    refine lv_iload_n hx hb dX8_lets_10 rfl (lv_at hl 2 rfl) ?_
    refine lv_if_ne (tgt := 16) hx hb dX8_lets_11 (by decide) (fun c3 => ?_) (fun c3 => ?_)
    · have h := h.1 c3
      refine lv_aload_n hx hb dX8_lets_16 rfl (lv_at hl 0 rfl) ?_
      refine lv_iload_n hx hb dX8_lets_17 rfl (lv_at hl 1 rfl) ?_
      obtain ⟨fs13, hfs13, h⟩ := h
      refine x_cRVi (As := [.int v1]) (rest := []) G hP hfs13 rfl rfl (c_X8_squallAt l D kA _ _ v0 v1 h) cd_X8_squallAt ml_X8_45 ⟨(Nat.le_of_ble_eq_true rfl), (Nat.le_of_ble_eq_true rfl)⟩ rfl hl.1 rfl (Nat.le_of_ble_eq_true rfl) dX8_lets_18 ⟨Nat.zero_le _, Nat.zero_le _⟩ (fun r4 h => ?_)
      refine lv_if_eq (tgt := 26) hx hb dX8_lets_21 (by decide) (fun c5 => ?_) (fun c5 => ?_)
      · have h := h.1 c5
        refine lv_iload_n hx hb dX8_lets_26 rfl (lv_at hl 2 rfl) ?_
        refine lv_iconst (v := (3 : Int32)) hx hb dX8_lets_27 (by decide) ?_
        refine lv_icmp_ne (tgt := 51) hx hb dX8_lets_28 (by decide) (fun c6 => ?_) (fun c6 => ?_)
        · have h := h.1 c6
          refine lv_iconst (v := (1 : Int32)) hx hb dX8_lets_51 (by decide) ?_
          refine lv_goto (tgt := 56) hx hb dX8_lets_52 (by decide) ?_
          exact x_zretR G hr hlk (Or.inr rfl) h dX8_lets_56
        · have h := h.2 c6
          refine lv_aload_n hx hb dX8_lets_31 rfl (lv_at hl 0 rfl) ?_
          refine lv_iload_n hx hb dX8_lets_32 rfl (lv_at hl 1 rfl) ?_
          refine lv_iconst (v := (1 : Int32)) hx hb dX8_lets_33 (by decide) ?_
          refine lv_iadd hx hb dX8_lets_34 ?_
          obtain ⟨fs12, hfs12, h⟩ := h
          refine x_cRVi (As := [.int (v1 + (1 : Int32))]) (rest := []) G hP hfs12 rfl rfl (c_X8_hasHour l D kA _ _ v0 (v1 + (1 : Int32)) h) cd_X8_hasHour ml_X8_42 ⟨(Nat.le_of_ble_eq_true rfl), (Nat.le_of_ble_eq_true rfl)⟩ rfl hl.1 rfl (Nat.le_of_ble_eq_true rfl) dX8_lets_35 ⟨Nat.zero_le _, Nat.zero_le _⟩ (fun r7 h => ?_)
          refine lv_if_eq (tgt := 55) hx hb dX8_lets_38 (by decide) (fun c8 => ?_) (fun c8 => ?_)
          · have h := h.1 c8
            refine lv_iconst (v := (0 : Int32)) hx hb dX8_lets_55 (by decide) ?_
            exact x_zretR G hr hlk (Or.inl rfl) h dX8_lets_56
          · have h := h.2 c8
            refine lv_aload_n hx hb dX8_lets_41 rfl (lv_at hl 0 rfl) ?_
            refine lv_iload_n hx hb dX8_lets_42 rfl (lv_at hl 1 rfl) ?_
            refine lv_iconst (v := (1 : Int32)) hx hb dX8_lets_43 (by decide) ?_
            refine lv_iadd hx hb dX8_lets_44 ?_
            obtain ⟨fs11, hfs11, h⟩ := h
            refine x_cRVi (As := [.int (v1 + (1 : Int32))]) (rest := []) G hP hfs11 rfl rfl (c_X8_squallAt l D kA _ _ v0 (v1 + (1 : Int32)) h) cd_X8_squallAt ml_X8_45 ⟨(Nat.le_of_ble_eq_true rfl), (Nat.le_of_ble_eq_true rfl)⟩ rfl hl.1 rfl (Nat.le_of_ble_eq_true rfl) dX8_lets_45 ⟨Nat.zero_le _, Nat.zero_le _⟩ (fun r9 h => ?_)
            refine lv_if_ne (tgt := 55) hx hb dX8_lets_48 (by decide) (fun c10 => ?_) (fun c10 => ?_)
            · have h := h.1 c10
              refine lv_iconst (v := (0 : Int32)) hx hb dX8_lets_55 (by decide) ?_
              exact x_zretR G hr hlk (Or.inl rfl) h dX8_lets_56
            · have h := h.2 c10
              refine lv_iconst (v := (1 : Int32)) hx hb dX8_lets_51 (by decide) ?_
              refine lv_goto (tgt := 56) hx hb dX8_lets_52 (by decide) ?_
              exact x_zretR G hr hlk (Or.inr rfl) h dX8_lets_56
      · have h := h.2 c5
        refine lv_iconst (v := (0 : Int32)) hx hb dX8_lets_24 (by decide) ?_
        exact x_zretR G hr hlk (Or.inl rfl) h dX8_lets_25
    · have h := h.2 c3
      refine lv_iconst (v := (1 : Int32)) hx hb dX8_lets_14 (by decide) ?_
      exact x_zretR G hr hlk (Or.inr rfl) h dX8_lets_15
  · have h := h.2 c2
    refine lv_iconst (v := (0 : Int32)) hx hb dX8_lets_8 (by decide) ?_
    exact x_zretR G hr hlk (Or.inl rfl) h dX8_lets_9
set_option maxRecDepth 100000 in
def wp_X8_copy (post : Hp → Prop) (X : Hp) (v0 : Nat) (v1 : Nat) : Prop := ∃ (fs1 : List Value) (y2 : Int32), Hs X v1 (.inr (8, fs1)) ∧ fs1[0]? = some (.int y2) ∧ ∃ (fs3 : List Value), Hs X v0 (.inr (8, fs3)) ∧ 0 < fs3.length ∧ ∀ X4 : Hp, X4 = hput X v0 (.inr (8, fs3.set 0 (.int y2))) → ∃ (fs5 : List Value) (y6 : Int32), Hs X4 v1 (.inr (8, fs5)) ∧ fs5[1]? = some (.int y6) ∧ ∃ (fs7 : List Value), Hs X4 v0 (.inr (8, fs7)) ∧ 1 < fs7.length ∧ ∀ X8 : Hp, X8 = hput X4 v0 (.inr (8, fs7.set 1 (.int y6))) → ∃ (fs9 : List Value) (y10 : Nat), Hs X8 v1 (.inr (8, fs9)) ∧ fs9[2]? = some (.ref y10) ∧ ∃ (fs11 : List Value) (y12 : Nat), Hs X8 v0 (.inr (8, fs11)) ∧ fs11[2]? = some (.ref y12) ∧ ∃ (n13 n14 : Nat) (f15 f16 : Nat → Int32), Hs X8 y10 (.inl (0, n13, .inl f15)) ∧ Hs X8 y12 (.inl (0, n14, .inl f16)) ∧ ¬ (0 : Int32) < 0 ∧ ¬ (0 : Int32) < 0 ∧ ¬ (8 : Int32) < 0 ∧ (0 : Int32).toNatClampNeg + (8 : Int32).toNatClampNeg ≤ n13 ∧ (0 : Int32).toNatClampNeg + (8 : Int32).toNatClampNeg ≤ n14 ∧ ∀ X17 : Hp, X17 = hput X8 y12 (.inl (0, n14, .inl (va_cpy f15 f16 (0 : Int32).toNatClampNeg (0 : Int32).toNatClampNeg (8 : Int32).toNatClampNeg))) → ∃ (fs18 : List Value) (y19 : Nat), Hs X17 v1 (.inr (8, fs18)) ∧ fs18[3]? = some (.ref y19) ∧ ∃ (fs20 : List Value) (y21 : Nat), Hs X17 v0 (.inr (8, fs20)) ∧ fs20[3]? = some (.ref y21) ∧ ∃ (n22 n23 : Nat) (f24 f25 : Nat → Int32), Hs X17 y19 (.inl (0, n22, .inl f24)) ∧ Hs X17 y21 (.inl (0, n23, .inl f25)) ∧ ¬ (0 : Int32) < 0 ∧ ¬ (0 : Int32) < 0 ∧ ¬ (8 : Int32) < 0 ∧ (0 : Int32).toNatClampNeg + (8 : Int32).toNatClampNeg ≤ n22 ∧ (0 : Int32).toNatClampNeg + (8 : Int32).toNatClampNeg ≤ n23 ∧ ∀ X26 : Hp, X26 = hput X17 y21 (.inl (0, n23, .inl (va_cpy f24 f25 (0 : Int32).toNatClampNeg (0 : Int32).toNatClampNeg (8 : Int32).toNatClampNeg))) → ∃ (fs27 : List Value) (y28 : Nat), Hs X26 v1 (.inr (8, fs27)) ∧ fs27[4]? = some (.ref y28) ∧ ∃ (fs29 : List Value) (y30 : Nat), Hs X26 v0 (.inr (8, fs29)) ∧ fs29[4]? = some (.ref y30) ∧ ∃ (n31 n32 : Nat) (f33 f34 : Nat → Int32), Hs X26 y28 (.inl (0, n31, .inl f33)) ∧ Hs X26 y30 (.inl (0, n32, .inl f34)) ∧ ¬ (0 : Int32) < 0 ∧ ¬ (0 : Int32) < 0 ∧ ¬ (8 : Int32) < 0 ∧ (0 : Int32).toNatClampNeg + (8 : Int32).toNatClampNeg ≤ n31 ∧ (0 : Int32).toNatClampNeg + (8 : Int32).toNatClampNeg ≤ n32 ∧ ∀ X35 : Hp, X35 = hput X26 y30 (.inl (0, n32, .inl (va_cpy f33 f34 (0 : Int32).toNatClampNeg (0 : Int32).toNatClampNeg (8 : Int32).toNatClampNeg))) → ∃ (fs36 : List Value) (y37 : Nat), Hs X35 v1 (.inr (8, fs36)) ∧ fs36[5]? = some (.ref y37) ∧ ∃ (fs38 : List Value) (y39 : Nat), Hs X35 v0 (.inr (8, fs38)) ∧ fs38[5]? = some (.ref y39) ∧ ∃ (n40 n41 : Nat) (f42 f43 : Nat → Int32), Hs X35 y37 (.inl (0, n40, .inl f42)) ∧ Hs X35 y39 (.inl (0, n41, .inl f43)) ∧ ¬ (0 : Int32) < 0 ∧ ¬ (0 : Int32) < 0 ∧ ¬ (48 : Int32) < 0 ∧ (0 : Int32).toNatClampNeg + (48 : Int32).toNatClampNeg ≤ n40 ∧ (0 : Int32).toNatClampNeg + (48 : Int32).toNatClampNeg ≤ n41 ∧ ∀ X44 : Hp, X44 = hput X35 y39 (.inl (0, n41, .inl (va_cpy f42 f43 (0 : Int32).toNatClampNeg (0 : Int32).toNatClampNeg (48 : Int32).toNatClampNeg))) → ∃ (fs45 : List Value) (y46 : Nat), Hs X44 v1 (.inr (8, fs45)) ∧ fs45[6]? = some (.ref y46) ∧ ∃ (fs47 : List Value) (y48 : Nat), Hs X44 v0 (.inr (8, fs47)) ∧ fs47[6]? = some (.ref y48) ∧ ∃ (n49 n50 : Nat) (f51 f52 : Nat → Int32), Hs X44 y46 (.inl (0, n49, .inl f51)) ∧ Hs X44 y48 (.inl (0, n50, .inl f52)) ∧ ¬ (0 : Int32) < 0 ∧ ¬ (0 : Int32) < 0 ∧ ¬ (48 : Int32) < 0 ∧ (0 : Int32).toNatClampNeg + (48 : Int32).toNatClampNeg ≤ n49 ∧ (0 : Int32).toNatClampNeg + (48 : Int32).toNatClampNeg ≤ n50 ∧ ∀ X53 : Hp, X53 = hput X44 y48 (.inl (0, n50, .inl (va_cpy f51 f52 (0 : Int32).toNatClampNeg (0 : Int32).toNatClampNeg (48 : Int32).toNatClampNeg))) → post X53
set_option maxHeartbeats 4000000 in
set_option maxRecDepth 100000 in
theorem c_X8_copy (l : Launch) (D : va_G) (kA : Nat → ClassId) (post : Hp → Prop) (X : Hp) (sz : Nat) (v0 : Nat) (v1 : Nat) (h : wp_X8_copy post X v0 v1) : Met l yX8_copy (.code yX8_copy cX8_copy 2 none :: gd) (rmO 1 0 0 60) (va_Pc [Value.ref v0, Value.ref v1] (PreM D kA X sz)) (va_Qv post (PoM D kA X sz) (va_A (hw kA X) sz)) 0 0 (va_A (hw kA X) sz) := by
  unfold wp_X8_copy at h
  refine x_enM (by decide) (Nat.le_of_ble_eq_true rfl) ?_
  intro p e s m below meth c G hr hlk hin hsz hA S ls hl
  obtain ⟨hx, hb, hml, hown, hts, hE, hK⟩ := id G
  have hl : lv_has ls 2 [(0, .ref v0), (1, .ref v1)] := hl
  refine lv_aload_n hx hb dX8_copy_0 rfl (lv_at hl 0 rfl) ?_
  refine lv_aload_n hx hb dX8_copy_1 rfl (lv_at hl 1 rfl) ?_
  obtain ⟨fs1, y2, hfs1, hvfs1, h⟩ := h
  refine x_get G S.1 hfs1 hvfs1 fl_X8_27 dX8_copy_2 ?_
  obtain ⟨fs3, hfs3, hkfs3, h⟩ := h
  have h := h _ rfl
  refine x_put G S hfs3 hkfs3 rfl rfl fw_X8_27 dX8_copy_5 (fun H locs S => ?_)
  refine lv_aload_n hx hb dX8_copy_8 rfl (lv_at hl 0 rfl) ?_
  refine lv_aload_n hx hb dX8_copy_9 rfl (lv_at hl 1 rfl) ?_
  obtain ⟨fs5, y6, hfs5, hvfs5, h⟩ := h
  refine x_get G S.1 hfs5 hvfs5 fl_X8_31 dX8_copy_10 ?_
  obtain ⟨fs7, hfs7, hkfs7, h⟩ := h
  have h := h _ rfl
  refine x_put G S hfs7 hkfs7 rfl rfl fw_X8_31 dX8_copy_13 (fun H locs S => ?_)
  refine lv_aload_n hx hb dX8_copy_16 rfl (lv_at hl 1 rfl) ?_
  obtain ⟨fs9, y10, hfs9, hvfs9, h⟩ := h
  refine x_get G S.1 hfs9 hvfs9 fl_X8_9 dX8_copy_17 ?_
  refine lv_iconst (v := (0 : Int32)) hx hb dX8_copy_20 (by decide) ?_
  refine lv_aload_n hx hb dX8_copy_21 rfl (lv_at hl 0 rfl) ?_
  obtain ⟨fs11, y12, hfs11, hvfs11, h⟩ := h
  refine x_get G S.1 hfs11 hvfs11 fl_X8_9 dX8_copy_22 ?_
  refine lv_iconst (v := (0 : Int32)) hx hb dX8_copy_25 (by decide) ?_
  refine lv_bipush (v := (8 : Int32)) hx hb dX8_copy_26 (by decide) ?_
  obtain ⟨n13, n14, f15, f16, hs0, hs1, i1, i2, i3, i4, i5, h⟩ := h
  have h := h _ rfl
  refine x_copyi G S hl.1 mk_X8_48 ac_nat ac_sta mi_sys hs0 hs1 i1 i2 i3 i4 i5 (Nat.le_of_ble_eq_true rfl) (Nat.le_of_ble_eq_true rfl) dX8_copy_28 (fun H locs S => ?_)
  refine lv_aload_n hx hb dX8_copy_31 rfl (lv_at hl 1 rfl) ?_
  obtain ⟨fs18, y19, hfs18, hvfs18, h⟩ := h
  refine x_get G S.1 hfs18 hvfs18 fl_X8_15 dX8_copy_32 ?_
  refine lv_iconst (v := (0 : Int32)) hx hb dX8_copy_35 (by decide) ?_
  refine lv_aload_n hx hb dX8_copy_36 rfl (lv_at hl 0 rfl) ?_
  obtain ⟨fs20, y21, hfs20, hvfs20, h⟩ := h
  refine x_get G S.1 hfs20 hvfs20 fl_X8_15 dX8_copy_37 ?_
  refine lv_iconst (v := (0 : Int32)) hx hb dX8_copy_40 (by decide) ?_
  refine lv_bipush (v := (8 : Int32)) hx hb dX8_copy_41 (by decide) ?_
  obtain ⟨n22, n23, f24, f25, hs0, hs1, i1, i2, i3, i4, i5, h⟩ := h
  have h := h _ rfl
  refine x_copyi G S hl.1 mk_X8_48 ac_nat ac_sta mi_sys hs0 hs1 i1 i2 i3 i4 i5 (Nat.le_of_ble_eq_true rfl) (Nat.le_of_ble_eq_true rfl) dX8_copy_43 (fun H locs S => ?_)
  refine lv_aload_n hx hb dX8_copy_46 rfl (lv_at hl 1 rfl) ?_
  obtain ⟨fs27, y28, hfs27, hvfs27, h⟩ := h
  refine x_get G S.1 hfs27 hvfs27 fl_X8_18 dX8_copy_47 ?_
  refine lv_iconst (v := (0 : Int32)) hx hb dX8_copy_50 (by decide) ?_
  refine lv_aload_n hx hb dX8_copy_51 rfl (lv_at hl 0 rfl) ?_
  obtain ⟨fs29, y30, hfs29, hvfs29, h⟩ := h
  refine x_get G S.1 hfs29 hvfs29 fl_X8_18 dX8_copy_52 ?_
  refine lv_iconst (v := (0 : Int32)) hx hb dX8_copy_55 (by decide) ?_
  refine lv_bipush (v := (8 : Int32)) hx hb dX8_copy_56 (by decide) ?_
  obtain ⟨n31, n32, f33, f34, hs0, hs1, i1, i2, i3, i4, i5, h⟩ := h
  have h := h _ rfl
  refine x_copyi G S hl.1 mk_X8_48 ac_nat ac_sta mi_sys hs0 hs1 i1 i2 i3 i4 i5 (Nat.le_of_ble_eq_true rfl) (Nat.le_of_ble_eq_true rfl) dX8_copy_58 (fun H locs S => ?_)
  refine lv_aload_n hx hb dX8_copy_61 rfl (lv_at hl 1 rfl) ?_
  obtain ⟨fs36, y37, hfs36, hvfs36, h⟩ := h
  refine x_get G S.1 hfs36 hvfs36 fl_X8_21 dX8_copy_62 ?_
  refine lv_iconst (v := (0 : Int32)) hx hb dX8_copy_65 (by decide) ?_
  refine lv_aload_n hx hb dX8_copy_66 rfl (lv_at hl 0 rfl) ?_
  obtain ⟨fs38, y39, hfs38, hvfs38, h⟩ := h
  refine x_get G S.1 hfs38 hvfs38 fl_X8_21 dX8_copy_67 ?_
  refine lv_iconst (v := (0 : Int32)) hx hb dX8_copy_70 (by decide) ?_
  refine lv_bipush (v := (48 : Int32)) hx hb dX8_copy_71 (by decide) ?_
  obtain ⟨n40, n41, f42, f43, hs0, hs1, i1, i2, i3, i4, i5, h⟩ := h
  have h := h _ rfl
  refine x_copyi G S hl.1 mk_X8_48 ac_nat ac_sta mi_sys hs0 hs1 i1 i2 i3 i4 i5 (Nat.le_of_ble_eq_true rfl) (Nat.le_of_ble_eq_true rfl) dX8_copy_73 (fun H locs S => ?_)
  refine lv_aload_n hx hb dX8_copy_76 rfl (lv_at hl 1 rfl) ?_
  obtain ⟨fs45, y46, hfs45, hvfs45, h⟩ := h
  refine x_get G S.1 hfs45 hvfs45 fl_X8_24 dX8_copy_77 ?_
  refine lv_iconst (v := (0 : Int32)) hx hb dX8_copy_80 (by decide) ?_
  refine lv_aload_n hx hb dX8_copy_81 rfl (lv_at hl 0 rfl) ?_
  obtain ⟨fs47, y48, hfs47, hvfs47, h⟩ := h
  refine x_get G S.1 hfs47 hvfs47 fl_X8_24 dX8_copy_82 ?_
  refine lv_iconst (v := (0 : Int32)) hx hb dX8_copy_85 (by decide) ?_
  refine lv_bipush (v := (48 : Int32)) hx hb dX8_copy_86 (by decide) ?_
  obtain ⟨n49, n50, f51, f52, hs0, hs1, i1, i2, i3, i4, i5, h⟩ := h
  have h := h _ rfl
  refine x_copyi G S hl.1 mk_X8_48 ac_nat ac_sta mi_sys hs0 hs1 i1 i2 i3 i4 i5 (Nat.le_of_ble_eq_true rfl) (Nat.le_of_ble_eq_true rfl) dX8_copy_88 (fun H locs S => ?_)
  exact x_vretM G hr hlk S (Nat.le_refl _) (Nat.le_refl _) h dX8_copy_91
