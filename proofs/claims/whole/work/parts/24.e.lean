set_option maxRecDepth 100000 in
def wp_X10_init (post : Hp → Prop) (mc ms : Nat) (X : Hp) (v0 : Nat) : Prop := 0 + 1 ≤ mc ∧ 0 + 16 ≤ ms ∧ ∀ q1 : Nat, q1 ∉ X.1 → ∀ X2 : Hp, X2 = hadd X q1 (.inl (0, 16, .inl (fun _ => 0))) → ∃ (fs3 : List Value), Hs X2 v0 (.inr (10, fs3)) ∧ 0 < fs3.length ∧ ∀ X4 : Hp, X4 = hput X2 v0 (.inr (10, fs3.set 0 (.ref q1))) → (0 + 1) + 1 ≤ mc ∧ (0 + 16) + 16 ≤ ms ∧ ∀ q5 : Nat, q5 ∉ X4.1 → ∀ X6 : Hp, X6 = hadd X4 q5 (.inl (0, 16, .inl (fun _ => 0))) → ∃ (fs7 : List Value), Hs X6 v0 (.inr (10, fs7)) ∧ 1 < fs7.length ∧ ∀ X8 : Hp, X8 = hput X6 v0 (.inr (10, fs7.set 1 (.ref q5))) → ((0 + 1) + 1) + 1 ≤ mc ∧ ((0 + 16) + 16) + 16 ≤ ms ∧ ∀ q9 : Nat, q9 ∉ X8.1 → ∀ X10 : Hp, X10 = hadd X8 q9 (.inl (0, 16, .inl (fun _ => 0))) → ∃ (fs11 : List Value), Hs X10 v0 (.inr (10, fs11)) ∧ 2 < fs11.length ∧ ∀ X12 : Hp, X12 = hput X10 v0 (.inr (10, fs11.set 2 (.ref q9))) → (((0 + 1) + 1) + 1) + 1 ≤ mc ∧ (((0 + 16) + 16) + 16) + 2 ≤ ms ∧ ∀ q13 : Nat, q13 ∉ X12.1 → ∀ X14 : Hp, X14 = hadd X12 q13 (.inl (0, 2, .inl (fun _ => 0))) → ∃ (fs15 : List Value), Hs X14 v0 (.inr (10, fs15)) ∧ 3 < fs15.length ∧ ∀ X16 : Hp, X16 = hput X14 v0 (.inr (10, fs15.set 3 (.ref q13))) → ((((0 + 1) + 1) + 1) + 1) + 1 ≤ mc ∧ ((((0 + 16) + 16) + 16) + 2) + 2 ≤ ms ∧ ∀ q17 : Nat, q17 ∉ X16.1 → ∀ X18 : Hp, X18 = hadd X16 q17 (.inl (0, 2, .inl (fun _ => 0))) → ∃ (fs19 : List Value), Hs X18 v0 (.inr (10, fs19)) ∧ 4 < fs19.length ∧ ∀ X20 : Hp, X20 = hput X18 v0 (.inr (10, fs19.set 4 (.ref q17))) → (((((0 + 1) + 1) + 1) + 1) + 1) + 1 ≤ mc ∧ (((((0 + 16) + 16) + 16) + 2) + 2) + 96 ≤ ms ∧ ∀ q21 : Nat, q21 ∉ X20.1 → ∀ X22 : Hp, X22 = hadd X20 q21 (.inl (0, 96, .inl (fun _ => 0))) → ∃ (fs23 : List Value), Hs X22 v0 (.inr (10, fs23)) ∧ 5 < fs23.length ∧ ∀ X24 : Hp, X24 = hput X22 v0 (.inr (10, fs23.set 5 (.ref q21))) → ((((((0 + 1) + 1) + 1) + 1) + 1) + 1) + 1 ≤ mc ∧ ((((((0 + 16) + 16) + 16) + 2) + 2) + 96) + 96 ≤ ms ∧ ∀ q25 : Nat, q25 ∉ X24.1 → ∀ X26 : Hp, X26 = hadd X24 q25 (.inl (0, 96, .inl (fun _ => 0))) → ∃ (fs27 : List Value), Hs X26 v0 (.inr (10, fs27)) ∧ 6 < fs27.length ∧ ∀ X28 : Hp, X28 = hput X26 v0 (.inr (10, fs27.set 6 (.ref q25))) → (((((((0 + 1) + 1) + 1) + 1) + 1) + 1) + 1) + 1 ≤ mc ∧ (((((((0 + 16) + 16) + 16) + 2) + 2) + 96) + 96) + 3 ≤ ms ∧ ∀ q29 : Nat, q29 ∉ X28.1 → ∀ X30 : Hp, X30 = hadd X28 q29 (.inl (0, 3, .inl (fun _ => 0))) → ∃ (fs31 : List Value), Hs X30 v0 (.inr (10, fs31)) ∧ 7 < fs31.length ∧ ∀ X32 : Hp, X32 = hput X30 v0 (.inr (10, fs31.set 7 (.ref q29))) → ((((((((0 + 1) + 1) + 1) + 1) + 1) + 1) + 1) + 1) + 1 ≤ mc ∧ ((((((((0 + 16) + 16) + 16) + 2) + 2) + 96) + 96) + 3) + 3 ≤ ms ∧ ∀ q33 : Nat, q33 ∉ X32.1 → ∀ X34 : Hp, X34 = hadd X32 q33 (.inl (0, 3, .inl (fun _ => 0))) → ∃ (fs35 : List Value), Hs X34 v0 (.inr (10, fs35)) ∧ 8 < fs35.length ∧ ∀ X36 : Hp, X36 = hput X34 v0 (.inr (10, fs35.set 8 (.ref q33))) → (((((((((0 + 1) + 1) + 1) + 1) + 1) + 1) + 1) + 1) + 1) + 1 ≤ mc ∧ (((((((((0 + 16) + 16) + 16) + 2) + 2) + 96) + 96) + 3) + 3) + 60 ≤ ms ∧ ∀ q37 : Nat, q37 ∉ X36.1 → ∀ X38 : Hp, X38 = hadd X36 q37 (.inl (0, 60, .inl (fun _ => 0))) → ∃ (fs39 : List Value), Hs X38 v0 (.inr (10, fs39)) ∧ 9 < fs39.length ∧ ∀ X40 : Hp, X40 = hput X38 v0 (.inr (10, fs39.set 9 (.ref q37))) → ((((((((((0 + 1) + 1) + 1) + 1) + 1) + 1) + 1) + 1) + 1) + 1) + 1 ≤ mc ∧ ((((((((((0 + 16) + 16) + 16) + 2) + 2) + 96) + 96) + 3) + 3) + 60) + 130 ≤ ms ∧ ∀ q41 : Nat, q41 ∉ X40.1 → ∀ X42 : Hp, X42 = hadd X40 q41 (.inl (0, 130, .inl (fun _ => 0))) → ∃ (fs43 : List Value), Hs X42 v0 (.inr (10, fs43)) ∧ 11 < fs43.length ∧ ∀ X44 : Hp, X44 = hput X42 v0 (.inr (10, fs43.set 11 (.ref q41))) → (((((((((((0 + 1) + 1) + 1) + 1) + 1) + 1) + 1) + 1) + 1) + 1) + 1) + 1 ≤ mc ∧ (((((((((((0 + 16) + 16) + 16) + 2) + 2) + 96) + 96) + 3) + 3) + 60) + 130) + 130 ≤ ms ∧ ∀ q45 : Nat, q45 ∉ X44.1 → ∀ X46 : Hp, X46 = hadd X44 q45 (.inl (0, 130, .inl (fun _ => 0))) → ∃ (fs47 : List Value), Hs X46 v0 (.inr (10, fs47)) ∧ 12 < fs47.length ∧ ∀ X48 : Hp, X48 = hput X46 v0 (.inr (10, fs47.set 12 (.ref q45))) → ((((((((((((0 + 1) + 1) + 1) + 1) + 1) + 1) + 1) + 1) + 1) + 1) + 1) + 1) + 1 ≤ mc ∧ ((((((((((((0 + 16) + 16) + 16) + 2) + 2) + 96) + 96) + 3) + 3) + 60) + 130) + 130) + 130 ≤ ms ∧ ∀ q49 : Nat, q49 ∉ X48.1 → ∀ X50 : Hp, X50 = hadd X48 q49 (.inl (0, 130, .inl (fun _ => 0))) → ∃ (fs51 : List Value), Hs X50 v0 (.inr (10, fs51)) ∧ 13 < fs51.length ∧ ∀ X52 : Hp, X52 = hput X50 v0 (.inr (10, fs51.set 13 (.ref q49))) → (((((((((((((0 + 1) + 1) + 1) + 1) + 1) + 1) + 1) + 1) + 1) + 1) + 1) + 1) + 1) + 1 ≤ mc ∧ (((((((((((((0 + 16) + 16) + 16) + 2) + 2) + 96) + 96) + 3) + 3) + 60) + 130) + 130) + 130) + 257250 ≤ ms ∧ ∀ q53 : Nat, q53 ∉ X52.1 → ∀ X54 : Hp, X54 = hadd X52 q53 (.inl (0, 257250, .inl (fun _ => 0))) → ∃ (fs55 : List Value), Hs X54 v0 (.inr (10, fs55)) ∧ 19 < fs55.length ∧ ∀ X56 : Hp, X56 = hput X54 v0 (.inr (10, fs55.set 19 (.ref q53))) → ((((((((((((((0 + 1) + 1) + 1) + 1) + 1) + 1) + 1) + 1) + 1) + 1) + 1) + 1) + 1) + 1) + 1 ≤ mc ∧ ((((((((((((((0 + 16) + 16) + 16) + 2) + 2) + 96) + 96) + 3) + 3) + 60) + 130) + 130) + 130) + 257250) + 2 ≤ ms ∧ ∀ q57 : Nat, q57 ∉ X56.1 → ∀ X58 : Hp, X58 = hadd X56 q57 (.inl (1, 2, .inl (fun _ => 0))) → ∃ (fs59 : List Value), Hs X58 v0 (.inr (10, fs59)) ∧ 20 < fs59.length ∧ ∀ X60 : Hp, X60 = hput X58 v0 (.inr (10, fs59.set 20 (.ref q57))) → (((((((((((((((0 + 1) + 1) + 1) + 1) + 1) + 1) + 1) + 1) + 1) + 1) + 1) + 1) + 1) + 1) + 1) + 1 ≤ mc ∧ (((((((((((((((0 + 16) + 16) + 16) + 2) + 2) + 96) + 96) + 3) + 3) + 60) + 130) + 130) + 130) + 257250) + 2) + 2 ≤ ms ∧ ∀ q61 : Nat, q61 ∉ X60.1 → ∀ X62 : Hp, X62 = hadd X60 q61 (.inl (0, 2, .inl (fun _ => 0))) → ∃ (fs63 : List Value), Hs X62 v0 (.inr (10, fs63)) ∧ 21 < fs63.length ∧ ∀ X64 : Hp, X64 = hput X62 v0 (.inr (10, fs63.set 21 (.ref q61))) → ((((((((((((((((0 + 1) + 1) + 1) + 1) + 1) + 1) + 1) + 1) + 1) + 1) + 1) + 1) + 1) + 1) + 1) + 1) + 1 ≤ mc ∧ ((((((((((((((((0 + 16) + 16) + 16) + 2) + 2) + 96) + 96) + 3) + 3) + 60) + 130) + 130) + 130) + 257250) + 2) + 2) + 120 ≤ ms ∧ ∀ q65 : Nat, q65 ∉ X64.1 → ∀ X66 : Hp, X66 = hadd X64 q65 (.inl (0, 120, .inl (fun _ => 0))) → ∃ (fs67 : List Value), Hs X66 v0 (.inr (10, fs67)) ∧ 23 < fs67.length ∧ ∀ X68 : Hp, X68 = hput X66 v0 (.inr (10, fs67.set 23 (.ref q65))) → (((((((((((((((((0 + 1) + 1) + 1) + 1) + 1) + 1) + 1) + 1) + 1) + 1) + 1) + 1) + 1) + 1) + 1) + 1) + 1) + 1 ≤ mc ∧ (((((((((((((((((0 + 16) + 16) + 16) + 2) + 2) + 96) + 96) + 3) + 3) + 60) + 130) + 130) + 130) + 257250) + 2) + 2) + 120) + 2 ≤ ms ∧ ∀ q69 : Nat, q69 ∉ X68.1 → ∀ X70 : Hp, X70 = hadd X68 q69 (.inl (1, 2, .inl (fun _ => 0))) → ∃ (fs71 : List Value), Hs X70 v0 (.inr (10, fs71)) ∧ 24 < fs71.length ∧ ∀ X72 : Hp, X72 = hput X70 v0 (.inr (10, fs71.set 24 (.ref q69))) → ∃ (fs73 : List Value) (y74 : Nat), Hs X72 v0 (.inr (10, fs73)) ∧ fs73[7]? = some (.ref y74) ∧ ∃ (n75 : Nat) (f76 : Nat → Int32), Hs X72 y74 (.inl (0, n75, .inl f76)) ∧ vp_in (0 : Int32) n75 ∧ ∀ X77 : Hp, X77 = hput X72 y74 (.inl (0, n75, .inl (upd f76 (0 : Int32).toNatClampNeg (1 : Int32)))) → ∃ (fs78 : List Value) (y79 : Nat), Hs X77 v0 (.inr (10, fs78)) ∧ fs78[7]? = some (.ref y79) ∧ ∃ (n80 : Nat) (f81 : Nat → Int32), Hs X77 y79 (.inl (0, n80, .inl f81)) ∧ vp_in (1 : Int32) n80 ∧ ∀ X82 : Hp, X82 = hput X77 y79 (.inl (0, n80, .inl (upd f81 (1 : Int32).toNatClampNeg (2 : Int32)))) → ∃ (fs83 : List Value) (y84 : Nat), Hs X82 v0 (.inr (10, fs83)) ∧ fs83[7]? = some (.ref y84) ∧ ∃ (n85 : Nat) (f86 : Nat → Int32), Hs X82 y84 (.inl (0, n85, .inl f86)) ∧ vp_in (2 : Int32) n85 ∧ ∀ X87 : Hp, X87 = hput X82 y84 (.inl (0, n85, .inl (upd f86 (2 : Int32).toNatClampNeg (6 : Int32)))) → ∃ (fs88 : List Value) (y89 : Nat), Hs X87 v0 (.inr (10, fs88)) ∧ fs88[8]? = some (.ref y89) ∧ ∃ (n90 : Nat) (f91 : Nat → Int32), Hs X87 y89 (.inl (0, n90, .inl f91)) ∧ vp_in (0 : Int32) n90 ∧ ∀ X92 : Hp, X92 = hput X87 y89 (.inl (0, n90, .inl (upd f91 (0 : Int32).toNatClampNeg (200 : Int32)))) → ∃ (fs93 : List Value) (y94 : Nat), Hs X92 v0 (.inr (10, fs93)) ∧ fs93[8]? = some (.ref y94) ∧ ∃ (n95 : Nat) (f96 : Nat → Int32), Hs X92 y94 (.inl (0, n95, .inl f96)) ∧ vp_in (1 : Int32) n95 ∧ ∀ X97 : Hp, X97 = hput X92 y94 (.inl (0, n95, .inl (upd f96 (1 : Int32).toNatClampNeg (500 : Int32)))) → ∃ (fs98 : List Value) (y99 : Nat), Hs X97 v0 (.inr (10, fs98)) ∧ fs98[8]? = some (.ref y99) ∧ ∃ (n100 : Nat) (f101 : Nat → Int32), Hs X97 y99 (.inl (0, n100, .inl f101)) ∧ vp_in (2 : Int32) n100 ∧ ∀ X102 : Hp, X102 = hput X97 y99 (.inl (0, n100, .inl (upd f101 (2 : Int32).toNatClampNeg (800 : Int32)))) → ((((((((((((((((((0 + 1) + 1) + 1) + 1) + 1) + 1) + 1) + 1) + 1) + 1) + 1) + 1) + 1) + 1) + 1) + 1) + 1) + 1) ≤ mc ∧ ((((((((((((((((((0 + 16) + 16) + 16) + 2) + 2) + 96) + 96) + 3) + 3) + 60) + 130) + 130) + 130) + 257250) + 2) + 2) + 120) + 2) ≤ ms ∧ post X102
set_option maxHeartbeats 4000000 in
set_option maxRecDepth 100000 in
theorem c_X10_init (l : Launch) (D : va_G) (kA : Nat → ClassId) (post : Hp → Prop) (mc ms : Nat) (X : Hp) (sz : Nat) (v0 : Nat) (h : wp_X10_init post mc ms X v0) : Met l yX10_init (.code yX10_init cX10_init 1 none :: gd) (rmO 1 mc ms 21) (va_Pc [Value.ref v0] (PreM D kA X sz)) (va_Qv post (PoM D kA X sz) (va_A (hw kA X) sz)) mc ms (va_A (hw kA X) sz) := by
  unfold wp_X10_init at h
  refine x_enM (by decide) (Nat.le_of_ble_eq_true rfl) ?_
  intro p e s m below meth c G hr hlk hin hsz hA S ls hl
  obtain ⟨hx, hb, hml, hown, hts, hE, hK⟩ := id G
  have hl : lv_has ls 1 [(0, .ref v0)] := hl
  refine lv_aload_n hx hb dX10_init_0 rfl (lv_at hl 0 rfl) ?_
  refine x_objInit G mk_X10_1 oi_ins oi_cod hl.1 dX10_init_1 (Nat.le_of_ble_eq_true rfl) (Nat.le_of_ble_eq_true rfl) ?_
  refine lv_aload_n hx hb dX10_init_4 rfl (lv_at hl 0 rfl) ?_
  refine lv_bipush (v := (16 : Int32)) hx hb dX10_init_5 (by decide) ?_
  obtain ⟨hc1, hc2, h⟩ := h
  refine x_newa (atype := .int) (t := 0) (N' := 16) G S hA ac_int rfl rfl (fun z => z) rfl (by decide) (by decide) (Nat.le_of_ble_eq_true rfl) hc1 hc2 dX10_init_7 (fun q1 H hq1 S => ?_)
  have h := h q1 hq1 _ rfl
  obtain ⟨fs3, hfs3, hkfs3, h⟩ := h
  have h := h _ rfl
  refine x_putF G hin S hfs3 hkfs3 rfl rfl ff_X10_7 dX10_init_9 (fun H locs S => ?_)
  refine lv_aload_n hx hb dX10_init_12 rfl (lv_at hl 0 rfl) ?_
  refine lv_bipush (v := (16 : Int32)) hx hb dX10_init_13 (by decide) ?_
  obtain ⟨hc1, hc2, h⟩ := h
  refine x_newa (atype := .int) (t := 0) (N' := 16) G S hA ac_int rfl rfl (fun z => z) rfl (by decide) (by decide) (Nat.le_of_ble_eq_true rfl) hc1 hc2 dX10_init_15 (fun q5 H hq5 S => ?_)
  have h := h q5 hq5 _ rfl
  obtain ⟨fs7, hfs7, hkfs7, h⟩ := h
  have h := h _ rfl
  refine x_putF G hin S hfs7 hkfs7 rfl rfl ff_X10_13 dX10_init_17 (fun H locs S => ?_)
  refine lv_aload_n hx hb dX10_init_20 rfl (lv_at hl 0 rfl) ?_
  refine lv_bipush (v := (16 : Int32)) hx hb dX10_init_21 (by decide) ?_
  obtain ⟨hc1, hc2, h⟩ := h
  refine x_newa (atype := .int) (t := 0) (N' := 16) G S hA ac_int rfl rfl (fun z => z) rfl (by decide) (by decide) (Nat.le_of_ble_eq_true rfl) hc1 hc2 dX10_init_23 (fun q9 H hq9 S => ?_)
  have h := h q9 hq9 _ rfl
  obtain ⟨fs11, hfs11, hkfs11, h⟩ := h
  have h := h _ rfl
  refine x_putF G hin S hfs11 hkfs11 rfl rfl ff_X10_16 dX10_init_25 (fun H locs S => ?_)
  refine lv_aload_n hx hb dX10_init_28 rfl (lv_at hl 0 rfl) ?_
  refine lv_iconst (v := (2 : Int32)) hx hb dX10_init_29 (by decide) ?_
  obtain ⟨hc1, hc2, h⟩ := h
  refine x_newa (atype := .int) (t := 0) (N' := 2) G S hA ac_int rfl rfl (fun z => z) rfl (by decide) (by decide) (Nat.le_of_ble_eq_true rfl) hc1 hc2 dX10_init_30 (fun q13 H hq13 S => ?_)
  have h := h q13 hq13 _ rfl
  obtain ⟨fs15, hfs15, hkfs15, h⟩ := h
  have h := h _ rfl
  refine x_putF G hin S hfs15 hkfs15 rfl rfl ff_X10_19 dX10_init_32 (fun H locs S => ?_)
  refine lv_aload_n hx hb dX10_init_35 rfl (lv_at hl 0 rfl) ?_
  refine lv_iconst (v := (2 : Int32)) hx hb dX10_init_36 (by decide) ?_
  obtain ⟨hc1, hc2, h⟩ := h
  refine x_newa (atype := .int) (t := 0) (N' := 2) G S hA ac_int rfl rfl (fun z => z) rfl (by decide) (by decide) (Nat.le_of_ble_eq_true rfl) hc1 hc2 dX10_init_37 (fun q17 H hq17 S => ?_)
  have h := h q17 hq17 _ rfl
  obtain ⟨fs19, hfs19, hkfs19, h⟩ := h
  have h := h _ rfl
  refine x_putF G hin S hfs19 hkfs19 rfl rfl ff_X10_22 dX10_init_39 (fun H locs S => ?_)
  refine lv_aload_n hx hb dX10_init_42 rfl (lv_at hl 0 rfl) ?_
  refine lv_bipush (v := (96 : Int32)) hx hb dX10_init_43 (by decide) ?_
  obtain ⟨hc1, hc2, h⟩ := h
  refine x_newa (atype := .int) (t := 0) (N' := 96) G S hA ac_int rfl rfl (fun z => z) rfl (by decide) (by decide) (Nat.le_of_ble_eq_true rfl) hc1 hc2 dX10_init_45 (fun q21 H hq21 S => ?_)
  have h := h q21 hq21 _ rfl
  obtain ⟨fs23, hfs23, hkfs23, h⟩ := h
  have h := h _ rfl
  refine x_putF G hin S hfs23 hkfs23 rfl rfl ff_X10_25 dX10_init_47 (fun H locs S => ?_)
  refine lv_aload_n hx hb dX10_init_50 rfl (lv_at hl 0 rfl) ?_
  refine lv_bipush (v := (96 : Int32)) hx hb dX10_init_51 (by decide) ?_
  obtain ⟨hc1, hc2, h⟩ := h
  refine x_newa (atype := .int) (t := 0) (N' := 96) G S hA ac_int rfl rfl (fun z => z) rfl (by decide) (by decide) (Nat.le_of_ble_eq_true rfl) hc1 hc2 dX10_init_53 (fun q25 H hq25 S => ?_)
  have h := h q25 hq25 _ rfl
  obtain ⟨fs27, hfs27, hkfs27, h⟩ := h
  have h := h _ rfl
  refine x_putF G hin S hfs27 hkfs27 rfl rfl ff_X10_28 dX10_init_55 (fun H locs S => ?_)
  refine lv_aload_n hx hb dX10_init_58 rfl (lv_at hl 0 rfl) ?_
  refine lv_iconst (v := (3 : Int32)) hx hb dX10_init_59 (by decide) ?_
  obtain ⟨hc1, hc2, h⟩ := h
  refine x_newa (atype := .int) (t := 0) (N' := 3) G S hA ac_int rfl rfl (fun z => z) rfl (by decide) (by decide) (Nat.le_of_ble_eq_true rfl) hc1 hc2 dX10_init_60 (fun q29 H hq29 S => ?_)
  have h := h q29 hq29 _ rfl
  obtain ⟨fs31, hfs31, hkfs31, h⟩ := h
  have h := h _ rfl
  refine x_putF G hin S hfs31 hkfs31 rfl rfl ff_X10_31 dX10_init_62 (fun H locs S => ?_)
  refine lv_aload_n hx hb dX10_init_65 rfl (lv_at hl 0 rfl) ?_
  refine lv_iconst (v := (3 : Int32)) hx hb dX10_init_66 (by decide) ?_
  obtain ⟨hc1, hc2, h⟩ := h
  refine x_newa (atype := .int) (t := 0) (N' := 3) G S hA ac_int rfl rfl (fun z => z) rfl (by decide) (by decide) (Nat.le_of_ble_eq_true rfl) hc1 hc2 dX10_init_67 (fun q33 H hq33 S => ?_)
  have h := h q33 hq33 _ rfl
  obtain ⟨fs35, hfs35, hkfs35, h⟩ := h
  have h := h _ rfl
  refine x_putF G hin S hfs35 hkfs35 rfl rfl ff_X10_34 dX10_init_69 (fun H locs S => ?_)
  refine lv_aload_n hx hb dX10_init_72 rfl (lv_at hl 0 rfl) ?_
  refine lv_bipush (v := (60 : Int32)) hx hb dX10_init_73 (by decide) ?_
  obtain ⟨hc1, hc2, h⟩ := h
  refine x_newa (atype := .int) (t := 0) (N' := 60) G S hA ac_int rfl rfl (fun z => z) rfl (by decide) (by decide) (Nat.le_of_ble_eq_true rfl) hc1 hc2 dX10_init_75 (fun q37 H hq37 S => ?_)
  have h := h q37 hq37 _ rfl
  obtain ⟨fs39, hfs39, hkfs39, h⟩ := h
  have h := h _ rfl
  refine x_putF G hin S hfs39 hkfs39 rfl rfl ff_X10_37 dX10_init_77 (fun H locs S => ?_)
  refine lv_aload_n hx hb dX10_init_80 rfl (lv_at hl 0 rfl) ?_
  refine lv_sipush (v := (130 : Int32)) hx hb dX10_init_81 (by decide) ?_
  obtain ⟨hc1, hc2, h⟩ := h
  refine x_newa (atype := .int) (t := 0) (N' := 130) G S hA ac_int rfl rfl (fun z => z) rfl (by decide) (by decide) (Nat.le_of_ble_eq_true rfl) hc1 hc2 dX10_init_84 (fun q41 H hq41 S => ?_)
  have h := h q41 hq41 _ rfl
  obtain ⟨fs43, hfs43, hkfs43, h⟩ := h
  have h := h _ rfl
  refine x_putF G hin S hfs43 hkfs43 rfl rfl ff_X10_40 dX10_init_86 (fun H locs S => ?_)
  refine lv_aload_n hx hb dX10_init_89 rfl (lv_at hl 0 rfl) ?_
  refine lv_sipush (v := (130 : Int32)) hx hb dX10_init_90 (by decide) ?_
  obtain ⟨hc1, hc2, h⟩ := h
  refine x_newa (atype := .int) (t := 0) (N' := 130) G S hA ac_int rfl rfl (fun z => z) rfl (by decide) (by decide) (Nat.le_of_ble_eq_true rfl) hc1 hc2 dX10_init_93 (fun q45 H hq45 S => ?_)
  have h := h q45 hq45 _ rfl
  obtain ⟨fs47, hfs47, hkfs47, h⟩ := h
  have h := h _ rfl
  refine x_putF G hin S hfs47 hkfs47 rfl rfl ff_X10_43 dX10_init_95 (fun H locs S => ?_)
  refine lv_aload_n hx hb dX10_init_98 rfl (lv_at hl 0 rfl) ?_
  refine lv_sipush (v := (130 : Int32)) hx hb dX10_init_99 (by decide) ?_
  obtain ⟨hc1, hc2, h⟩ := h
  refine x_newa (atype := .int) (t := 0) (N' := 130) G S hA ac_int rfl rfl (fun z => z) rfl (by decide) (by decide) (Nat.le_of_ble_eq_true rfl) hc1 hc2 dX10_init_102 (fun q49 H hq49 S => ?_)
  have h := h q49 hq49 _ rfl
  obtain ⟨fs51, hfs51, hkfs51, h⟩ := h
  have h := h _ rfl
  refine x_putF G hin S hfs51 hkfs51 rfl rfl ff_X10_46 dX10_init_104 (fun H locs S => ?_)
  refine lv_aload_n hx hb dX10_init_107 rfl (lv_at hl 0 rfl) ?_
  refine lv_ldc hx hb hown (hts _ kc_X10_49) dX10_init_108 ?_
  obtain ⟨hc1, hc2, h⟩ := h
  refine x_newa (atype := .int) (t := 0) (N' := 257250) G S hA ac_int rfl rfl (fun z => z) rfl (by decide) (by decide) (Nat.le_of_ble_eq_true rfl) hc1 hc2 dX10_init_110 (fun q53 H hq53 S => ?_)
  have h := h q53 hq53 _ rfl
  obtain ⟨fs55, hfs55, hkfs55, h⟩ := h
  have h := h _ rfl
  refine x_putF G hin S hfs55 hkfs55 rfl rfl ff_X10_50 dX10_init_112 (fun H locs S => ?_)
  refine lv_aload_n hx hb dX10_init_115 rfl (lv_at hl 0 rfl) ?_
  refine lv_iconst (v := (2 : Int32)) hx hb dX10_init_116 (by decide) ?_
  obtain ⟨hc1, hc2, h⟩ := h
  refine x_newa (atype := .boolean) (t := 1) (N' := 2) G S hA ac_boo rfl rfl (fun z => z) rfl (by decide) (by decide) (Nat.le_of_ble_eq_true rfl) hc1 hc2 dX10_init_117 (fun q57 H hq57 S => ?_)
  have h := h q57 hq57 _ rfl
  obtain ⟨fs59, hfs59, hkfs59, h⟩ := h
  have h := h _ rfl
  refine x_putF G hin S hfs59 hkfs59 rfl rfl ff_X10_53 dX10_init_119 (fun H locs S => ?_)
  refine lv_aload_n hx hb dX10_init_122 rfl (lv_at hl 0 rfl) ?_
  refine lv_iconst (v := (2 : Int32)) hx hb dX10_init_123 (by decide) ?_
  obtain ⟨hc1, hc2, h⟩ := h
  refine x_newa (atype := .int) (t := 0) (N' := 2) G S hA ac_int rfl rfl (fun z => z) rfl (by decide) (by decide) (Nat.le_of_ble_eq_true rfl) hc1 hc2 dX10_init_124 (fun q61 H hq61 S => ?_)
  have h := h q61 hq61 _ rfl
  obtain ⟨fs63, hfs63, hkfs63, h⟩ := h
  have h := h _ rfl
  refine x_putF G hin S hfs63 hkfs63 rfl rfl ff_X10_57 dX10_init_126 (fun H locs S => ?_)
  refine lv_aload_n hx hb dX10_init_129 rfl (lv_at hl 0 rfl) ?_
  refine lv_bipush (v := (120 : Int32)) hx hb dX10_init_130 (by decide) ?_
  obtain ⟨hc1, hc2, h⟩ := h
  refine x_newa (atype := .int) (t := 0) (N' := 120) G S hA ac_int rfl rfl (fun z => z) rfl (by decide) (by decide) (Nat.le_of_ble_eq_true rfl) hc1 hc2 dX10_init_132 (fun q65 H hq65 S => ?_)
  have h := h q65 hq65 _ rfl
  obtain ⟨fs67, hfs67, hkfs67, h⟩ := h
  have h := h _ rfl
  refine x_putF G hin S hfs67 hkfs67 rfl rfl ff_X10_60 dX10_init_134 (fun H locs S => ?_)
  refine lv_aload_n hx hb dX10_init_137 rfl (lv_at hl 0 rfl) ?_
  refine lv_iconst (v := (2 : Int32)) hx hb dX10_init_138 (by decide) ?_
  obtain ⟨hc1, hc2, h⟩ := h
  refine x_newa (atype := .boolean) (t := 1) (N' := 2) G S hA ac_boo rfl rfl (fun z => z) rfl (by decide) (by decide) (Nat.le_of_ble_eq_true rfl) hc1 hc2 dX10_init_139 (fun q69 H hq69 S => ?_)
  have h := h q69 hq69 _ rfl
  obtain ⟨fs71, hfs71, hkfs71, h⟩ := h
  have h := h _ rfl
  refine x_putF G hin S hfs71 hkfs71 rfl rfl ff_X10_63 dX10_init_141 (fun H locs S => ?_)
  refine lv_aload_n hx hb dX10_init_144 rfl (lv_at hl 0 rfl) ?_
  obtain ⟨fs73, y74, hfs73, hvfs73, h⟩ := h
  refine x_get G S.1 hfs73 hvfs73 fl_X10_31 dX10_init_145 ?_
  refine lv_iconst (v := (0 : Int32)) hx hb dX10_init_148 (by decide) ?_
  refine lv_iconst (v := (1 : Int32)) hx hb dX10_init_149 (by decide) ?_
  obtain ⟨n75, f76, hf76, hif76, h⟩ := h
  have h := h _ rfl
  refine x_iast G S hf76 hif76 dX10_init_150 (fun H locs S => ?_)
  refine lv_aload_n hx hb dX10_init_151 rfl (lv_at hl 0 rfl) ?_
  obtain ⟨fs78, y79, hfs78, hvfs78, h⟩ := h
  refine x_get G S.1 hfs78 hvfs78 fl_X10_31 dX10_init_152 ?_
  refine lv_iconst (v := (1 : Int32)) hx hb dX10_init_155 (by decide) ?_
  refine lv_iconst (v := (2 : Int32)) hx hb dX10_init_156 (by decide) ?_
  obtain ⟨n80, f81, hf81, hif81, h⟩ := h
  have h := h _ rfl
  refine x_iast G S hf81 hif81 dX10_init_157 (fun H locs S => ?_)
  refine lv_aload_n hx hb dX10_init_158 rfl (lv_at hl 0 rfl) ?_
  obtain ⟨fs83, y84, hfs83, hvfs83, h⟩ := h
  refine x_get G S.1 hfs83 hvfs83 fl_X10_31 dX10_init_159 ?_
  refine lv_iconst (v := (2 : Int32)) hx hb dX10_init_162 (by decide) ?_
  refine lv_bipush (v := (6 : Int32)) hx hb dX10_init_163 (by decide) ?_
  obtain ⟨n85, f86, hf86, hif86, h⟩ := h
  have h := h _ rfl
  refine x_iast G S hf86 hif86 dX10_init_165 (fun H locs S => ?_)
  refine lv_aload_n hx hb dX10_init_166 rfl (lv_at hl 0 rfl) ?_
  obtain ⟨fs88, y89, hfs88, hvfs88, h⟩ := h
  refine x_get G S.1 hfs88 hvfs88 fl_X10_34 dX10_init_167 ?_
  refine lv_iconst (v := (0 : Int32)) hx hb dX10_init_170 (by decide) ?_
  refine lv_sipush (v := (200 : Int32)) hx hb dX10_init_171 (by decide) ?_
  obtain ⟨n90, f91, hf91, hif91, h⟩ := h
  have h := h _ rfl
  refine x_iast G S hf91 hif91 dX10_init_174 (fun H locs S => ?_)
  refine lv_aload_n hx hb dX10_init_175 rfl (lv_at hl 0 rfl) ?_
  obtain ⟨fs93, y94, hfs93, hvfs93, h⟩ := h
  refine x_get G S.1 hfs93 hvfs93 fl_X10_34 dX10_init_176 ?_
  refine lv_iconst (v := (1 : Int32)) hx hb dX10_init_179 (by decide) ?_
  refine lv_sipush (v := (500 : Int32)) hx hb dX10_init_180 (by decide) ?_
  obtain ⟨n95, f96, hf96, hif96, h⟩ := h
  have h := h _ rfl
  refine x_iast G S hf96 hif96 dX10_init_183 (fun H locs S => ?_)
  refine lv_aload_n hx hb dX10_init_184 rfl (lv_at hl 0 rfl) ?_
  obtain ⟨fs98, y99, hfs98, hvfs98, h⟩ := h
  refine x_get G S.1 hfs98 hvfs98 fl_X10_34 dX10_init_185 ?_
  refine lv_iconst (v := (2 : Int32)) hx hb dX10_init_188 (by decide) ?_
  refine lv_sipush (v := (800 : Int32)) hx hb dX10_init_189 (by decide) ?_
  obtain ⟨n100, f101, hf101, hif101, h⟩ := h
  have h := h _ rfl
  refine x_iast G S hf101 hif101 dX10_init_192 (fun H locs S => ?_)
  obtain ⟨hk1, hk2, h⟩ := h
  exact x_vretM G hr hlk S hk1 hk2 h dX10_init_193
def wp_X10_in (post : Int32 → Prop) (X : Hp) (v0 : Int64) (v2 : Int64) (v4 : Int64) : Prop := ((lg_cmp v0 v2) < 0 → post (0 : Int32)) ∧ (¬ (lg_cmp v0 v2) < 0 → (0 < (lg_cmp v0 v4) → post (0 : Int32)) ∧ (¬ 0 < (lg_cmp v0 v4) → post (1 : Int32)))
set_option maxHeartbeats 4000000 in
set_option maxRecDepth 100000 in
theorem c_X10_in (l : Launch) (D : va_G) (kA : Nat → ClassId) (post : Int32 → Prop) (X : Hp) (v0 : Int64) (v2 : Int64) (v4 : Int64) (h : wp_X10_in post X v0 v2 v4) : Met l yX10_in (.code yX10_in cX10_in 6 (some .boolean) :: gd) (rmO 0 0 0 0) (va_Pc [Value.long v0, Value.long v2, Value.long v4] (Pre D kA X)) (vp_Si post) 0 0 (fun _ => False) := by
  unfold wp_X10_in at h
  refine x_enR (by decide) (Nat.le_of_ble_eq_true rfl) ?_
  intro p e s m below meth c G hr hlk hP ls hl
  obtain ⟨hx, hb, hml, hown, hts, hE, hK⟩ := id G
  have hl : lv_has ls 6 [(0, .long v0), (2, .long v2), (4, .long v4)] := hl
  refine lv_lload_n hx hb dX10_in_0 rfl (lv_at hl 0 rfl) ?_
  refine lv_lload_n hx hb dX10_in_1 rfl (lv_at hl 1 rfl) ?_
  refine W.lcmp hx hb dX10_in_2 ?_
  refine lv_if_lt (tgt := 17) hx hb dX10_in_3 (by decide) (fun c1 => ?_) (fun c1 => ?_)
  · have h := h.1 c1
    refine lv_iconst (v := (0 : Int32)) hx hb dX10_in_17 (by decide) ?_
    exact x_zretR G hr hlk (Or.inl rfl) h dX10_in_18
  · have h := h.2 c1
    refine lv_lload_n hx hb dX10_in_6 rfl (lv_at hl 0 rfl) ?_
    refine lv_lload hx hb dX10_in_7 (lv_at hl 2 rfl) ?_
    refine W.lcmp hx hb dX10_in_9 ?_
    refine lv_if_gt (tgt := 17) hx hb dX10_in_10 (by decide) (fun c2 => ?_) (fun c2 => ?_)
    · have h := h.1 c2
      refine lv_iconst (v := (0 : Int32)) hx hb dX10_in_17 (by decide) ?_
      exact x_zretR G hr hlk (Or.inl rfl) h dX10_in_18
    · have h := h.2 c2
      refine lv_iconst (v := (1 : Int32)) hx hb dX10_in_13 (by decide) ?_
      refine lv_goto (tgt := 18) hx hb dX10_in_14 (by decide) ?_
      exact x_zretR G hr hlk (Or.inr rfl) h dX10_in_18
def wp_X10_isWay (post : Int32 → Prop) (X : Hp) (v0 : Int32) : Prop := wp_X10_in (fun r1 => (r1 = 0 ∨ r1 = 1) ∧ post r1)  X (v0.toInt64) (0 : Int64) (1 : Int64)
set_option maxHeartbeats 4000000 in
set_option maxRecDepth 100000 in
theorem c_X10_isWay (l : Launch) (D : va_G) (kA : Nat → ClassId) (post : Int32 → Prop) (X : Hp) (v0 : Int32) (h : wp_X10_isWay post X v0) : Met l yX10_isWay (.code yX10_isWay cX10_isWay 1 (some .boolean) :: gd) (rmO 1 0 0 25) (va_Pc [Value.int v0] (Pre D kA X)) (vp_Si post) 0 0 (fun _ => False) := by
  unfold wp_X10_isWay at h
  refine x_enR (by decide) (Nat.le_of_ble_eq_true rfl) ?_
  intro p e s m below meth c G hr hlk hP ls hl
  obtain ⟨hx, hb, hml, hown, hts, hE, hK⟩ := id G
  have hl : lv_has ls 1 [(0, .int v0)] := hl
  refine lv_iload_n hx hb dX10_isWay_0 rfl (lv_at hl 0 rfl) ?_
  refine lv_i2l (v := v0.toInt64) hx hb dX10_isWay_1 rfl ?_
  refine lv_lconst (v := (0 : Int64)) hx hb dX10_isWay_2 (by decide) ?_
  refine lv_lconst (v := (1 : Int64)) hx hb dX10_isWay_3 (by decide) ?_
  refine x_cRSi (As := [.long (v0.toInt64), .long (0 : Int64), .long (1 : Int64)]) (rest := []) G hP (c_X10_in l D kA _ _ (v0.toInt64) (0 : Int64) (1 : Int64) h) cd_X10_in ml_X10_66 ⟨(Nat.le_of_ble_eq_true rfl), (Nat.le_of_ble_eq_true rfl)⟩ rfl hl.1 rfl (Nat.le_of_ble_eq_true rfl) dX10_isWay_4 ⟨Nat.zero_le _, Nat.zero_le _⟩ (fun r1 h => ?_)
  obtain ⟨hz, h⟩ := h
  exact x_zretR G hr hlk hz h dX10_isWay_7
def wp_X10_isOwed (post : Int32 → Prop) (X : Hp) (v0 : Int32) : Prop := wp_X10_in (fun r1 => (r1 = 0 ∨ r1 = 1) ∧ post r1)  X (v0.toInt64) (0 : Int64) (20 : Int64)
set_option maxHeartbeats 4000000 in
set_option maxRecDepth 100000 in
theorem c_X10_isOwed (l : Launch) (D : va_G) (kA : Nat → ClassId) (post : Int32 → Prop) (X : Hp) (v0 : Int32) (h : wp_X10_isOwed post X v0) : Met l yX10_isOwed (.code yX10_isOwed cX10_isOwed 1 (some .boolean) :: gd) (rmO 1 0 0 25) (va_Pc [Value.int v0] (Pre D kA X)) (vp_Si post) 0 0 (fun _ => False) := by
  unfold wp_X10_isOwed at h
  refine x_enR (by decide) (Nat.le_of_ble_eq_true rfl) ?_
  intro p e s m below meth c G hr hlk hP ls hl
  obtain ⟨hx, hb, hml, hown, hts, hE, hK⟩ := id G
  have hl : lv_has ls 1 [(0, .int v0)] := hl
  refine lv_iload_n hx hb dX10_isOwed_0 rfl (lv_at hl 0 rfl) ?_
  refine lv_i2l (v := v0.toInt64) hx hb dX10_isOwed_1 rfl ?_
  refine lv_lconst (v := (0 : Int64)) hx hb dX10_isOwed_2 (by decide) ?_
  refine lv_ldc2 hx hb hown (hts _ kc_X10_70) dX10_isOwed_3 ?_
  refine x_cRSi (As := [.long (v0.toInt64), .long (0 : Int64), .long (20 : Int64)]) (rest := []) G hP (c_X10_in l D kA _ _ (v0.toInt64) (0 : Int64) (20 : Int64) h) cd_X10_in ml_X10_66 ⟨(Nat.le_of_ble_eq_true rfl), (Nat.le_of_ble_eq_true rfl)⟩ rfl hl.1 rfl (Nat.le_of_ble_eq_true rfl) dX10_isOwed_6 ⟨Nat.zero_le _, Nat.zero_le _⟩ (fun r1 h => ?_)
  obtain ⟨hz, h⟩ := h
  exact x_zretR G hr hlk hz h dX10_isOwed_9
def wp_X10_isBattery (post : Int32 → Prop) (X : Hp) (v0 : Int32) : Prop := wp_X10_in (fun r1 => (r1 = 0 ∨ r1 = 1) ∧ post r1)  X (v0.toInt64) (0 : Int64) (24 : Int64)
set_option maxHeartbeats 4000000 in
set_option maxRecDepth 100000 in
theorem c_X10_isBattery (l : Launch) (D : va_G) (kA : Nat → ClassId) (post : Int32 → Prop) (X : Hp) (v0 : Int32) (h : wp_X10_isBattery post X v0) : Met l yX10_isBattery (.code yX10_isBattery cX10_isBattery 1 (some .boolean) :: gd) (rmO 1 0 0 25) (va_Pc [Value.int v0] (Pre D kA X)) (vp_Si post) 0 0 (fun _ => False) := by
  unfold wp_X10_isBattery at h
  refine x_enR (by decide) (Nat.le_of_ble_eq_true rfl) ?_
  intro p e s m below meth c G hr hlk hP ls hl
  obtain ⟨hx, hb, hml, hown, hts, hE, hK⟩ := id G
  have hl : lv_has ls 1 [(0, .int v0)] := hl
  refine lv_iload_n hx hb dX10_isBattery_0 rfl (lv_at hl 0 rfl) ?_
  refine lv_i2l (v := v0.toInt64) hx hb dX10_isBattery_1 rfl ?_
  refine lv_lconst (v := (0 : Int64)) hx hb dX10_isBattery_2 (by decide) ?_
  refine lv_ldc2 hx hb hown (hts _ kc_X10_72) dX10_isBattery_3 ?_
  refine x_cRSi (As := [.long (v0.toInt64), .long (0 : Int64), .long (24 : Int64)]) (rest := []) G hP (c_X10_in l D kA _ _ (v0.toInt64) (0 : Int64) (24 : Int64) h) cd_X10_in ml_X10_66 ⟨(Nat.le_of_ble_eq_true rfl), (Nat.le_of_ble_eq_true rfl)⟩ rfl hl.1 rfl (Nat.le_of_ble_eq_true rfl) dX10_isBattery_6 ⟨Nat.zero_le _, Nat.zero_le _⟩ (fun r1 h => ?_)
  obtain ⟨hz, h⟩ := h
  exact x_zretR G hr hlk hz h dX10_isBattery_9
def wp_X10_isEnd (post : Int32 → Prop) (X : Hp) (v0 : Int32) : Prop := wp_X10_in (fun r1 => (r1 = 0 ∨ r1 = 1) ∧ post r1)  X (v0.toInt64) (0 : Int64) (1 : Int64)
set_option maxHeartbeats 4000000 in
set_option maxRecDepth 100000 in
theorem c_X10_isEnd (l : Launch) (D : va_G) (kA : Nat → ClassId) (post : Int32 → Prop) (X : Hp) (v0 : Int32) (h : wp_X10_isEnd post X v0) : Met l yX10_isEnd (.code yX10_isEnd cX10_isEnd 1 (some .boolean) :: gd) (rmO 1 0 0 25) (va_Pc [Value.int v0] (Pre D kA X)) (vp_Si post) 0 0 (fun _ => False) := by
  unfold wp_X10_isEnd at h
  refine x_enR (by decide) (Nat.le_of_ble_eq_true rfl) ?_
  intro p e s m below meth c G hr hlk hP ls hl
  obtain ⟨hx, hb, hml, hown, hts, hE, hK⟩ := id G
  have hl : lv_has ls 1 [(0, .int v0)] := hl
  refine lv_iload_n hx hb dX10_isEnd_0 rfl (lv_at hl 0 rfl) ?_
  refine lv_i2l (v := v0.toInt64) hx hb dX10_isEnd_1 rfl ?_
  refine lv_lconst (v := (0 : Int64)) hx hb dX10_isEnd_2 (by decide) ?_
  refine lv_lconst (v := (1 : Int64)) hx hb dX10_isEnd_3 (by decide) ?_
  refine x_cRSi (As := [.long (v0.toInt64), .long (0 : Int64), .long (1 : Int64)]) (rest := []) G hP (c_X10_in l D kA _ _ (v0.toInt64) (0 : Int64) (1 : Int64) h) cd_X10_in ml_X10_66 ⟨(Nat.le_of_ble_eq_true rfl), (Nat.le_of_ble_eq_true rfl)⟩ rfl hl.1 rfl (Nat.le_of_ble_eq_true rfl) dX10_isEnd_4 ⟨Nat.zero_le _, Nat.zero_le _⟩ (fun r1 h => ?_)
  obtain ⟨hz, h⟩ := h
  exact x_zretR G hr hlk hz h dX10_isEnd_7
def bk_X10_layHours_17 (post : Hp → Prop) (v0 : Nat) (v1 : Int32) (r_4 : Hp → Int32 → Int32 → Prop) : Nat → Hp → Int32 → Int32 → Int32 → Prop
  | 0, _, _, _, _ => False
  | k + 1, X, b17_2, b17_3, b17_4 => ∃ (fs18 : List Value) (y19 : Nat), Hs X v0 (.inr (10, fs18)) ∧ fs18[0]? = some (.ref y19) ∧ ∃ (n20 : Nat) (f21 : Nat → Int32), Hs X y19 (.inl (0, n20, .inl f21)) ∧ vp_in (((8 : Int32) * v1) + b17_3) n20 ∧ ((f21 (((8 : Int32) * v1) + b17_3).toNatClampNeg) ≤ b17_4 → ∀ x23 : Int32, x23 = b17_3 + (1 : Int32) → r_4 X b17_2 x23) ∧ (¬ (f21 (((8 : Int32) * v1) + b17_3).toNatClampNeg) ≤ b17_4 → ∃ (fs24 : List Value) (y25 : Nat), Hs X v0 (.inr (10, fs24)) ∧ fs24[5]? = some (.ref y25) ∧ ∃ (fs26 : List Value) (y27 : Nat), Hs X v0 (.inr (10, fs26)) ∧ fs26[1]? = some (.ref y27) ∧ ∃ (n28 : Nat) (f29 : Nat → Int32), Hs X y27 (.inl (0, n28, .inl f29)) ∧ vp_in (((8 : Int32) * v1) + b17_3) n28 ∧ ∃ (n30 : Nat) (f31 : Nat → Int32), Hs X y25 (.inl (0, n30, .inl f31)) ∧ vp_in (((48 : Int32) * v1) + b17_2) n30 ∧ ∀ X32 : Hp, X32 = hput X y25 (.inl (0, n30, .inl (upd f31 (((48 : Int32) * v1) + b17_2).toNatClampNeg (f29 (((8 : Int32) * v1) + b17_3).toNatClampNeg)))) → ∃ (fs33 : List Value) (y34 : Nat), Hs X32 v0 (.inr (10, fs33)) ∧ fs33[6]? = some (.ref y34) ∧ ∃ (fs35 : List Value) (y36 : Nat), Hs X32 v0 (.inr (10, fs35)) ∧ fs35[2]? = some (.ref y36) ∧ ∃ (n37 : Nat) (f38 : Nat → Int32), Hs X32 y36 (.inl (0, n37, .inl f38)) ∧ vp_in (((8 : Int32) * v1) + b17_3) n37 ∧ ∃ (n39 : Nat) (f40 : Nat → Int32), Hs X32 y34 (.inl (0, n39, .inl f40)) ∧ vp_in (((48 : Int32) * v1) + b17_2) n39 ∧ ∀ X41 : Hp, X41 = hput X32 y34 (.inl (0, n39, .inl (upd f40 (((48 : Int32) * v1) + b17_2).toNatClampNeg (f38 (((8 : Int32) * v1) + b17_3).toNatClampNeg)))) → ∀ x42 : Int32, x42 = b17_2 + (1 : Int32) → ∀ x43 : Int32, x43 = b17_4 + (1 : Int32) → (bk_X10_layHours_17 post v0 v1 r_4 k) X41 x42 b17_3 x43)
def bk_X10_layHours_4 (post : Hp → Prop) (v0 : Nat) (v1 : Int32)  : Nat → Hp → Int32 → Int32 → Prop
  | 0, _, _, _ => False
  | k + 1, X, b4_2, b4_3 => ∃ (fs2 : List Value) (y3 : Nat), Hs X v0 (.inr (10, fs2)) ∧ fs2[3]? = some (.ref y3) ∧ ∃ (n4 : Nat) (f5 : Nat → Int32), Hs X y3 (.inl (0, n4, .inl f5)) ∧ vp_in v1 n4 ∧ ((f5 v1.toNatClampNeg) ≤ b4_3 → ∃ (fs7 : List Value) (y8 : Nat), Hs X v0 (.inr (10, fs7)) ∧ fs7[4]? = some (.ref y8) ∧ ∃ (n9 : Nat) (f10 : Nat → Int32), Hs X y8 (.inl (0, n9, .inl f10)) ∧ vp_in v1 n9 ∧ ∀ X11 : Hp, X11 = hput X y8 (.inl (0, n9, .inl (upd f10 v1.toNatClampNeg b4_2))) → ∃ (fs12 : List Value) (y13 : Nat), Hs X11 v0 (.inr (10, fs12)) ∧ fs12[20]? = some (.ref y13) ∧ ∃ (n14 : Nat) (f15 : Nat → Int32), Hs X11 y13 (.inl (1, n14, .inl f15)) ∧ vp_in v1 n14 ∧ ∀ X16 : Hp, X16 = hput X11 y13 (.inl (1, n14, .inl (upd f15 v1.toNatClampNeg (vp_nar .boolean (0 : Int32))))) → post X16) ∧ (¬ (f5 v1.toNatClampNeg) ≤ b4_3 → ∃ n17 : Nat, bk_X10_layHours_17 post v0 v1 (bk_X10_layHours_4 post v0 v1 k) n17 X b4_2 b4_3 (0 : Int32))
def wp_X10_layHours (post : Hp → Prop) (X : Hp) (v0 : Nat) (v1 : Int32) : Prop := ∃ n1 : Nat, bk_X10_layHours_4 post v0 v1 n1 X (0 : Int32) (0 : Int32)
set_option maxHeartbeats 4000000 in
set_option maxRecDepth 100000 in
theorem c_X10_layHours (l : Launch) (D : va_G) (kA : Nat → ClassId) (post : Hp → Prop) (X : Hp) (sz : Nat) (v0 : Nat) (v1 : Int32) (h : wp_X10_layHours post X v0 v1) : Met l yX10_layHours (.code yX10_layHours cX10_layHours 5 none :: gd) (rmO 0 0 0 0) (va_Pc [Value.ref v0, Value.int v1] (PreM D kA X sz)) (va_Qv post (PoM D kA X sz) (va_A (hw kA X) sz)) 0 0 (va_A (hw kA X) sz) := by
  unfold wp_X10_layHours at h
  refine x_enM (by decide) (Nat.le_of_ble_eq_true rfl) ?_
  intro p e s m below meth c G hr hlk hin hsz hA S ls hl
  obtain ⟨hx, hb, hml, hown, hts, hE, hK⟩ := id G
  have hl : lv_has ls 5 [(0, .ref v0), (1, .int v1)] := hl
  obtain ⟨X0, hX0⟩ : ∃ Y : Hp, Y = X := ⟨_, rfl⟩
  subst hX0
  have J_4 : ∀ (n : Nat) (X : Hp) (b4_2 : Int32) (b4_3 : Int32), ∀ (H : Heap) (locs : List Loc) (_ : bk_X10_layHours_4 post v0 v1  n X b4_2 b4_3), Sx D kA (va_A (hw kA X0) sz) s.heap H locs X → ∀ ls, lv_has ls 5 [(0, .ref v0), (1, .int v1), (2, .int b4_2), (3, .int b4_3)] → W p l e (rmO 0 0 0 0) s m [Value.ref v0, Value.int v1].toArray below meth c H locs 0 0 (MQ below (va_Qv post (PoM D kA X0 sz) (va_A (hw kA X0) sz)) [Value.ref v0, Value.int v1].toArray s 0 0 (va_A (hw kA X0) sz)) (F0 m 4 ls []) := by
    intro n
    induction n with
    | zero =>
      intro X b4_2 b4_3 H locs h S ls hl
      rw [bk_X10_layHours_4] at h
      exact h.elim
    | succ n_4 ih_4 =>
      have J_17 : ∀ (n : Nat) (X : Hp) (b17_2 : Int32) (b17_3 : Int32) (b17_4 : Int32), ∀ (H : Heap) (locs : List Loc) (_ : bk_X10_layHours_17 post v0 v1 (bk_X10_layHours_4 post v0 v1 n_4) n X b17_2 b17_3 b17_4), Sx D kA (va_A (hw kA X0) sz) s.heap H locs X → ∀ ls, lv_has ls 5 [(0, .ref v0), (1, .int v1), (2, .int b17_2), (3, .int b17_3), (4, .int b17_4)] → W p l e (rmO 0 0 0 0) s m [Value.ref v0, Value.int v1].toArray below meth c H locs 0 0 (MQ below (va_Qv post (PoM D kA X0 sz) (va_A (hw kA X0) sz)) [Value.ref v0, Value.int v1].toArray s 0 0 (va_A (hw kA X0) sz)) (F0 m 17 ls []) := by
        intro n
        induction n with
        | zero =>
          intro X b17_2 b17_3 b17_4 H locs h S ls hl
          rw [bk_X10_layHours_17] at h
          exact h.elim
        | succ n_17 ih_17 =>
          intro X b17_2 b17_3 b17_4 H locs h S ls hl
          rw [bk_X10_layHours_17] at h
          refine lv_iload hx hb dX10_layHours_17 (lv_at hl 4 rfl) ?_
          refine lv_aload_n hx hb dX10_layHours_19 rfl (lv_at hl 0 rfl) ?_
          obtain ⟨fs18, y19, hfs18, hvfs18, h⟩ := h
          refine x_get G S.1 hfs18 hvfs18 fl_X10_7 dX10_layHours_20 ?_
          refine lv_bipush (v := (8 : Int32)) hx hb dX10_layHours_23 (by decide) ?_
          refine lv_iload_n hx hb dX10_layHours_25 rfl (lv_at hl 1 rfl) ?_
          refine lv_imul hx hb dX10_layHours_26 ?_
          refine lv_iload_n hx hb dX10_layHours_27 rfl (lv_at hl 3 rfl) ?_
          refine lv_iadd hx hb dX10_layHours_28 ?_
          obtain ⟨n20, f21, hf21, hif21, h⟩ := h
          refine x_iald G S.1 hf21 hif21 dX10_layHours_29 ?_
          refine lv_icmp_ge (tgt := 86) hx hb dX10_layHours_30 (by decide) (fun c22 => ?_) (fun c22 => ?_)
          · have h := h.1 c22
            obtain ⟨x23, ex23⟩ : ∃ y : Int32, y = b17_3 + (1 : Int32) := ⟨_, rfl⟩
            have h := h x23 ex23
            refine lv_iinc (v := x23) (lv' := [(3, .int x23), (0, .ref v0), (1, .int v1), (2, .int b17_2), (4, .int b17_4)]) hx hb dX10_layHours_86 hl (k := 3) rfl (by rw [ex23]; rfl) (by decide) rfl (fun ls hl => ?_)
            refine lv_goto (tgt := 4) hx hb dX10_layHours_89 (by decide) ?_
            exact ih_4 _ _ _ _ _ h S ls (lv_sub hl [1, 2, 3, 0] rfl)
          · have h := h.2 c22
            refine lv_aload_n hx hb dX10_layHours_33 rfl (lv_at hl 0 rfl) ?_
            obtain ⟨fs24, y25, hfs24, hvfs24, h⟩ := h
            refine x_get G S.1 hfs24 hvfs24 fl_X10_25 dX10_layHours_34 ?_
            refine lv_bipush (v := (48 : Int32)) hx hb dX10_layHours_37 (by decide) ?_
            refine lv_iload_n hx hb dX10_layHours_39 rfl (lv_at hl 1 rfl) ?_
            refine lv_imul hx hb dX10_layHours_40 ?_
            refine lv_iload_n hx hb dX10_layHours_41 rfl (lv_at hl 2 rfl) ?_
            refine lv_iadd hx hb dX10_layHours_42 ?_
            refine lv_aload_n hx hb dX10_layHours_43 rfl (lv_at hl 0 rfl) ?_
            obtain ⟨fs26, y27, hfs26, hvfs26, h⟩ := h
            refine x_get G S.1 hfs26 hvfs26 fl_X10_13 dX10_layHours_44 ?_
            refine lv_bipush (v := (8 : Int32)) hx hb dX10_layHours_47 (by decide) ?_
            refine lv_iload_n hx hb dX10_layHours_49 rfl (lv_at hl 1 rfl) ?_
            refine lv_imul hx hb dX10_layHours_50 ?_
            refine lv_iload_n hx hb dX10_layHours_51 rfl (lv_at hl 3 rfl) ?_
            refine lv_iadd hx hb dX10_layHours_52 ?_
            obtain ⟨n28, f29, hf29, hif29, h⟩ := h
            refine x_iald G S.1 hf29 hif29 dX10_layHours_53 ?_
            obtain ⟨n30, f31, hf31, hif31, h⟩ := h
            have h := h _ rfl
            refine x_iast G S hf31 hif31 dX10_layHours_54 (fun H locs S => ?_)
            refine lv_aload_n hx hb dX10_layHours_55 rfl (lv_at hl 0 rfl) ?_
            obtain ⟨fs33, y34, hfs33, hvfs33, h⟩ := h
            refine x_get G S.1 hfs33 hvfs33 fl_X10_28 dX10_layHours_56 ?_
            refine lv_bipush (v := (48 : Int32)) hx hb dX10_layHours_59 (by decide) ?_
            refine lv_iload_n hx hb dX10_layHours_61 rfl (lv_at hl 1 rfl) ?_
            refine lv_imul hx hb dX10_layHours_62 ?_
            refine lv_iload_n hx hb dX10_layHours_63 rfl (lv_at hl 2 rfl) ?_
            refine lv_iadd hx hb dX10_layHours_64 ?_
            refine lv_aload_n hx hb dX10_layHours_65 rfl (lv_at hl 0 rfl) ?_
            obtain ⟨fs35, y36, hfs35, hvfs35, h⟩ := h
            refine x_get G S.1 hfs35 hvfs35 fl_X10_16 dX10_layHours_66 ?_
            refine lv_bipush (v := (8 : Int32)) hx hb dX10_layHours_69 (by decide) ?_
            refine lv_iload_n hx hb dX10_layHours_71 rfl (lv_at hl 1 rfl) ?_
            refine lv_imul hx hb dX10_layHours_72 ?_
            refine lv_iload_n hx hb dX10_layHours_73 rfl (lv_at hl 3 rfl) ?_
            refine lv_iadd hx hb dX10_layHours_74 ?_
            obtain ⟨n37, f38, hf38, hif38, h⟩ := h
            refine x_iald G S.1 hf38 hif38 dX10_layHours_75 ?_
            obtain ⟨n39, f40, hf40, hif40, h⟩ := h
            have h := h _ rfl
            refine x_iast G S hf40 hif40 dX10_layHours_76 (fun H locs S => ?_)
            obtain ⟨x42, ex42⟩ : ∃ y : Int32, y = b17_2 + (1 : Int32) := ⟨_, rfl⟩
            have h := h x42 ex42
            refine lv_iinc (v := x42) (lv' := [(2, .int x42), (0, .ref v0), (1, .int v1), (3, .int b17_3), (4, .int b17_4)]) hx hb dX10_layHours_77 hl (k := 2) rfl (by rw [ex42]; rfl) (by decide) rfl (fun ls hl => ?_)
            obtain ⟨x43, ex43⟩ : ∃ y : Int32, y = b17_4 + (1 : Int32) := ⟨_, rfl⟩
            have h := h x43 ex43
            refine lv_iinc (v := x43) (lv' := [(4, .int x43), (2, .int x42), (0, .ref v0), (1, .int v1), (3, .int b17_3)]) hx hb dX10_layHours_80 hl (k := 4) rfl (by rw [ex43]; rfl) (by decide) rfl (fun ls hl => ?_)
            refine lv_goto (tgt := 17) hx hb dX10_layHours_83 (by decide) ?_
            exact ih_17 _ _ _ _ _ _ h S ls (lv_sub hl [2, 3, 1, 4, 0] rfl)
      intro X b4_2 b4_3 H locs h S ls hl
      rw [bk_X10_layHours_4] at h
      refine lv_iload_n hx hb dX10_layHours_4 rfl (lv_at hl 3 rfl) ?_
      refine lv_aload_n hx hb dX10_layHours_5 rfl (lv_at hl 0 rfl) ?_
      obtain ⟨fs2, y3, hfs2, hvfs2, h⟩ := h
      refine x_get G S.1 hfs2 hvfs2 fl_X10_19 dX10_layHours_6 ?_
      refine lv_iload_n hx hb dX10_layHours_9 rfl (lv_at hl 1 rfl) ?_
      obtain ⟨n4, f5, hf5, hif5, h⟩ := h
      refine x_iald G S.1 hf5 hif5 dX10_layHours_10 ?_
      refine lv_icmp_ge (tgt := 92) hx hb dX10_layHours_11 (by decide) (fun c6 => ?_) (fun c6 => ?_)
      · have h := h.1 c6
        refine lv_aload_n hx hb dX10_layHours_92 rfl (lv_at hl 0 rfl) ?_
        obtain ⟨fs7, y8, hfs7, hvfs7, h⟩ := h
        refine x_get G S.1 hfs7 hvfs7 fl_X10_22 dX10_layHours_93 ?_
        refine lv_iload_n hx hb dX10_layHours_96 rfl (lv_at hl 1 rfl) ?_
        refine lv_iload_n hx hb dX10_layHours_97 rfl (lv_at hl 2 rfl) ?_
        obtain ⟨n9, f10, hf10, hif10, h⟩ := h
        have h := h _ rfl
        refine x_iast G S hf10 hif10 dX10_layHours_98 (fun H locs S => ?_)
        refine lv_aload_n hx hb dX10_layHours_99 rfl (lv_at hl 0 rfl) ?_
        obtain ⟨fs12, y13, hfs12, hvfs12, h⟩ := h
        refine x_get G S.1 hfs12 hvfs12 fl_X10_53 dX10_layHours_100 ?_
        refine lv_iload_n hx hb dX10_layHours_103 rfl (lv_at hl 1 rfl) ?_
        refine lv_iconst (v := (0 : Int32)) hx hb dX10_layHours_104 (by decide) ?_
        obtain ⟨n14, f15, hf15, hif15, h⟩ := h
        have h := h _ rfl
        refine x_zast G S hf15 hif15 dX10_layHours_105 (fun H locs S => ?_)
        exact x_vretM G hr hlk S (Nat.le_refl _) (Nat.le_refl _) h dX10_layHours_106
      · have h := h.2 c6
        refine lv_iconst (v := (0 : Int32)) hx hb dX10_layHours_14 (by decide) ?_
        refine lv_istore (lv' := [(4, .int (0 : Int32)), (0, .ref v0), (1, .int v1), (2, .int b4_2), (3, .int b4_3)]) hx hb dX10_layHours_15 hl (by decide) rfl (fun ls hl => ?_)
        obtain ⟨n17, h⟩ := h
        exact J_17 n17 _ _ _ _ _ _ h S ls (lv_sub hl [1, 2, 3, 4, 0] rfl)
  refine lv_iconst (v := (0 : Int32)) hx hb dX10_layHours_0 (by decide) ?_
  refine lv_istore_n (lv' := [(2, .int (0 : Int32)), (0, .ref v0), (1, .int v1)]) hx hb dX10_layHours_1 rfl hl (by decide) rfl (fun ls hl => ?_)
  refine lv_iconst (v := (0 : Int32)) hx hb dX10_layHours_2 (by decide) ?_
  refine lv_istore_n (lv' := [(3, .int (0 : Int32)), (2, .int (0 : Int32)), (0, .ref v0), (1, .int v1)]) hx hb dX10_layHours_3 rfl hl (by decide) rfl (fun ls hl => ?_)
  obtain ⟨n1, h⟩ := h
  exact J_4 n1 _ _ _ _ _ h S ls (lv_sub hl [2, 3, 1, 0] rfl)
def wp_X10_leg (post : Int32 → Hp → Prop) (X : Hp) (v0 : Nat) (v1 : Int32) (v2 : Int32) (v3 : Int32) (v4 : Int32) : Prop := wp_X10_isWay (fun r1 => (¬ r1 = 0 → wp_X10_in (fun r3 => (r3 = 0 → post (-2 : Int32) X) ∧ (¬ r3 = 0 → wp_X10_in (fun r5 => (r5 = 0 → post (-2 : Int32) X) ∧ (¬ r5 = 0 → wp_X10_isEnd (fun r7 => (¬ r7 = 0 → ∃ (fs9 : List Value) (y10 : Nat), Hs X v0 (.inr (10, fs9)) ∧ fs9[3]? = some (.ref y10) ∧ ∃ (n11 : Nat) (f12 : Nat → Int32), Hs X y10 (.inl (0, n11, .inl f12)) ∧ vp_in v1 n11 ∧ ((f12 v1.toNatClampNeg) = (8 : Int32) → post (-4 : Int32) X) ∧ (¬ (f12 v1.toNatClampNeg) = (8 : Int32) → ∃ (fs14 : List Value) (y15 : Nat), Hs X v0 (.inr (10, fs14)) ∧ fs14[4]? = some (.ref y15) ∧ ∃ (n16 : Nat) (f17 : Nat → Int32), Hs X y15 (.inl (0, n16, .inl f17)) ∧ vp_in v1 n16 ∧ (((f17 v1.toNatClampNeg) + v2) ≤ (48 : Int32) → ∃ (fs19 : List Value) (y20 : Nat), Hs X v0 (.inr (10, fs19)) ∧ fs19[3]? = some (.ref y20) ∧ ∃ (n21 : Nat) (f22 : Nat → Int32), Hs X y20 (.inl (0, n21, .inl f22)) ∧ vp_in v1 n21 ∧ ∀ x23 : Int32, x23 = (((8 : Int32) * v1) + (f22 v1.toNatClampNeg)) → ∃ (fs24 : List Value) (y25 : Nat), Hs X v0 (.inr (10, fs24)) ∧ fs24[0]? = some (.ref y25) ∧ ∃ (n26 : Nat) (f27 : Nat → Int32), Hs X y25 (.inl (0, n26, .inl f27)) ∧ vp_in x23 n26 ∧ ∀ X28 : Hp, X28 = hput X y25 (.inl (0, n26, .inl (upd f27 x23.toNatClampNeg v2))) → ∃ (fs29 : List Value) (y30 : Nat), Hs X28 v0 (.inr (10, fs29)) ∧ fs29[1]? = some (.ref y30) ∧ ∃ (n31 : Nat) (f32 : Nat → Int32), Hs X28 y30 (.inl (0, n31, .inl f32)) ∧ vp_in x23 n31 ∧ ∀ X33 : Hp, X33 = hput X28 y30 (.inl (0, n31, .inl (upd f32 x23.toNatClampNeg v3))) → ∃ (fs34 : List Value) (y35 : Nat), Hs X33 v0 (.inr (10, fs34)) ∧ fs34[2]? = some (.ref y35) ∧ ∃ (n36 : Nat) (f37 : Nat → Int32), Hs X33 y35 (.inl (0, n36, .inl f37)) ∧ vp_in x23 n36 ∧ ∀ X38 : Hp, X38 = hput X33 y35 (.inl (0, n36, .inl (upd f37 x23.toNatClampNeg v4))) → ∃ (fs39 : List Value) (y40 : Nat), Hs X38 v0 (.inr (10, fs39)) ∧ fs39[3]? = some (.ref y40) ∧ ∃ (n41 : Nat) (f42 : Nat → Int32), Hs X38 y40 (.inl (0, n41, .inl f42)) ∧ vp_in v1 n41 ∧ ∃ (n43 : Nat) (f44 : Nat → Int32), Hs X38 y40 (.inl (0, n43, .inl f44)) ∧ vp_in v1 n43 ∧ ∀ X45 : Hp, X45 = hput X38 y40 (.inl (0, n43, .inl (upd f44 v1.toNatClampNeg ((f42 v1.toNatClampNeg) + (1 : Int32))))) → ∃ fs51 : List Value, Hs X45 v0 (.inr (10, fs51)) ∧ wp_X10_layHours (fun X46 => ∃ (fs47 : List Value) (y48 : Nat), Hs X46 v0 (.inr (10, fs47)) ∧ fs47[4]? = some (.ref y48) ∧ ∃ (n49 : Nat) (f50 : Nat → Int32), Hs X46 y48 (.inl (0, n49, .inl f50)) ∧ vp_in v1 n49 ∧ post (f50 v1.toNatClampNeg) X46)  X45 v0 v1) ∧ (¬ ((f17 v1.toNatClampNeg) + v2) ≤ (48 : Int32) → post (-4 : Int32) X))) ∧ (r7 = 0 → post (-2 : Int32) X))  X v4))  X (v3.toInt64) (0 : Int64) (500 : Int64)))  X (v2.toInt64) (1 : Int64) (24 : Int64)) ∧ (r1 = 0 → post (-1 : Int32) X))  X v1
set_option maxHeartbeats 4000000 in
set_option maxRecDepth 100000 in
theorem c_X10_leg (l : Launch) (D : va_G) (kA : Nat → ClassId) (post : Int32 → Hp → Prop) (X : Hp) (sz : Nat) (v0 : Nat) (v1 : Int32) (v2 : Int32) (v3 : Int32) (v4 : Int32) (h : wp_X10_leg post X v0 v1 v2 v3 v4) : Met l yX10_leg (.code yX10_leg cX10_leg 6 (some .int) :: gd) (rmO 2 0 0 45) (va_Pc [Value.ref v0, Value.int v1, Value.int v2, Value.int v3, Value.int v4] (PreM D kA X sz)) (va_Qi post (PoM D kA X sz) (va_A (hw kA X) sz)) 0 0 (va_A (hw kA X) sz) := by
  unfold wp_X10_leg at h
  refine x_enM (by decide) (Nat.le_of_ble_eq_true rfl) ?_
  intro p e s m below meth c G hr hlk hin hsz hA S ls hl
  obtain ⟨hx, hb, hml, hown, hts, hE, hK⟩ := id G
  have hl : lv_has ls 6 [(0, .ref v0), (1, .int v1), (2, .int v2), (3, .int v3), (4, .int v4)] := hl
  refine lv_iload_n hx hb dX10_leg_0 rfl (lv_at hl 1 rfl) ?_
  refine x_cRSi (As := [.int v1]) (rest := []) G S.1 (c_X10_isWay l D kA _ _ v1 h) cd_X10_isWay ml_X10_74 ⟨(Nat.le_of_ble_eq_true rfl), (Nat.le_of_ble_eq_true rfl)⟩ rfl hl.1 rfl (Nat.le_of_ble_eq_true rfl) dX10_leg_1 ⟨Nat.zero_le _, Nat.zero_le _⟩ (fun r1 h => ?_)
  refine lv_if_ne (tgt := 9) hx hb dX10_leg_4 (by decide) (fun c2 => ?_) (fun c2 => ?_)
  · have h := h.1 c2
    refine lv_iload_n hx hb dX10_leg_9 rfl (lv_at hl 2 rfl) ?_
    refine lv_i2l (v := v2.toInt64) hx hb dX10_leg_10 rfl ?_
    refine lv_lconst (v := (1 : Int64)) hx hb dX10_leg_11 (by decide) ?_
    refine lv_ldc2 hx hb hown (hts _ kc_X10_72) dX10_leg_12 ?_
    refine x_cRSi (As := [.long (v2.toInt64), .long (1 : Int64), .long (24 : Int64)]) (rest := []) G S.1 (c_X10_in l D kA _ _ (v2.toInt64) (1 : Int64) (24 : Int64) h) cd_X10_in ml_X10_66 ⟨(Nat.le_of_ble_eq_true rfl), (Nat.le_of_ble_eq_true rfl)⟩ rfl hl.1 rfl (Nat.le_of_ble_eq_true rfl) dX10_leg_15 ⟨Nat.zero_le _, Nat.zero_le _⟩ (fun r3 h => ?_)
    refine lv_if_eq (tgt := 41) hx hb dX10_leg_18 (by decide) (fun c4 => ?_) (fun c4 => ?_)
    · have h := h.1 c4
      refine lv_bipush (v := (-2 : Int32)) hx hb dX10_leg_41 (by decide) ?_
      exact x_iretM G hr hlk S (Nat.le_refl _) (Nat.le_refl _) h dX10_leg_43
    · have h := h.2 c4
      refine lv_iload_n hx hb dX10_leg_21 rfl (lv_at hl 3 rfl) ?_
      refine lv_i2l (v := v3.toInt64) hx hb dX10_leg_22 rfl ?_
      refine lv_lconst (v := (0 : Int64)) hx hb dX10_leg_23 (by decide) ?_
      refine lv_ldc2 hx hb hown (hts _ kc_X10_78) dX10_leg_24 ?_
      refine x_cRSi (As := [.long (v3.toInt64), .long (0 : Int64), .long (500 : Int64)]) (rest := []) G S.1 (c_X10_in l D kA _ _ (v3.toInt64) (0 : Int64) (500 : Int64) h) cd_X10_in ml_X10_66 ⟨(Nat.le_of_ble_eq_true rfl), (Nat.le_of_ble_eq_true rfl)⟩ rfl hl.1 rfl (Nat.le_of_ble_eq_true rfl) dX10_leg_27 ⟨Nat.zero_le _, Nat.zero_le _⟩ (fun r5 h => ?_)
      refine lv_if_eq (tgt := 41) hx hb dX10_leg_30 (by decide) (fun c6 => ?_) (fun c6 => ?_)
      · have h := h.1 c6
        refine lv_bipush (v := (-2 : Int32)) hx hb dX10_leg_41 (by decide) ?_
        exact x_iretM G hr hlk S (Nat.le_refl _) (Nat.le_refl _) h dX10_leg_43
      · have h := h.2 c6
        refine lv_iload hx hb dX10_leg_33 (lv_at hl 4 rfl) ?_
        refine x_cRSi (As := [.int v4]) (rest := []) G S.1 (c_X10_isEnd l D kA _ _ v4 h) cd_X10_isEnd ml_X10_80 ⟨(Nat.le_of_ble_eq_true rfl), (Nat.le_of_ble_eq_true rfl)⟩ rfl hl.1 rfl (Nat.le_of_ble_eq_true rfl) dX10_leg_35 ⟨Nat.zero_le _, Nat.zero_le _⟩ (fun r7 h => ?_)
        refine lv_if_ne (tgt := 44) hx hb dX10_leg_38 (by decide) (fun c8 => ?_) (fun c8 => ?_)
        · have h := h.1 c8
          refine lv_aload_n hx hb dX10_leg_44 rfl (lv_at hl 0 rfl) ?_
          obtain ⟨fs9, y10, hfs9, hvfs9, h⟩ := h
          refine x_get G S.1 hfs9 hvfs9 fl_X10_19 dX10_leg_45 ?_
          refine lv_iload_n hx hb dX10_leg_48 rfl (lv_at hl 1 rfl) ?_
          obtain ⟨n11, f12, hf12, hif12, h⟩ := h
          refine x_iald G S.1 hf12 hif12 dX10_leg_49 ?_
          refine lv_bipush (v := (8 : Int32)) hx hb dX10_leg_50 (by decide) ?_
          refine lv_icmp_eq (tgt := 68) hx hb dX10_leg_52 (by decide) (fun c13 => ?_) (fun c13 => ?_)
          · have h := h.1 c13
            refine lv_bipush (v := (-4 : Int32)) hx hb dX10_leg_68 (by decide) ?_
            exact x_iretM G hr hlk S (Nat.le_refl _) (Nat.le_refl _) h dX10_leg_70
          · have h := h.2 c13
            refine lv_aload_n hx hb dX10_leg_55 rfl (lv_at hl 0 rfl) ?_
            obtain ⟨fs14, y15, hfs14, hvfs14, h⟩ := h
            refine x_get G S.1 hfs14 hvfs14 fl_X10_22 dX10_leg_56 ?_
            refine lv_iload_n hx hb dX10_leg_59 rfl (lv_at hl 1 rfl) ?_
            obtain ⟨n16, f17, hf17, hif17, h⟩ := h
            refine x_iald G S.1 hf17 hif17 dX10_leg_60 ?_
            refine lv_iload_n hx hb dX10_leg_61 rfl (lv_at hl 2 rfl) ?_
            refine lv_iadd hx hb dX10_leg_62 ?_
            refine lv_bipush (v := (48 : Int32)) hx hb dX10_leg_63 (by decide) ?_
            refine lv_icmp_le (tgt := 71) hx hb dX10_leg_65 (by decide) (fun c18 => ?_) (fun c18 => ?_)
            · have h := h.1 c18
              refine lv_bipush (v := (8 : Int32)) hx hb dX10_leg_71 (by decide) ?_
              refine lv_iload_n hx hb dX10_leg_73 rfl (lv_at hl 1 rfl) ?_
              refine lv_imul hx hb dX10_leg_74 ?_
              refine lv_aload_n hx hb dX10_leg_75 rfl (lv_at hl 0 rfl) ?_
              obtain ⟨fs19, y20, hfs19, hvfs19, h⟩ := h
              refine x_get G S.1 hfs19 hvfs19 fl_X10_19 dX10_leg_76 ?_
              refine lv_iload_n hx hb dX10_leg_79 rfl (lv_at hl 1 rfl) ?_
              obtain ⟨n21, f22, hf22, hif22, h⟩ := h
              refine x_iald G S.1 hf22 hif22 dX10_leg_80 ?_
              refine lv_iadd hx hb dX10_leg_81 ?_
              refine lv_topi (fun x23 ex23 => ?_)
              have h := h x23 ex23
              refine lv_istore (lv' := [(5, .int x23), (0, .ref v0), (1, .int v1), (2, .int v2), (3, .int v3), (4, .int v4)]) hx hb dX10_leg_82 hl (by decide) rfl (fun ls hl => ?_)
              refine lv_aload_n hx hb dX10_leg_84 rfl (lv_at hl 1 rfl) ?_
              obtain ⟨fs24, y25, hfs24, hvfs24, h⟩ := h
              refine x_get G S.1 hfs24 hvfs24 fl_X10_7 dX10_leg_85 ?_
              refine lv_iload hx hb dX10_leg_88 (lv_at hl 0 rfl) ?_
              refine lv_iload_n hx hb dX10_leg_90 rfl (lv_at hl 3 rfl) ?_
              obtain ⟨n26, f27, hf27, hif27, h⟩ := h
              have h := h _ rfl
              refine x_iast G S hf27 hif27 dX10_leg_91 (fun H locs S => ?_)
              refine lv_aload_n hx hb dX10_leg_92 rfl (lv_at hl 1 rfl) ?_
              obtain ⟨fs29, y30, hfs29, hvfs29, h⟩ := h
              refine x_get G S.1 hfs29 hvfs29 fl_X10_13 dX10_leg_93 ?_
              refine lv_iload hx hb dX10_leg_96 (lv_at hl 0 rfl) ?_
              refine lv_iload_n hx hb dX10_leg_98 rfl (lv_at hl 4 rfl) ?_
              obtain ⟨n31, f32, hf32, hif32, h⟩ := h
              have h := h _ rfl
              refine x_iast G S hf32 hif32 dX10_leg_99 (fun H locs S => ?_)
              refine lv_aload_n hx hb dX10_leg_100 rfl (lv_at hl 1 rfl) ?_
              obtain ⟨fs34, y35, hfs34, hvfs34, h⟩ := h
              refine x_get G S.1 hfs34 hvfs34 fl_X10_16 dX10_leg_101 ?_
              refine lv_iload hx hb dX10_leg_104 (lv_at hl 0 rfl) ?_
              refine lv_iload hx hb dX10_leg_106 (lv_at hl 5 rfl) ?_
              obtain ⟨n36, f37, hf37, hif37, h⟩ := h
              have h := h _ rfl
              refine x_iast G S hf37 hif37 dX10_leg_108 (fun H locs S => ?_)
              refine lv_aload_n hx hb dX10_leg_109 rfl (lv_at hl 1 rfl) ?_
              obtain ⟨fs39, y40, hfs39, hvfs39, h⟩ := h
              refine x_get G S.1 hfs39 hvfs39 fl_X10_19 dX10_leg_110 ?_
              refine lv_iload_n hx hb dX10_leg_113 rfl (lv_at hl 2 rfl) ?_
              refine lv_dup2_11 hx hb dX10_leg_114 rfl rfl ?_
              obtain ⟨n41, f42, hf42, hif42, h⟩ := h
              refine x_iald G S.1 hf42 hif42 dX10_leg_115 ?_
              refine lv_iconst (v := (1 : Int32)) hx hb dX10_leg_116 (by decide) ?_
              refine lv_iadd hx hb dX10_leg_117 ?_
              obtain ⟨n43, f44, hf44, hif44, h⟩ := h
              have h := h _ rfl
              refine x_iast G S hf44 hif44 dX10_leg_118 (fun H locs S => ?_)
              refine lv_aload_n hx hb dX10_leg_119 rfl (lv_at hl 1 rfl) ?_
              refine lv_iload_n hx hb dX10_leg_120 rfl (lv_at hl 2 rfl) ?_
              obtain ⟨fs51, hfs51, h⟩ := h
              refine x_cMVv (As := [.int v1]) (rest := []) G S hA hfs51 rfl rfl (c_X10_layHours l D kA _ _ _ v0 v1 h) cd_X10_layHours ml_X10_83 ⟨(Nat.le_of_ble_eq_true rfl), (Nat.le_of_ble_eq_true rfl)⟩ rfl hl.1 rfl (Nat.le_of_ble_eq_true rfl) dX10_leg_121 ⟨Nat.zero_le _, Nat.zero_le _⟩ (fun X H locs h S => ?_)
              refine lv_aload_n hx hb dX10_leg_124 rfl (lv_at hl 1 rfl) ?_
              obtain ⟨fs47, y48, hfs47, hvfs47, h⟩ := h
              refine x_get G S.1 hfs47 hvfs47 fl_X10_22 dX10_leg_125 ?_
              refine lv_iload_n hx hb dX10_leg_128 rfl (lv_at hl 2 rfl) ?_
              obtain ⟨n49, f50, hf50, hif50, h⟩ := h
              refine x_iald G S.1 hf50 hif50 dX10_leg_129 ?_
              exact x_iretM G hr hlk S (Nat.le_refl _) (Nat.le_refl _) h dX10_leg_130
            · have h := h.2 c18
              refine lv_bipush (v := (-4 : Int32)) hx hb dX10_leg_68 (by decide) ?_
              exact x_iretM G hr hlk S (Nat.le_refl _) (Nat.le_refl _) h dX10_leg_70
        · have h := h.2 c8
          refine lv_bipush (v := (-2 : Int32)) hx hb dX10_leg_41 (by decide) ?_
          exact x_iretM G hr hlk S (Nat.le_refl _) (Nat.le_refl _) h dX10_leg_43
  · have h := h.2 c2
    refine lv_iconst (v := (-1 : Int32)) hx hb dX10_leg_7 (by decide) ?_
    exact x_iretM G hr hlk S (Nat.le_refl _) (Nat.le_refl _) h dX10_leg_8
def wp_X10_cut (post : Int32 → Hp → Prop) (X : Hp) (v0 : Nat) (v1 : Int32) : Prop := wp_X10_isWay (fun r1 => (¬ r1 = 0 → ∃ (fs3 : List Value) (y4 : Nat), Hs X v0 (.inr (10, fs3)) ∧ fs3[3]? = some (.ref y4) ∧ ∃ (n5 : Nat) (f6 : Nat → Int32), Hs X y4 (.inl (0, n5, .inl f6)) ∧ vp_in v1 n5 ∧ (¬ (f6 v1.toNatClampNeg) = 0 → ∃ (fs8 : List Value) (y9 : Nat), Hs X v0 (.inr (10, fs8)) ∧ fs8[3]? = some (.ref y9) ∧ ∃ (n10 : Nat) (f11 : Nat → Int32), Hs X y9 (.inl (0, n10, .inl f11)) ∧ vp_in v1 n10 ∧ ∃ (n12 : Nat) (f13 : Nat → Int32), Hs X y9 (.inl (0, n12, .inl f13)) ∧ vp_in v1 n12 ∧ ∀ X14 : Hp, X14 = hput X y9 (.inl (0, n12, .inl (upd f13 v1.toNatClampNeg ((f11 v1.toNatClampNeg) - (1 : Int32))))) → ∃ fs20 : List Value, Hs X14 v0 (.inr (10, fs20)) ∧ wp_X10_layHours (fun X15 => ∃ (fs16 : List Value) (y17 : Nat), Hs X15 v0 (.inr (10, fs16)) ∧ fs16[3]? = some (.ref y17) ∧ ∃ (n18 : Nat) (f19 : Nat → Int32), Hs X15 y17 (.inl (0, n18, .inl f19)) ∧ vp_in v1 n18 ∧ post (f19 v1.toNatClampNeg) X15)  X14 v0 v1) ∧ ((f6 v1.toNatClampNeg) = 0 → post (-5 : Int32) X)) ∧ (r1 = 0 → post (-1 : Int32) X))  X v1
set_option maxHeartbeats 4000000 in
set_option maxRecDepth 100000 in
theorem c_X10_cut (l : Launch) (D : va_G) (kA : Nat → ClassId) (post : Int32 → Hp → Prop) (X : Hp) (sz : Nat) (v0 : Nat) (v1 : Int32) (h : wp_X10_cut post X v0 v1) : Met l yX10_cut (.code yX10_cut cX10_cut 2 (some .int) :: gd) (rmO 2 0 0 45) (va_Pc [Value.ref v0, Value.int v1] (PreM D kA X sz)) (va_Qi post (PoM D kA X sz) (va_A (hw kA X) sz)) 0 0 (va_A (hw kA X) sz) := by
  unfold wp_X10_cut at h
  refine x_enM (by decide) (Nat.le_of_ble_eq_true rfl) ?_
  intro p e s m below meth c G hr hlk hin hsz hA S ls hl
  obtain ⟨hx, hb, hml, hown, hts, hE, hK⟩ := id G
  have hl : lv_has ls 2 [(0, .ref v0), (1, .int v1)] := hl
  refine lv_iload_n hx hb dX10_cut_0 rfl (lv_at hl 1 rfl) ?_
  refine x_cRSi (As := [.int v1]) (rest := []) G S.1 (c_X10_isWay l D kA _ _ v1 h) cd_X10_isWay ml_X10_74 ⟨(Nat.le_of_ble_eq_true rfl), (Nat.le_of_ble_eq_true rfl)⟩ rfl hl.1 rfl (Nat.le_of_ble_eq_true rfl) dX10_cut_1 ⟨Nat.zero_le _, Nat.zero_le _⟩ (fun r1 h => ?_)
  refine lv_if_ne (tgt := 9) hx hb dX10_cut_4 (by decide) (fun c2 => ?_) (fun c2 => ?_)
  · have h := h.1 c2
    refine lv_aload_n hx hb dX10_cut_9 rfl (lv_at hl 0 rfl) ?_
    obtain ⟨fs3, y4, hfs3, hvfs3, h⟩ := h
    refine x_get G S.1 hfs3 hvfs3 fl_X10_19 dX10_cut_10 ?_
    refine lv_iload_n hx hb dX10_cut_13 rfl (lv_at hl 1 rfl) ?_
    obtain ⟨n5, f6, hf6, hif6, h⟩ := h
    refine x_iald G S.1 hf6 hif6 dX10_cut_14 ?_
    refine lv_if_ne (tgt := 21) hx hb dX10_cut_15 (by decide) (fun c7 => ?_) (fun c7 => ?_)
    · have h := h.1 c7
      refine lv_aload_n hx hb dX10_cut_21 rfl (lv_at hl 0 rfl) ?_
      obtain ⟨fs8, y9, hfs8, hvfs8, h⟩ := h
      refine x_get G S.1 hfs8 hvfs8 fl_X10_19 dX10_cut_22 ?_
      refine lv_iload_n hx hb dX10_cut_25 rfl (lv_at hl 1 rfl) ?_
      refine lv_dup2_11 hx hb dX10_cut_26 rfl rfl ?_
      obtain ⟨n10, f11, hf11, hif11, h⟩ := h
      refine x_iald G S.1 hf11 hif11 dX10_cut_27 ?_
      refine lv_iconst (v := (1 : Int32)) hx hb dX10_cut_28 (by decide) ?_
      refine lv_isub hx hb dX10_cut_29 ?_
      obtain ⟨n12, f13, hf13, hif13, h⟩ := h
      have h := h _ rfl
      refine x_iast G S hf13 hif13 dX10_cut_30 (fun H locs S => ?_)
      refine lv_aload_n hx hb dX10_cut_31 rfl (lv_at hl 0 rfl) ?_
      refine lv_iload_n hx hb dX10_cut_32 rfl (lv_at hl 1 rfl) ?_
      obtain ⟨fs20, hfs20, h⟩ := h
      refine x_cMVv (As := [.int v1]) (rest := []) G S hA hfs20 rfl rfl (c_X10_layHours l D kA _ _ _ v0 v1 h) cd_X10_layHours ml_X10_83 ⟨(Nat.le_of_ble_eq_true rfl), (Nat.le_of_ble_eq_true rfl)⟩ rfl hl.1 rfl (Nat.le_of_ble_eq_true rfl) dX10_cut_33 ⟨Nat.zero_le _, Nat.zero_le _⟩ (fun X H locs h S => ?_)
      refine lv_aload_n hx hb dX10_cut_36 rfl (lv_at hl 0 rfl) ?_
      obtain ⟨fs16, y17, hfs16, hvfs16, h⟩ := h
      refine x_get G S.1 hfs16 hvfs16 fl_X10_19 dX10_cut_37 ?_
      refine lv_iload_n hx hb dX10_cut_40 rfl (lv_at hl 1 rfl) ?_
      obtain ⟨n18, f19, hf19, hif19, h⟩ := h
      refine x_iald G S.1 hf19 hif19 dX10_cut_41 ?_
      exact x_iretM G hr hlk S (Nat.le_refl _) (Nat.le_refl _) h dX10_cut_42
    · have h := h.2 c7
      refine lv_bipush (v := (-5 : Int32)) hx hb dX10_cut_18 (by decide) ?_
      exact x_iretM G hr hlk S (Nat.le_refl _) (Nat.le_refl _) h dX10_cut_20
  · have h := h.2 c2
    refine lv_iconst (v := (-1 : Int32)) hx hb dX10_cut_7 (by decide) ?_
    exact x_iretM G hr hlk S (Nat.le_refl _) (Nat.le_refl _) h dX10_cut_8
def bk_X10_about_33 (post : Int32 → Prop) (X : Hp) (v0 : Nat) (v1 : Int32) (v2 : Int32) (v3 : Int32)  : Nat → Int32 → Int32 → Prop
  | 0, _, _ => False
  | k + 1, b33_4, b33_5 => (v2 ≤ b33_5 → ∀ x11 : Int32, x11 = (((8 : Int32) * v1) + v2) → (v3 = (0 : Int32) → ∃ (fs13 : List Value) (y14 : Nat), Hs X v0 (.inr (10, fs13)) ∧ fs13[0]? = some (.ref y14) ∧ ∃ (n15 : Nat) (f16 : Nat → Int32), Hs X y14 (.inl (0, n15, .inl f16)) ∧ vp_in x11 n15 ∧ post (f16 x11.toNatClampNeg)) ∧ (v3 = (1 : Int32) → ∃ (fs18 : List Value) (y19 : Nat), Hs X v0 (.inr (10, fs18)) ∧ fs18[1]? = some (.ref y19) ∧ ∃ (n20 : Nat) (f21 : Nat → Int32), Hs X y19 (.inl (0, n20, .inl f21)) ∧ vp_in x11 n20 ∧ post (f21 x11.toNatClampNeg)) ∧ (v3 = (2 : Int32) → ∃ (fs23 : List Value) (y24 : Nat), Hs X v0 (.inr (10, fs23)) ∧ fs23[2]? = some (.ref y24) ∧ ∃ (n25 : Nat) (f26 : Nat → Int32), Hs X y24 (.inl (0, n25, .inl f26)) ∧ vp_in x11 n25 ∧ post (f26 x11.toNatClampNeg)) ∧ (v3 = (3 : Int32) → post b33_4) ∧ (¬ v3 = (0 : Int32) ∧ ¬ v3 = (1 : Int32) ∧ ¬ v3 = (2 : Int32) ∧ ¬ v3 = (3 : Int32) → post (-2 : Int32))) ∧ (¬ v2 ≤ b33_5 → ∃ (fs28 : List Value) (y29 : Nat), Hs X v0 (.inr (10, fs28)) ∧ fs28[0]? = some (.ref y29) ∧ ∃ (n30 : Nat) (f31 : Nat → Int32), Hs X y29 (.inl (0, n30, .inl f31)) ∧ vp_in (((8 : Int32) * v1) + b33_5) n30 ∧ ∀ x32 : Int32, x32 = (b33_4 + (f31 (((8 : Int32) * v1) + b33_5).toNatClampNeg)) → ∀ x33 : Int32, x33 = b33_5 + (1 : Int32) → (bk_X10_about_33 post X v0 v1 v2 v3 k) x32 x33)
def wp_X10_about (post : Int32 → Prop) (X : Hp) (v0 : Nat) (v1 : Int32) (v2 : Int32) (v3 : Int32) : Prop := wp_X10_isWay (fun r1 => (r1 = 0 → post (-1 : Int32)) ∧ (¬ r1 = 0 → ∃ (fs3 : List Value) (y4 : Nat), Hs X v0 (.inr (10, fs3)) ∧ fs3[3]? = some (.ref y4) ∧ ∃ (n5 : Nat) (f6 : Nat → Int32), Hs X y4 (.inl (0, n5, .inl f6)) ∧ vp_in v1 n5 ∧ wp_X10_in (fun r7 => (¬ r7 = 0 → ∃ n9 : Nat, bk_X10_about_33 post X v0 v1 v2 v3 n9 (0 : Int32) (0 : Int32)) ∧ (r7 = 0 → post (-1 : Int32)))  X (v2.toInt64) (0 : Int64) (((f6 v1.toNatClampNeg) - (1 : Int32)).toInt64)))  X v1
set_option maxHeartbeats 4000000 in
set_option maxRecDepth 100000 in
theorem c_X10_about (l : Launch) (D : va_G) (kA : Nat → ClassId) (post : Int32 → Prop) (X : Hp) (v0 : Nat) (v1 : Int32) (v2 : Int32) (v3 : Int32) (h : wp_X10_about post X v0 v1 v2 v3) : Met l yX10_about (.code yX10_about cX10_about 6 (some .int) :: gd) (rmO 2 0 0 45) (va_Pc [Value.ref v0, Value.int v1, Value.int v2, Value.int v3] (Pre D kA X)) (vp_Si post) 0 0 (fun _ => False) := by
  unfold wp_X10_about at h
  refine x_enR (by decide) (Nat.le_of_ble_eq_true rfl) ?_
  intro p e s m below meth c G hr hlk hP ls hl
  obtain ⟨hx, hb, hml, hown, hts, hE, hK⟩ := id G
  have hl : lv_has ls 6 [(0, .ref v0), (1, .int v1), (2, .int v2), (3, .int v3)] := hl
  have J_33 : ∀ (n : Nat) (b33_4 : Int32) (b33_5 : Int32), ∀ (_ : bk_X10_about_33 post X v0 v1 v2 v3  n b33_4 b33_5), ∀ ls, lv_has ls 6 [(0, .ref v0), (1, .int v1), (2, .int v2), (3, .int v3), (4, .int b33_4), (5, .int b33_5)] → W p l e (rmO 2 0 0 45) s m [Value.ref v0, Value.int v1, Value.int v2, Value.int v3].toArray below meth c s.heap [] 0 0 (MQ below (vp_Si post) [Value.ref v0, Value.int v1, Value.int v2, Value.int v3].toArray s 0 0 (fun _ => False)) (F0 m 33 ls []) := by
    intro n
    induction n with
    | zero =>
      intro b33_4 b33_5 h ls hl
      rw [bk_X10_about_33] at h
      exact h.elim
    | succ n_33 ih_33 =>
      intro b33_4 b33_5 h ls hl
      rw [bk_X10_about_33] at h
      refine lv_iload hx hb dX10_about_33 (lv_at hl 5 rfl) ?_
      refine lv_iload_n hx hb dX10_about_35 rfl (lv_at hl 2 rfl) ?_
      refine lv_icmp_ge (tgt := 62) hx hb dX10_about_36 (by decide) (fun c10 => ?_) (fun c10 => ?_)
      · have h := h.1 c10
        refine lv_bipush (v := (8 : Int32)) hx hb dX10_about_62 (by decide) ?_
        refine lv_iload_n hx hb dX10_about_64 rfl (lv_at hl 1 rfl) ?_
        refine lv_imul hx hb dX10_about_65 ?_
        refine lv_iload_n hx hb dX10_about_66 rfl (lv_at hl 2 rfl) ?_
        refine lv_iadd hx hb dX10_about_67 ?_
        refine lv_topi (fun x11 ex11 => ?_)
        have h := h x11 ex11
        refine lv_istore (lv' := [(5, .int x11), (0, .ref v0), (1, .int v1), (2, .int v2), (3, .int v3), (4, .int b33_4)]) hx hb dX10_about_68 hl (by decide) rfl (fun ls hl => ?_)
        refine lv_iload_n hx hb dX10_about_70 rfl (lv_at hl 4 rfl) ?_
        by_cases c12 : v3 = (0 : Int32)
        · have h := h.1 c12
          refine lv_tableIn (off := 29) (tgt := 100) hx hb dX10_about_71 (by rw [c12]; decide) (by rw [c12]; decide) (by rw [c12]; decide) (by decide) ?_
          refine lv_aload_n hx hb dX10_about_100 rfl (lv_at hl 1 rfl) ?_
          obtain ⟨fs13, y14, hfs13, hvfs13, h⟩ := h
          refine x_get G hP hfs13 hvfs13 fl_X10_7 dX10_about_101 ?_
          refine lv_iload hx hb dX10_about_104 (lv_at hl 0 rfl) ?_
          obtain ⟨n15, f16, hf16, hif16, h⟩ := h
          refine x_iald G hP hf16 hif16 dX10_about_106 ?_
          exact x_iretR G hr hlk h dX10_about_107
        have h := h.2
        by_cases c17 : v3 = (1 : Int32)
        · have h := h.1 c17
          refine lv_tableIn (off := 37) (tgt := 108) hx hb dX10_about_71 (by rw [c17]; decide) (by rw [c17]; decide) (by rw [c17]; decide) (by decide) ?_
          refine lv_aload_n hx hb dX10_about_108 rfl (lv_at hl 1 rfl) ?_
          obtain ⟨fs18, y19, hfs18, hvfs18, h⟩ := h
          refine x_get G hP hfs18 hvfs18 fl_X10_13 dX10_about_109 ?_
          refine lv_iload hx hb dX10_about_112 (lv_at hl 0 rfl) ?_
          obtain ⟨n20, f21, hf21, hif21, h⟩ := h
          refine x_iald G hP hf21 hif21 dX10_about_114 ?_
          exact x_iretR G hr hlk h dX10_about_115
        have h := h.2
        by_cases c22 : v3 = (2 : Int32)
        · have h := h.1 c22
          refine lv_tableIn (off := 45) (tgt := 116) hx hb dX10_about_71 (by rw [c22]; decide) (by rw [c22]; decide) (by rw [c22]; decide) (by decide) ?_
          refine lv_aload_n hx hb dX10_about_116 rfl (lv_at hl 1 rfl) ?_
          obtain ⟨fs23, y24, hfs23, hvfs23, h⟩ := h
          refine x_get G hP hfs23 hvfs23 fl_X10_16 dX10_about_117 ?_
          refine lv_iload hx hb dX10_about_120 (lv_at hl 0 rfl) ?_
          obtain ⟨n25, f26, hf26, hif26, h⟩ := h
          refine x_iald G hP hf26 hif26 dX10_about_122 ?_
          exact x_iretR G hr hlk h dX10_about_123
        have h := h.2
        by_cases c27 : v3 = (3 : Int32)
        · have h := h.1 c27
          refine lv_tableIn (off := 53) (tgt := 124) hx hb dX10_about_71 (by rw [c27]; decide) (by rw [c27]; decide) (by rw [c27]; decide) (by decide) ?_
          refine lv_iload hx hb dX10_about_124 (lv_at hl 5 rfl) ?_
          exact x_iretR G hr hlk h dX10_about_126
        have h := h.2
        have h := h ⟨c12, c17, c22, c27⟩
        refine lv_tableOut (tgt := 127) hx hb dX10_about_71 (by have := lv_neT c12 (show (0 : Int32).toInt = 0 by decide); have := lv_neT c17 (show (1 : Int32).toInt = 1 by decide); have := lv_neT c22 (show (2 : Int32).toInt = 2 by decide); have := lv_neT c27 (show (3 : Int32).toInt = 3 by decide); omega) (by decide) ?_
        refine lv_bipush (v := (-2 : Int32)) hx hb dX10_about_127 (by decide) ?_
        exact x_iretR G hr hlk h dX10_about_129
      · have h := h.2 c10
        refine lv_iload hx hb dX10_about_39 (lv_at hl 4 rfl) ?_
        refine lv_aload_n hx hb dX10_about_41 rfl (lv_at hl 0 rfl) ?_
        obtain ⟨fs28, y29, hfs28, hvfs28, h⟩ := h
        refine x_get G hP hfs28 hvfs28 fl_X10_7 dX10_about_42 ?_
        refine lv_bipush (v := (8 : Int32)) hx hb dX10_about_45 (by decide) ?_
        refine lv_iload_n hx hb dX10_about_47 rfl (lv_at hl 1 rfl) ?_
        refine lv_imul hx hb dX10_about_48 ?_
        refine lv_iload hx hb dX10_about_49 (lv_at hl 5 rfl) ?_
        refine lv_iadd hx hb dX10_about_51 ?_
        obtain ⟨n30, f31, hf31, hif31, h⟩ := h
        refine x_iald G hP hf31 hif31 dX10_about_52 ?_
        refine lv_iadd hx hb dX10_about_53 ?_
        refine lv_topi (fun x32 ex32 => ?_)
        have h := h x32 ex32
        refine lv_istore (lv' := [(4, .int x32), (0, .ref v0), (1, .int v1), (2, .int v2), (3, .int v3), (5, .int b33_5)]) hx hb dX10_about_54 hl (by decide) rfl (fun ls hl => ?_)
        obtain ⟨x33, ex33⟩ : ∃ y : Int32, y = b33_5 + (1 : Int32) := ⟨_, rfl⟩
        have h := h x33 ex33
        refine lv_iinc (v := x33) (lv' := [(5, .int x33), (4, .int x32), (0, .ref v0), (1, .int v1), (2, .int v2), (3, .int v3)]) hx hb dX10_about_56 hl (k := 5) rfl (by rw [ex33]; rfl) (by decide) rfl (fun ls hl => ?_)
        refine lv_goto (tgt := 33) hx hb dX10_about_59 (by decide) ?_
        exact ih_33 _ _ h ls (lv_sub hl [2, 3, 4, 5, 1, 0] rfl)
  refine lv_iload_n hx hb dX10_about_0 rfl (lv_at hl 1 rfl) ?_
  refine x_cRSi (As := [.int v1]) (rest := []) G hP (c_X10_isWay l D kA _ _ v1 h) cd_X10_isWay ml_X10_74 ⟨(Nat.le_of_ble_eq_true rfl), (Nat.le_of_ble_eq_true rfl)⟩ rfl hl.1 rfl (Nat.le_of_ble_eq_true rfl) dX10_about_1 ⟨Nat.zero_le _, Nat.zero_le _⟩ (fun r1 h => ?_)
  refine lv_if_eq (tgt := 25) hx hb dX10_about_4 (by decide) (fun c2 => ?_) (fun c2 => ?_)
  · have h := h.1 c2
    refine lv_iconst (v := (-1 : Int32)) hx hb dX10_about_25 (by decide) ?_
    exact x_iretR G hr hlk h dX10_about_26
  · have h := h.2 c2
    refine lv_iload_n hx hb dX10_about_7 rfl (lv_at hl 2 rfl) ?_
    refine lv_i2l (v := v2.toInt64) hx hb dX10_about_8 rfl ?_
    refine lv_lconst (v := (0 : Int64)) hx hb dX10_about_9 (by decide) ?_
    refine lv_aload_n hx hb dX10_about_10 rfl (lv_at hl 0 rfl) ?_
    obtain ⟨fs3, y4, hfs3, hvfs3, h⟩ := h
    refine x_get G hP hfs3 hvfs3 fl_X10_19 dX10_about_11 ?_
    refine lv_iload_n hx hb dX10_about_14 rfl (lv_at hl 1 rfl) ?_
    obtain ⟨n5, f6, hf6, hif6, h⟩ := h
    refine x_iald G hP hf6 hif6 dX10_about_15 ?_
    refine lv_iconst (v := (1 : Int32)) hx hb dX10_about_16 (by decide) ?_
    refine lv_isub hx hb dX10_about_17 ?_
    refine lv_i2l (v := ((f6 v1.toNatClampNeg) - (1 : Int32)).toInt64) hx hb dX10_about_18 rfl ?_
    refine x_cRSi (As := [.long (v2.toInt64), .long (0 : Int64), .long (((f6 v1.toNatClampNeg) - (1 : Int32)).toInt64)]) (rest := []) G hP (c_X10_in l D kA _ _ (v2.toInt64) (0 : Int64) (((f6 v1.toNatClampNeg) - (1 : Int32)).toInt64) h) cd_X10_in ml_X10_66 ⟨(Nat.le_of_ble_eq_true rfl), (Nat.le_of_ble_eq_true rfl)⟩ rfl hl.1 rfl (Nat.le_of_ble_eq_true rfl) dX10_about_19 ⟨Nat.zero_le _, Nat.zero_le _⟩ (fun r7 h => ?_)
    refine lv_if_ne (tgt := 27) hx hb dX10_about_22 (by decide) (fun c8 => ?_) (fun c8 => ?_)
    · have h := h.1 c8
      refine lv_iconst (v := (0 : Int32)) hx hb dX10_about_27 (by decide) ?_
      refine lv_istore (lv' := [(4, .int (0 : Int32)), (0, .ref v0), (1, .int v1), (2, .int v2), (3, .int v3)]) hx hb dX10_about_28 hl (by decide) rfl (fun ls hl => ?_)
      refine lv_iconst (v := (0 : Int32)) hx hb dX10_about_30 (by decide) ?_
      refine lv_istore (lv' := [(5, .int (0 : Int32)), (4, .int (0 : Int32)), (0, .ref v0), (1, .int v1), (2, .int v2), (3, .int v3)]) hx hb dX10_about_31 hl (by decide) rfl (fun ls hl => ?_)
      obtain ⟨n9, h⟩ := h
      exact J_33 n9 _ _ h ls (lv_sub hl [2, 3, 4, 5, 1, 0] rfl)
    · have h := h.2 c8
      refine lv_iconst (v := (-1 : Int32)) hx hb dX10_about_25 (by decide) ?_
      exact x_iretR G hr hlk h dX10_about_26
def bk_X10_nap_94 (post : Int32 → Hp → Prop) (v0 : Nat) (v1 : Int32) (v2 : Int32) (v3 : Int32)  (X : Hp) (b94_4 : Int32) : Prop := ∃ (fs28 : List Value) (y29 : Nat), Hs X v0 (.inr (10, fs28)) ∧ fs28[20]? = some (.ref y29) ∧ ∃ (n30 : Nat) (f31 : Nat → Int32), Hs X y29 (.inl (1, n30, .inl f31)) ∧ vp_in (0 : Int32) n30 ∧ ∀ X32 : Hp, X32 = hput X y29 (.inl (1, n30, .inl (upd f31 (0 : Int32).toNatClampNeg (vp_nar .boolean (0 : Int32))))) → ∃ (fs33 : List Value) (y34 : Nat), Hs X32 v0 (.inr (10, fs33)) ∧ fs33[20]? = some (.ref y34) ∧ ∃ (n35 : Nat) (f36 : Nat → Int32), Hs X32 y34 (.inl (1, n35, .inl f36)) ∧ vp_in (1 : Int32) n35 ∧ ∀ X37 : Hp, X37 = hput X32 y34 (.inl (1, n35, .inl (upd f36 (1 : Int32).toNatClampNeg (vp_nar .boolean (0 : Int32))))) → post b94_4 X37
def bk_X10_nap_67 (post : Int32 → Hp → Prop) (v0 : Nat) (v1 : Int32) (v2 : Int32) (v3 : Int32)  (X : Hp) (b67_s0 : Int32) : Prop := (¬ v2 = 0 → ∃ (fs18 : List Value) (y19 : Nat), Hs X v0 (.inr (10, fs18)) ∧ fs18[8]? = some (.ref y19) ∧ ∃ (n20 : Nat) (f21 : Nat → Int32), Hs X y19 (.inl (0, n20, .inl f21)) ∧ vp_in (v1 - (1 : Int32)) n20 ∧ ∀ X22 : Hp, X22 = hput X y19 (.inl (0, n20, .inl (upd f21 (v1 - (1 : Int32)).toNatClampNeg v3))) → bk_X10_nap_94 post v0 v1 v2 v3 X22 b67_s0) ∧ (v2 = 0 → ∃ (fs23 : List Value) (y24 : Nat), Hs X v0 (.inr (10, fs23)) ∧ fs23[7]? = some (.ref y24) ∧ ∃ (n25 : Nat) (f26 : Nat → Int32), Hs X y24 (.inl (0, n25, .inl f26)) ∧ vp_in (v1 - (1 : Int32)) n25 ∧ ∀ X27 : Hp, X27 = hput X y24 (.inl (0, n25, .inl (upd f26 (v1 - (1 : Int32)).toNatClampNeg v3))) → bk_X10_nap_94 post v0 v1 v2 v3 X27 b67_s0)
def bk_X10_nap_35 (post : Int32 → Hp → Prop) (v0 : Nat) (v1 : Int32) (v2 : Int32) (v3 : Int32)  (X : Hp) (b35_s0 : Int64) (b35_s1 : Int64) (b35_s2 : Int64) : Prop := wp_X10_in (fun r6 => (¬ r6 = 0 → (¬ v2 = 0 → ∃ (fs9 : List Value) (y10 : Nat), Hs X v0 (.inr (10, fs9)) ∧ fs9[8]? = some (.ref y10) ∧ ∃ (n11 : Nat) (f12 : Nat → Int32), Hs X y10 (.inl (0, n11, .inl f12)) ∧ vp_in (v1 - (1 : Int32)) n11 ∧ bk_X10_nap_67 post v0 v1 v2 v3 X ((f12 (v1 - (1 : Int32)).toNatClampNeg))) ∧ (v2 = 0 → ∃ (fs13 : List Value) (y14 : Nat), Hs X v0 (.inr (10, fs13)) ∧ fs13[7]? = some (.ref y14) ∧ ∃ (n15 : Nat) (f16 : Nat → Int32), Hs X y14 (.inl (0, n15, .inl f16)) ∧ vp_in (v1 - (1 : Int32)) n15 ∧ bk_X10_nap_67 post v0 v1 v2 v3 X ((f16 (v1 - (1 : Int32)).toNatClampNeg)))) ∧ (r6 = 0 → post (-2 : Int32) X))  X b35_s2 b35_s1 b35_s0
def wp_X10_nap (post : Int32 → Hp → Prop) (X : Hp) (v0 : Nat) (v1 : Int32) (v2 : Int32) (v3 : Int32) : Prop := wp_X10_in (fun r1 => (r1 = 0 → post (-2 : Int32) X) ∧ (¬ r1 = 0 → wp_X10_isEnd (fun r3 => (r3 = 0 → post (-2 : Int32) X) ∧ (¬ r3 = 0 → (¬ v2 = 0 → bk_X10_nap_35 post v0 v1 v2 v3 X (1000 : Int64) (0 : Int64) ((v3.toInt64))) ∧ (v2 = 0 → bk_X10_nap_35 post v0 v1 v2 v3 X (9 : Int64) (0 : Int64) ((v3.toInt64)))))  X v2))  X (v1.toInt64) (1 : Int64) (3 : Int64)
set_option maxHeartbeats 4000000 in
set_option maxRecDepth 100000 in
theorem c_X10_nap (l : Launch) (D : va_G) (kA : Nat → ClassId) (post : Int32 → Hp → Prop) (X : Hp) (sz : Nat) (v0 : Nat) (v1 : Int32) (v2 : Int32) (v3 : Int32) (h : wp_X10_nap post X v0 v1 v2 v3) : Met l yX10_nap (.code yX10_nap cX10_nap 5 (some .int) :: gd) (rmO 2 0 0 45) (va_Pc [Value.ref v0, Value.int v1, Value.int v2, Value.int v3] (PreM D kA X sz)) (va_Qi post (PoM D kA X sz) (va_A (hw kA X) sz)) 0 0 (va_A (hw kA X) sz) := by
  unfold wp_X10_nap at h
  refine x_enM (by decide) (Nat.le_of_ble_eq_true rfl) ?_
  intro p e s m below meth c G hr hlk hin hsz hA S ls hl
  obtain ⟨hx, hb, hml, hown, hts, hE, hK⟩ := id G
  have hl : lv_has ls 5 [(0, .ref v0), (1, .int v1), (2, .int v2), (3, .int v3)] := hl
  obtain ⟨X0, hX0⟩ : ∃ Y : Hp, Y = X := ⟨_, rfl⟩
  subst hX0
  have J_94 : ∀ (X : Hp) (b94_4 : Int32), ∀ (H : Heap) (locs : List Loc) (_ : bk_X10_nap_94 post v0 v1 v2 v3  X b94_4), Sx D kA (va_A (hw kA X0) sz) s.heap H locs X → ∀ ls, lv_has ls 5 [(0, .ref v0), (4, .int b94_4)] → W p l e (rmO 2 0 0 45) s m [Value.ref v0, Value.int v1, Value.int v2, Value.int v3].toArray below meth c H locs 0 0 (MQ below (va_Qi post (PoM D kA X0 sz) (va_A (hw kA X0) sz)) [Value.ref v0, Value.int v1, Value.int v2, Value.int v3].toArray s 0 0 (va_A (hw kA X0) sz)) (F0 m 94 ls []) := by
    intro X b94_4 H locs h S ls hl
    unfold bk_X10_nap_94 at h
    refine lv_aload_n hx hb dX10_nap_94 rfl (lv_at hl 0 rfl) ?_
    obtain ⟨fs28, y29, hfs28, hvfs28, h⟩ := h
    refine x_get G S.1 hfs28 hvfs28 fl_X10_53 dX10_nap_95 ?_
    refine lv_iconst (v := (0 : Int32)) hx hb dX10_nap_98 (by decide) ?_
    refine lv_iconst (v := (0 : Int32)) hx hb dX10_nap_99 (by decide) ?_
    obtain ⟨n30, f31, hf31, hif31, h⟩ := h
    have h := h _ rfl
    refine x_zast G S hf31 hif31 dX10_nap_100 (fun H locs S => ?_)
    refine lv_aload_n hx hb dX10_nap_101 rfl (lv_at hl 0 rfl) ?_
    obtain ⟨fs33, y34, hfs33, hvfs33, h⟩ := h
    refine x_get G S.1 hfs33 hvfs33 fl_X10_53 dX10_nap_102 ?_
    refine lv_iconst (v := (1 : Int32)) hx hb dX10_nap_105 (by decide) ?_
    refine lv_iconst (v := (0 : Int32)) hx hb dX10_nap_106 (by decide) ?_
    obtain ⟨n35, f36, hf36, hif36, h⟩ := h
    have h := h _ rfl
    refine x_zast G S hf36 hif36 dX10_nap_107 (fun H locs S => ?_)
    refine lv_iload hx hb dX10_nap_108 (lv_at hl 1 rfl) ?_
    exact x_iretM G hr hlk S (Nat.le_refl _) (Nat.le_refl _) h dX10_nap_110
  have J_67 : ∀ (X : Hp) (b67_s0 : Int32), ∀ (H : Heap) (locs : List Loc) (_ : bk_X10_nap_67 post v0 v1 v2 v3  X b67_s0), Sx D kA (va_A (hw kA X0) sz) s.heap H locs X → ∀ ls, lv_has ls 5 [(0, .ref v0), (1, .int v1), (2, .int v2), (3, .int v3)] → W p l e (rmO 2 0 0 45) s m [Value.ref v0, Value.int v1, Value.int v2, Value.int v3].toArray below meth c H locs 0 0 (MQ below (va_Qi post (PoM D kA X0 sz) (va_A (hw kA X0) sz)) [Value.ref v0, Value.int v1, Value.int v2, Value.int v3].toArray s 0 0 (va_A (hw kA X0) sz)) (F0 m 67 ls [.int b67_s0]) := by
    intro X b67_s0 H locs h S ls hl
    unfold bk_X10_nap_67 at h
    refine lv_istore (lv' := [(4, .int b67_s0), (0, .ref v0), (1, .int v1), (2, .int v2), (3, .int v3)]) hx hb dX10_nap_67 hl (by decide) rfl (fun ls hl => ?_)
    refine lv_iload_n hx hb dX10_nap_69 rfl (lv_at hl 3 rfl) ?_
    refine lv_if_ne (tgt := 85) hx hb dX10_nap_70 (by decide) (fun c17 => ?_) (fun c17 => ?_)
    · have h := h.1 c17
      refine lv_aload_n hx hb dX10_nap_85 rfl (lv_at hl 1 rfl) ?_
      obtain ⟨fs18, y19, hfs18, hvfs18, h⟩ := h
      refine x_get G S.1 hfs18 hvfs18 fl_X10_34 dX10_nap_86 ?_
      refine lv_iload_n hx hb dX10_nap_89 rfl (lv_at hl 2 rfl) ?_
      refine lv_iconst (v := (1 : Int32)) hx hb dX10_nap_90 (by decide) ?_
      refine lv_isub hx hb dX10_nap_91 ?_
      refine lv_iload_n hx hb dX10_nap_92 rfl (lv_at hl 4 rfl) ?_
      obtain ⟨n20, f21, hf21, hif21, h⟩ := h
      have h := h _ rfl
      refine x_iast G S hf21 hif21 dX10_nap_93 (fun H locs S => ?_)
      exact J_94 _ _ _ _ h S ls (lv_sub hl [1, 0] rfl)
    · have h := h.2 c17
      refine lv_aload_n hx hb dX10_nap_73 rfl (lv_at hl 1 rfl) ?_
      obtain ⟨fs23, y24, hfs23, hvfs23, h⟩ := h
      refine x_get G S.1 hfs23 hvfs23 fl_X10_31 dX10_nap_74 ?_
      refine lv_iload_n hx hb dX10_nap_77 rfl (lv_at hl 2 rfl) ?_
      refine lv_iconst (v := (1 : Int32)) hx hb dX10_nap_78 (by decide) ?_
      refine lv_isub hx hb dX10_nap_79 ?_
      refine lv_iload_n hx hb dX10_nap_80 rfl (lv_at hl 4 rfl) ?_
      obtain ⟨n25, f26, hf26, hif26, h⟩ := h
      have h := h _ rfl
      refine x_iast G S hf26 hif26 dX10_nap_81 (fun H locs S => ?_)
      refine lv_goto (tgt := 94) hx hb dX10_nap_82 (by decide) ?_
      exact J_94 _ _ _ _ h S ls (lv_sub hl [1, 0] rfl)
  have J_35 : ∀ (X : Hp) (b35_s0 : Int64) (b35_s1 : Int64) (b35_s2 : Int64), ∀ (H : Heap) (locs : List Loc) (_ : bk_X10_nap_35 post v0 v1 v2 v3  X b35_s0 b35_s1 b35_s2), Sx D kA (va_A (hw kA X0) sz) s.heap H locs X → ∀ ls, lv_has ls 5 [(0, .ref v0), (1, .int v1), (2, .int v2), (3, .int v3)] → W p l e (rmO 2 0 0 45) s m [Value.ref v0, Value.int v1, Value.int v2, Value.int v3].toArray below meth c H locs 0 0 (MQ below (va_Qi post (PoM D kA X0 sz) (va_A (hw kA X0) sz)) [Value.ref v0, Value.int v1, Value.int v2, Value.int v3].toArray s 0 0 (va_A (hw kA X0) sz)) (F0 m 35 ls [.long b35_s0, .long b35_s1, .long b35_s2]) := by
    intro X b35_s0 b35_s1 b35_s2 H locs h S ls hl
    unfold bk_X10_nap_35 at h
    refine x_cRSi (As := [.long b35_s2, .long b35_s1, .long b35_s0]) (rest := []) G S.1 (c_X10_in l D kA _ _ b35_s2 b35_s1 b35_s0 h) cd_X10_in ml_X10_66 ⟨(Nat.le_of_ble_eq_true rfl), (Nat.le_of_ble_eq_true rfl)⟩ rfl hl.1 rfl (Nat.le_of_ble_eq_true rfl) dX10_nap_35 ⟨Nat.zero_le _, Nat.zero_le _⟩ (fun r6 h => ?_)
    refine lv_if_ne (tgt := 44) hx hb dX10_nap_38 (by decide) (fun c7 => ?_) (fun c7 => ?_)
    · have h := h.1 c7
      refine lv_iload_n hx hb dX10_nap_44 rfl (lv_at hl 2 rfl) ?_
      refine lv_if_ne (tgt := 59) hx hb dX10_nap_45 (by decide) (fun c8 => ?_) (fun c8 => ?_)
      · have h := h.1 c8
        refine lv_aload_n hx hb dX10_nap_59 rfl (lv_at hl 0 rfl) ?_
        obtain ⟨fs9, y10, hfs9, hvfs9, h⟩ := h
        refine x_get G S.1 hfs9 hvfs9 fl_X10_34 dX10_nap_60 ?_
        refine lv_iload_n hx hb dX10_nap_63 rfl (lv_at hl 1 rfl) ?_
        refine lv_iconst (v := (1 : Int32)) hx hb dX10_nap_64 (by decide) ?_
        refine lv_isub hx hb dX10_nap_65 ?_
        obtain ⟨n11, f12, hf12, hif12, h⟩ := h
        refine x_iald G S.1 hf12 hif12 dX10_nap_66 ?_
        exact J_67 _ _ _ _ h S ls (lv_sub hl [0, 1, 2, 3] rfl)
      · have h := h.2 c8
        refine lv_aload_n hx hb dX10_nap_48 rfl (lv_at hl 0 rfl) ?_
        obtain ⟨fs13, y14, hfs13, hvfs13, h⟩ := h
        refine x_get G S.1 hfs13 hvfs13 fl_X10_31 dX10_nap_49 ?_
        refine lv_iload_n hx hb dX10_nap_52 rfl (lv_at hl 1 rfl) ?_
        refine lv_iconst (v := (1 : Int32)) hx hb dX10_nap_53 (by decide) ?_
        refine lv_isub hx hb dX10_nap_54 ?_
        obtain ⟨n15, f16, hf16, hif16, h⟩ := h
        refine x_iald G S.1 hf16 hif16 dX10_nap_55 ?_
        refine lv_goto (tgt := 67) hx hb dX10_nap_56 (by decide) ?_
        exact J_67 _ _ _ _ h S ls (lv_sub hl [0, 1, 2, 3] rfl)
    · have h := h.2 c7
      refine lv_bipush (v := (-2 : Int32)) hx hb dX10_nap_41 (by decide) ?_
      exact x_iretM G hr hlk S (Nat.le_refl _) (Nat.le_refl _) h dX10_nap_43
  refine lv_iload_n hx hb dX10_nap_0 rfl (lv_at hl 1 rfl) ?_
  refine lv_i2l (v := v1.toInt64) hx hb dX10_nap_1 rfl ?_
  refine lv_lconst (v := (1 : Int64)) hx hb dX10_nap_2 (by decide) ?_
  refine lv_ldc2 hx hb hown (hts _ kc_X10_87) dX10_nap_3 ?_
  refine x_cRSi (As := [.long (v1.toInt64), .long (1 : Int64), .long (3 : Int64)]) (rest := []) G S.1 (c_X10_in l D kA _ _ (v1.toInt64) (1 : Int64) (3 : Int64) h) cd_X10_in ml_X10_66 ⟨(Nat.le_of_ble_eq_true rfl), (Nat.le_of_ble_eq_true rfl)⟩ rfl hl.1 rfl (Nat.le_of_ble_eq_true rfl) dX10_nap_6 ⟨Nat.zero_le _, Nat.zero_le _⟩ (fun r1 h => ?_)
  refine lv_if_eq (tgt := 41) hx hb dX10_nap_9 (by decide) (fun c2 => ?_) (fun c2 => ?_)
  · have h := h.1 c2
    refine lv_bipush (v := (-2 : Int32)) hx hb dX10_nap_41 (by decide) ?_
    exact x_iretM G hr hlk S (Nat.le_refl _) (Nat.le_refl _) h dX10_nap_43
  · have h := h.2 c2
    refine lv_iload_n hx hb dX10_nap_12 rfl (lv_at hl 2 rfl) ?_
    refine x_cRSi (As := [.int v2]) (rest := []) G S.1 (c_X10_isEnd l D kA _ _ v2 h) cd_X10_isEnd ml_X10_80 ⟨(Nat.le_of_ble_eq_true rfl), (Nat.le_of_ble_eq_true rfl)⟩ rfl hl.1 rfl (Nat.le_of_ble_eq_true rfl) dX10_nap_13 ⟨Nat.zero_le _, Nat.zero_le _⟩ (fun r3 h => ?_)
    refine lv_if_eq (tgt := 41) hx hb dX10_nap_16 (by decide) (fun c4 => ?_) (fun c4 => ?_)
    · have h := h.1 c4
      refine lv_bipush (v := (-2 : Int32)) hx hb dX10_nap_41 (by decide) ?_
      exact x_iretM G hr hlk S (Nat.le_refl _) (Nat.le_refl _) h dX10_nap_43
    · have h := h.2 c4
      refine lv_iload_n hx hb dX10_nap_19 rfl (lv_at hl 3 rfl) ?_
      refine lv_i2l (v := v3.toInt64) hx hb dX10_nap_20 rfl ?_
      refine lv_lconst (v := (0 : Int64)) hx hb dX10_nap_21 (by decide) ?_
      refine lv_iload_n hx hb dX10_nap_22 rfl (lv_at hl 2 rfl) ?_
      refine lv_if_ne (tgt := 32) hx hb dX10_nap_23 (by decide) (fun c5 => ?_) (fun c5 => ?_)
      · have h := h.1 c5
        refine lv_ldc2 hx hb hown (hts _ kc_X10_91) dX10_nap_32 ?_
        exact J_35 _ _ _ _ _ _ h S ls (lv_sub hl [0, 1, 2, 3] rfl)
      · have h := h.2 c5
        refine lv_ldc2 hx hb hown (hts _ kc_X10_89) dX10_nap_26 ?_
        refine lv_goto (tgt := 35) hx hb dX10_nap_29 (by decide) ?_
        exact J_35 _ _ _ _ _ _ h S ls (lv_sub hl [0, 1, 2, 3] rfl)
def wp_X10_isSquall (post : Int32 → Prop) (X : Hp) (v0 : Nat) (v1 : Int32) (v2 : Int32) : Prop := ∃ (fs1 : List Value) (y2 : Nat), Hs X v0 (.inr (10, fs1)) ∧ fs1[6]? = some (.ref y2) ∧ ∃ (n3 : Nat) (f4 : Nat → Int32), Hs X y2 (.inl (0, n3, .inl f4)) ∧ vp_in (((48 : Int32) * v1) + v2) n3 ∧ (¬ (f4 (((48 : Int32) * v1) + v2).toNatClampNeg) = (1 : Int32) → post (0 : Int32)) ∧ ((f4 (((48 : Int32) * v1) + v2).toNatClampNeg) = (1 : Int32) → post (1 : Int32))
set_option maxHeartbeats 4000000 in
set_option maxRecDepth 100000 in
theorem c_X10_isSquall (l : Launch) (D : va_G) (kA : Nat → ClassId) (post : Int32 → Prop) (X : Hp) (v0 : Nat) (v1 : Int32) (v2 : Int32) (h : wp_X10_isSquall post X v0 v1 v2) : Met l yX10_isSquall (.code yX10_isSquall cX10_isSquall 3 (some .boolean) :: gd) (rmO 0 0 0 0) (va_Pc [Value.ref v0, Value.int v1, Value.int v2] (Pre D kA X)) (vp_Si post) 0 0 (fun _ => False) := by
  unfold wp_X10_isSquall at h
  refine x_enR (by decide) (Nat.le_of_ble_eq_true rfl) ?_
  intro p e s m below meth c G hr hlk hP ls hl
  obtain ⟨hx, hb, hml, hown, hts, hE, hK⟩ := id G
  have hl : lv_has ls 3 [(0, .ref v0), (1, .int v1), (2, .int v2)] := hl
  refine lv_aload_n hx hb dX10_isSquall_0 rfl (lv_at hl 0 rfl) ?_
  obtain ⟨fs1, y2, hfs1, hvfs1, h⟩ := h
  refine x_get G hP hfs1 hvfs1 fl_X10_28 dX10_isSquall_1 ?_
  refine lv_bipush (v := (48 : Int32)) hx hb dX10_isSquall_4 (by decide) ?_
  refine lv_iload_n hx hb dX10_isSquall_6 rfl (lv_at hl 1 rfl) ?_
  refine lv_imul hx hb dX10_isSquall_7 ?_
  refine lv_iload_n hx hb dX10_isSquall_8 rfl (lv_at hl 2 rfl) ?_
  refine lv_iadd hx hb dX10_isSquall_9 ?_
  obtain ⟨n3, f4, hf4, hif4, h⟩ := h
  refine x_iald G hP hf4 hif4 dX10_isSquall_10 ?_
  refine lv_iconst (v := (1 : Int32)) hx hb dX10_isSquall_11 (by decide) ?_
  refine lv_icmp_ne (tgt := 19) hx hb dX10_isSquall_12 (by decide) (fun c5 => ?_) (fun c5 => ?_)
  · have h := h.1 c5
    refine lv_iconst (v := (0 : Int32)) hx hb dX10_isSquall_19 (by decide) ?_
    exact x_zretR G hr hlk (Or.inl rfl) h dX10_isSquall_20
  · have h := h.2 c5
    refine lv_iconst (v := (1 : Int32)) hx hb dX10_isSquall_15 (by decide) ?_
    refine lv_goto (tgt := 20) hx hb dX10_isSquall_16 (by decide) ?_
    exact x_zretR G hr hlk (Or.inr rfl) h dX10_isSquall_20
def bk_X10_canBe_25 (post : Int32 → Prop) (X : Hp) (v0 : Nat) (v1 : Int32) (v2 : Int32) (v3 : Int32)   : Prop := (¬ v3 = (3 : Int32) → post (1 : Int32)) ∧ (v3 = (3 : Int32) → ∃ (fs11 : List Value) (y12 : Nat), Hs X v0 (.inr (10, fs11)) ∧ fs11[4]? = some (.ref y12) ∧ ∃ (n13 : Nat) (f14 : Nat → Int32), Hs X y12 (.inl (0, n13, .inl f14)) ∧ vp_in v1 n13 ∧ ((f14 v1.toNatClampNeg) ≤ (v2 + (1 : Int32)) → post (0 : Int32)) ∧ (¬ (f14 v1.toNatClampNeg) ≤ (v2 + (1 : Int32)) → ∃ fs18 : List Value, Hs X v0 (.inr (10, fs18)) ∧ wp_X10_isSquall (fun r16 => (¬ r16 = 0 → post (0 : Int32)) ∧ (r16 = 0 → post (1 : Int32)))  X v0 v1 (v2 + (1 : Int32))))
def wp_X10_canBe (post : Int32 → Prop) (X : Hp) (v0 : Nat) (v1 : Int32) (v2 : Int32) (v3 : Int32) : Prop := ∃ (fs1 : List Value) (y2 : Nat), Hs X v0 (.inr (10, fs1)) ∧ fs1[4]? = some (.ref y2) ∧ ∃ (n3 : Nat) (f4 : Nat → Int32), Hs X y2 (.inl (0, n3, .inl f4)) ∧ vp_in v1 n3 ∧ ((f4 v1.toNatClampNeg) ≤ v2 → post (0 : Int32)) ∧ (¬ (f4 v1.toNatClampNeg) ≤ v2 → ∃ fs9 : List Value, Hs X v0 (.inr (10, fs9)) ∧ wp_X10_isSquall (fun r6 => (r6 = 0 → bk_X10_canBe_25 post X v0 v1 v2 v3 ) ∧ (¬ r6 = 0 → (v3 = 0 → bk_X10_canBe_25 post X v0 v1 v2 v3 ) ∧ (¬ v3 = 0 → post (0 : Int32))))  X v0 v1 v2)
set_option maxHeartbeats 4000000 in
set_option maxRecDepth 100000 in
theorem c_X10_canBe (l : Launch) (D : va_G) (kA : Nat → ClassId) (post : Int32 → Prop) (X : Hp) (v0 : Nat) (v1 : Int32) (v2 : Int32) (v3 : Int32) (h : wp_X10_canBe post X v0 v1 v2 v3) : Met l yX10_canBe (.code yX10_canBe cX10_canBe 4 (some .boolean) :: gd) (rmO 1 0 0 22) (va_Pc [Value.ref v0, Value.int v1, Value.int v2, Value.int v3] (Pre D kA X)) (vp_Si post) 0 0 (fun _ => False) := by
  unfold wp_X10_canBe at h
  refine x_enR (by decide) (Nat.le_of_ble_eq_true rfl) ?_
  intro p e s m below meth c G hr hlk hP ls hl
  obtain ⟨hx, hb, hml, hown, hts, hE, hK⟩ := id G
  have hl : lv_has ls 4 [(0, .ref v0), (1, .int v1), (2, .int v2), (3, .int v3)] := hl
  have J_25 : ∀ (_ : Unit), ∀ (_ : bk_X10_canBe_25 post X v0 v1 v2 v3  ), ∀ ls, lv_has ls 4 [(0, .ref v0), (1, .int v1), (2, .int v2), (3, .int v3)] → W p l e (rmO 1 0 0 22) s m [Value.ref v0, Value.int v1, Value.int v2, Value.int v3].toArray below meth c s.heap [] 0 0 (MQ below (vp_Si post) [Value.ref v0, Value.int v1, Value.int v2, Value.int v3].toArray s 0 0 (fun _ => False)) (F0 m 25 ls []) := by
    intro _ h ls hl
    unfold bk_X10_canBe_25 at h
    refine lv_iload_n hx hb dX10_canBe_25 rfl (lv_at hl 3 rfl) ?_
    refine lv_iconst (v := (3 : Int32)) hx hb dX10_canBe_26 (by decide) ?_
    refine lv_icmp_ne (tgt := 53) hx hb dX10_canBe_27 (by decide) (fun c10 => ?_) (fun c10 => ?_)
    · have h := h.1 c10
      refine lv_iconst (v := (1 : Int32)) hx hb dX10_canBe_53 (by decide) ?_
      refine lv_goto (tgt := 58) hx hb dX10_canBe_54 (by decide) ?_
      exact x_zretR G hr hlk (Or.inr rfl) h dX10_canBe_58
    · have h := h.2 c10
      refine lv_iload_n hx hb dX10_canBe_30 rfl (lv_at hl 2 rfl) ?_
      refine lv_iconst (v := (1 : Int32)) hx hb dX10_canBe_31 (by decide) ?_
      refine lv_iadd hx hb dX10_canBe_32 ?_
      refine lv_aload_n hx hb dX10_canBe_33 rfl (lv_at hl 0 rfl) ?_
      obtain ⟨fs11, y12, hfs11, hvfs11, h⟩ := h
      refine x_get G hP hfs11 hvfs11 fl_X10_22 dX10_canBe_34 ?_
      refine lv_iload_n hx hb dX10_canBe_37 rfl (lv_at hl 1 rfl) ?_
      obtain ⟨n13, f14, hf14, hif14, h⟩ := h
      refine x_iald G hP hf14 hif14 dX10_canBe_38 ?_
      refine lv_icmp_ge (tgt := 57) hx hb dX10_canBe_39 (by decide) (fun c15 => ?_) (fun c15 => ?_)
      · have h := h.1 c15
        refine lv_iconst (v := (0 : Int32)) hx hb dX10_canBe_57 (by decide) ?_
        exact x_zretR G hr hlk (Or.inl rfl) h dX10_canBe_58
      · have h := h.2 c15
        refine lv_aload_n hx hb dX10_canBe_42 rfl (lv_at hl 0 rfl) ?_
        refine lv_iload_n hx hb dX10_canBe_43 rfl (lv_at hl 1 rfl) ?_
        refine lv_iload_n hx hb dX10_canBe_44 rfl (lv_at hl 2 rfl) ?_
        refine lv_iconst (v := (1 : Int32)) hx hb dX10_canBe_45 (by decide) ?_
        refine lv_iadd hx hb dX10_canBe_46 ?_
        obtain ⟨fs18, hfs18, h⟩ := h
        refine x_cRVi (As := [.int v1, .int (v2 + (1 : Int32))]) (rest := []) G hP hfs18 rfl rfl (c_X10_isSquall l D kA _ _ v0 v1 (v2 + (1 : Int32)) h) cd_X10_isSquall ml_X10_93 ⟨(Nat.le_of_ble_eq_true rfl), (Nat.le_of_ble_eq_true rfl)⟩ rfl hl.1 rfl (Nat.le_of_ble_eq_true rfl) dX10_canBe_47 ⟨Nat.zero_le _, Nat.zero_le _⟩ (fun r16 h => ?_)
        refine lv_if_ne (tgt := 57) hx hb dX10_canBe_50 (by decide) (fun c17 => ?_) (fun c17 => ?_)
        · have h := h.1 c17
          refine lv_iconst (v := (0 : Int32)) hx hb dX10_canBe_57 (by decide) ?_
          exact x_zretR G hr hlk (Or.inl rfl) h dX10_canBe_58
        · have h := h.2 c17
          refine lv_iconst (v := (1 : Int32)) hx hb dX10_canBe_53 (by decide) ?_
          refine lv_goto (tgt := 58) hx hb dX10_canBe_54 (by decide) ?_
          exact x_zretR G hr hlk (Or.inr rfl) h dX10_canBe_58
  refine lv_iload_n hx hb dX10_canBe_0 rfl (lv_at hl 2 rfl) ?_
  refine lv_aload_n hx hb dX10_canBe_1 rfl (lv_at hl 0 rfl) ?_
  obtain ⟨fs1, y2, hfs1, hvfs1, h⟩ := h
  refine x_get G hP hfs1 hvfs1 fl_X10_22 dX10_canBe_2 ?_
  refine lv_iload_n hx hb dX10_canBe_5 rfl (lv_at hl 1 rfl) ?_
  obtain ⟨n3, f4, hf4, hif4, h⟩ := h
  refine x_iald G hP hf4 hif4 dX10_canBe_6 ?_
  refine lv_icmp_ge (tgt := 23) hx hb dX10_canBe_7 (by decide) (fun c5 => ?_) (fun c5 => ?_)
  · have h := h.1 c5
    refine lv_iconst (v := (0 : Int32)) hx hb dX10_canBe_23 (by decide) ?_
    exact x_zretR G hr hlk (Or.inl rfl) h dX10_canBe_24
  · have h := h.2 c5
    refine lv_aload_n hx hb dX10_canBe_10 rfl (lv_at hl 0 rfl) ?_
    refine lv_iload_n hx hb dX10_canBe_11 rfl (lv_at hl 1 rfl) ?_
    refine lv_iload_n hx hb dX10_canBe_12 rfl (lv_at hl 2 rfl) ?_
    obtain ⟨fs9, hfs9, h⟩ := h
    refine x_cRVi (As := [.int v1, .int v2]) (rest := []) G hP hfs9 rfl rfl (c_X10_isSquall l D kA _ _ v0 v1 v2 h) cd_X10_isSquall ml_X10_93 ⟨(Nat.le_of_ble_eq_true rfl), (Nat.le_of_ble_eq_true rfl)⟩ rfl hl.1 rfl (Nat.le_of_ble_eq_true rfl) dX10_canBe_13 ⟨Nat.zero_le _, Nat.zero_le _⟩ (fun r6 h => ?_)
    refine lv_if_eq (tgt := 25) hx hb dX10_canBe_16 (by decide) (fun c7 => ?_) (fun c7 => ?_)
    · have h := h.1 c7
      exact J_25 () h ls (lv_sub hl [0, 1, 2, 3] rfl)
    · have h := h.2 c7
      refine lv_iload_n hx hb dX10_canBe_19 rfl (lv_at hl 3 rfl) ?_
      refine lv_if_eq (tgt := 25) hx hb dX10_canBe_20 (by decide) (fun c8 => ?_) (fun c8 => ?_)
      · have h := h.1 c8
        exact J_25 () h ls (lv_sub hl [0, 1, 2, 3] rfl)
      · have h := h.2 c8
        refine lv_iconst (v := (0 : Int32)) hx hb dX10_canBe_23 (by decide) ?_
        exact x_zretR G hr hlk (Or.inl rfl) h dX10_canBe_24
def wp_X10_isNight (post : Int32 → Prop) (X : Hp) (v0 : Int32) : Prop := ((v0 - v0 / (24 : Int32) * (24 : Int32)) < (12 : Int32) → post (0 : Int32)) ∧ (¬ (v0 - v0 / (24 : Int32) * (24 : Int32)) < (12 : Int32) → post (1 : Int32))
set_option maxHeartbeats 4000000 in
set_option maxRecDepth 100000 in
theorem c_X10_isNight (l : Launch) (D : va_G) (kA : Nat → ClassId) (post : Int32 → Prop) (X : Hp) (v0 : Int32) (h : wp_X10_isNight post X v0) : Met l yX10_isNight (.code yX10_isNight cX10_isNight 1 (some .boolean) :: gd) (rmO 0 0 0 0) (va_Pc [Value.int v0] (Pre D kA X)) (vp_Si post) 0 0 (fun _ => False) := by
  unfold wp_X10_isNight at h
  refine x_enR (by decide) (Nat.le_of_ble_eq_true rfl) ?_
  intro p e s m below meth c G hr hlk hP ls hl
  obtain ⟨hx, hb, hml, hown, hts, hE, hK⟩ := id G
  have hl : lv_has ls 1 [(0, .int v0)] := hl
  refine lv_iload_n hx hb dX10_isNight_0 rfl (lv_at hl 0 rfl) ?_
  refine lv_bipush (v := (24 : Int32)) hx hb dX10_isNight_1 (by decide) ?_
  refine lv_irem hx hb dX10_isNight_3 (by decide) ?_
  refine lv_bipush (v := (12 : Int32)) hx hb dX10_isNight_4 (by decide) ?_
  refine lv_icmp_lt (tgt := 13) hx hb dX10_isNight_6 (by decide) (fun c1 => ?_) (fun c1 => ?_)
  · have h := h.1 c1
    refine lv_iconst (v := (0 : Int32)) hx hb dX10_isNight_13 (by decide) ?_
    exact x_zretR G hr hlk (Or.inl rfl) h dX10_isNight_14
  · have h := h.2 c1
    refine lv_iconst (v := (1 : Int32)) hx hb dX10_isNight_9 (by decide) ?_
    refine lv_goto (tgt := 14) hx hb dX10_isNight_10 (by decide) ?_
    exact x_zretR G hr hlk (Or.inr rfl) h dX10_isNight_14
def bk_X10_owedBehind_69 (post : Int32 → Prop) (X : Hp) (v0 : Nat) (v1 : Int32) (v2 : Int32) (v3 : Int32) (v4 : Int32)  (b69_5 : Int32) : Prop := (0 ≤ b69_5 → (b69_5 ≤ (20 : Int32) → post b69_5) ∧ (¬ b69_5 ≤ (20 : Int32) → post (20 : Int32))) ∧ (¬ 0 ≤ b69_5 → post (0 : Int32))
def bk_X10_owedBehind_65 (post : Int32 → Prop) (X : Hp) (v0 : Nat) (v1 : Int32) (v2 : Int32) (v3 : Int32) (v4 : Int32)  (b65_s0 : Int32) (b65_s1 : Int32) (b65_s2 : Int32) : Prop := ∀ x16 : Int32, x16 = (b65_s2 - (b65_s1 + b65_s0)) → bk_X10_owedBehind_69 post X v0 v1 v2 v3 v4 x16
def bk_X10_owedBehind_24 (post : Int32 → Prop) (X : Hp) (v0 : Nat) (v1 : Int32) (v2 : Int32) (v3 : Int32) (v4 : Int32)  (b24_s0 : Int32) (b24_s1 : Int32) : Prop := ∀ x13 : Int32, x13 = (b24_s1 + b24_s0) → bk_X10_owedBehind_69 post X v0 v1 v2 v3 v4 x13
def wp_X10_owedBehind (post : Int32 → Prop) (X : Hp) (v0 : Nat) (v1 : Int32) (v2 : Int32) (v3 : Int32) (v4 : Int32) : Prop := (¬ v4 = 0 → (¬ v4 = (4 : Int32) → ∃ (fs3 : List Value) (y4 : Nat), Hs X v0 (.inr (10, fs3)) ∧ fs3[7]? = some (.ref y4) ∧ ∃ (n5 : Nat) (f6 : Nat → Int32), Hs X y4 (.inl (0, n5, .inl f6)) ∧ vp_in (v4 - (1 : Int32)) n5 ∧ wp_X10_isNight (fun r7 => (r7 = 0 → bk_X10_owedBehind_65 post X v0 v1 v2 v3 v4 (0 : Int32) ((f6 (v4 - (1 : Int32)).toNatClampNeg)) v3) ∧ (¬ r7 = 0 → bk_X10_owedBehind_65 post X v0 v1 v2 v3 v4 (1 : Int32) ((f6 (v4 - (1 : Int32)).toNatClampNeg)) v3))  X v2) ∧ (v4 = (4 : Int32) → ∀ x9 : Int32, x9 = v3 + (-1 : Int32) → bk_X10_owedBehind_69 post X v0 v1 v2 v3 v4 x9)) ∧ (v4 = 0 → ∃ fs12 : List Value, Hs X v0 (.inr (10, fs12)) ∧ wp_X10_isSquall (fun r10 => (r10 = 0 → bk_X10_owedBehind_24 post X v0 v1 v2 v3 v4 (1 : Int32) v3) ∧ (¬ r10 = 0 → bk_X10_owedBehind_24 post X v0 v1 v2 v3 v4 (2 : Int32) v3))  X v0 v1 v2)
set_option maxHeartbeats 4000000 in
set_option maxRecDepth 100000 in
theorem c_X10_owedBehind (l : Launch) (D : va_G) (kA : Nat → ClassId) (post : Int32 → Prop) (X : Hp) (v0 : Nat) (v1 : Int32) (v2 : Int32) (v3 : Int32) (v4 : Int32) (h : wp_X10_owedBehind post X v0 v1 v2 v3 v4) : Met l yX10_owedBehind (.code yX10_owedBehind cX10_owedBehind 6 (some .int) :: gd) (rmO 1 0 0 22) (va_Pc [Value.ref v0, Value.int v1, Value.int v2, Value.int v3, Value.int v4] (Pre D kA X)) (vp_Si post) 0 0 (fun _ => False) := by
  unfold wp_X10_owedBehind at h
  refine x_enR (by decide) (Nat.le_of_ble_eq_true rfl) ?_
  intro p e s m below meth c G hr hlk hP ls hl
  obtain ⟨hx, hb, hml, hown, hts, hE, hK⟩ := id G
  have hl : lv_has ls 6 [(0, .ref v0), (1, .int v1), (2, .int v2), (3, .int v3), (4, .int v4)] := hl
  have J_69 : ∀ (b69_5 : Int32), ∀ (_ : bk_X10_owedBehind_69 post X v0 v1 v2 v3 v4  b69_5), ∀ ls, lv_has ls 6 [(5, .int b69_5)] → W p l e (rmO 1 0 0 22) s m [Value.ref v0, Value.int v1, Value.int v2, Value.int v3, Value.int v4].toArray below meth c s.heap [] 0 0 (MQ below (vp_Si post) [Value.ref v0, Value.int v1, Value.int v2, Value.int v3, Value.int v4].toArray s 0 0 (fun _ => False)) (F0 m 69 ls []) := by
    intro b69_5 h ls hl
    unfold bk_X10_owedBehind_69 at h
    refine lv_iload hx hb dX10_owedBehind_69 (lv_at hl 0 rfl) ?_
    refine lv_if_ge (tgt := 78) hx hb dX10_owedBehind_71 (by decide) (fun c14 => ?_) (fun c14 => ?_)
    · have h := h.1 c14
      refine lv_iload hx hb dX10_owedBehind_78 (lv_at hl 0 rfl) ?_
      refine lv_bipush (v := (20 : Int32)) hx hb dX10_owedBehind_80 (by decide) ?_
      refine lv_icmp_le (tgt := 90) hx hb dX10_owedBehind_82 (by decide) (fun c15 => ?_) (fun c15 => ?_)
      · have h := h.1 c15
        refine lv_iload hx hb dX10_owedBehind_90 (lv_at hl 0 rfl) ?_
        exact x_iretR G hr hlk h dX10_owedBehind_92
      · have h := h.2 c15
        refine lv_bipush (v := (20 : Int32)) hx hb dX10_owedBehind_85 (by decide) ?_
        refine lv_goto (tgt := 92) hx hb dX10_owedBehind_87 (by decide) ?_
        exact x_iretR G hr hlk h dX10_owedBehind_92
    · have h := h.2 c14
      refine lv_iconst (v := (0 : Int32)) hx hb dX10_owedBehind_74 (by decide) ?_
      refine lv_goto (tgt := 92) hx hb dX10_owedBehind_75 (by decide) ?_
      exact x_iretR G hr hlk h dX10_owedBehind_92
  have J_65 : ∀ (b65_s0 : Int32) (b65_s1 : Int32) (b65_s2 : Int32), ∀ (_ : bk_X10_owedBehind_65 post X v0 v1 v2 v3 v4  b65_s0 b65_s1 b65_s2), ∀ ls, lv_has ls 6 [] → W p l e (rmO 1 0 0 22) s m [Value.ref v0, Value.int v1, Value.int v2, Value.int v3, Value.int v4].toArray below meth c s.heap [] 0 0 (MQ below (vp_Si post) [Value.ref v0, Value.int v1, Value.int v2, Value.int v3, Value.int v4].toArray s 0 0 (fun _ => False)) (F0 m 65 ls [.int b65_s0, .int b65_s1, .int b65_s2]) := by
    intro b65_s0 b65_s1 b65_s2 h ls hl
    unfold bk_X10_owedBehind_65 at h
    refine lv_iadd hx hb dX10_owedBehind_65 ?_
    refine lv_isub hx hb dX10_owedBehind_66 ?_
    refine lv_topi (fun x16 ex16 => ?_)
    have h := h x16 ex16
    refine lv_istore (lv' := [(5, .int x16)]) hx hb dX10_owedBehind_67 hl (by decide) rfl (fun ls hl => ?_)
    exact J_69 _ h ls (lv_sub hl [0] rfl)
  have J_24 : ∀ (b24_s0 : Int32) (b24_s1 : Int32), ∀ (_ : bk_X10_owedBehind_24 post X v0 v1 v2 v3 v4  b24_s0 b24_s1), ∀ ls, lv_has ls 6 [] → W p l e (rmO 1 0 0 22) s m [Value.ref v0, Value.int v1, Value.int v2, Value.int v3, Value.int v4].toArray below meth c s.heap [] 0 0 (MQ below (vp_Si post) [Value.ref v0, Value.int v1, Value.int v2, Value.int v3, Value.int v4].toArray s 0 0 (fun _ => False)) (F0 m 24 ls [.int b24_s0, .int b24_s1]) := by
    intro b24_s0 b24_s1 h ls hl
    unfold bk_X10_owedBehind_24 at h
    refine lv_iadd hx hb dX10_owedBehind_24 ?_
    refine lv_topi (fun x13 ex13 => ?_)
    have h := h x13 ex13
    refine lv_istore (lv' := [(5, .int x13)]) hx hb dX10_owedBehind_25 hl (by decide) rfl (fun ls hl => ?_)
    refine lv_goto (tgt := 69) hx hb dX10_owedBehind_27 (by decide) ?_
    exact J_69 _ h ls (lv_sub hl [0] rfl)
  refine lv_iload_n hx hb dX10_owedBehind_0 rfl (lv_at hl 3 rfl) ?_
  refine lv_istore (lv' := [(5, .int v3), (0, .ref v0), (1, .int v1), (2, .int v2), (3, .int v3), (4, .int v4)]) hx hb dX10_owedBehind_1 hl (by decide) rfl (fun ls hl => ?_)
  refine lv_iload hx hb dX10_owedBehind_3 (lv_at hl 5 rfl) ?_
  refine lv_if_ne (tgt := 30) hx hb dX10_owedBehind_5 (by decide) (fun c1 => ?_) (fun c1 => ?_)
  · have h := h.1 c1
    refine lv_iload hx hb dX10_owedBehind_30 (lv_at hl 5 rfl) ?_
    refine lv_iconst (v := (4 : Int32)) hx hb dX10_owedBehind_32 (by decide) ?_
    refine lv_icmp_ne (tgt := 42) hx hb dX10_owedBehind_33 (by decide) (fun c2 => ?_) (fun c2 => ?_)
    · have h := h.1 c2
      refine lv_iload hx hb dX10_owedBehind_42 (lv_at hl 0 rfl) ?_
      refine lv_aload_n hx hb dX10_owedBehind_44 rfl (lv_at hl 1 rfl) ?_
      obtain ⟨fs3, y4, hfs3, hvfs3, h⟩ := h
      refine x_get G hP hfs3 hvfs3 fl_X10_31 dX10_owedBehind_45 ?_
      refine lv_iload hx hb dX10_owedBehind_48 (lv_at hl 5 rfl) ?_
      refine lv_iconst (v := (1 : Int32)) hx hb dX10_owedBehind_50 (by decide) ?_
      refine lv_isub hx hb dX10_owedBehind_51 ?_
      obtain ⟨n5, f6, hf6, hif6, h⟩ := h
      refine x_iald G hP hf6 hif6 dX10_owedBehind_52 ?_
      refine lv_iload_n hx hb dX10_owedBehind_53 rfl (lv_at hl 3 rfl) ?_
      refine x_cRSi (As := [.int v2]) (rest := [.int (f6 (v4 - (1 : Int32)).toNatClampNeg), .int v3]) G hP (c_X10_isNight l D kA _ _ v2 h) cd_X10_isNight ml_X10_97 ⟨(Nat.le_of_ble_eq_true rfl), (Nat.le_of_ble_eq_true rfl)⟩ rfl hl.1 rfl (Nat.le_of_ble_eq_true rfl) dX10_owedBehind_54 ⟨Nat.zero_le _, Nat.zero_le _⟩ (fun r7 h => ?_)
      refine lv_if_eq (tgt := 64) hx hb dX10_owedBehind_57 (by decide) (fun c8 => ?_) (fun c8 => ?_)
      · have h := h.1 c8
        refine lv_iconst (v := (0 : Int32)) hx hb dX10_owedBehind_64 (by decide) ?_
        exact J_65 _ _ _ h ls (lv_sub hl [] rfl)
      · have h := h.2 c8
        refine lv_iconst (v := (1 : Int32)) hx hb dX10_owedBehind_60 (by decide) ?_
        refine lv_goto (tgt := 65) hx hb dX10_owedBehind_61 (by decide) ?_
        exact J_65 _ _ _ h ls (lv_sub hl [] rfl)
    · have h := h.2 c2
      obtain ⟨x9, ex9⟩ : ∃ y : Int32, y = v3 + (-1 : Int32) := ⟨_, rfl⟩
      have h := h x9 ex9
      refine lv_iinc (v := x9) (lv' := [(5, .int x9), (0, .ref v0), (1, .int v1), (2, .int v2), (3, .int v3), (4, .int v4)]) hx hb dX10_owedBehind_36 hl (k := 0) rfl (by rw [ex9]; rfl) (by decide) rfl (fun ls hl => ?_)
      refine lv_goto (tgt := 69) hx hb dX10_owedBehind_39 (by decide) ?_
      exact J_69 _ h ls (lv_sub hl [0] rfl)
  · have h := h.2 c1
    refine lv_iload hx hb dX10_owedBehind_8 (lv_at hl 0 rfl) ?_
    refine lv_aload_n hx hb dX10_owedBehind_10 rfl (lv_at hl 1 rfl) ?_
    refine lv_iload_n hx hb dX10_owedBehind_11 rfl (lv_at hl 2 rfl) ?_
    refine lv_iload_n hx hb dX10_owedBehind_12 rfl (lv_at hl 3 rfl) ?_
    obtain ⟨fs12, hfs12, h⟩ := h
    refine x_cRVi (As := [.int v1, .int v2]) (rest := [.int v3]) G hP hfs12 rfl rfl (c_X10_isSquall l D kA _ _ v0 v1 v2 h) cd_X10_isSquall ml_X10_93 ⟨(Nat.le_of_ble_eq_true rfl), (Nat.le_of_ble_eq_true rfl)⟩ rfl hl.1 rfl (Nat.le_of_ble_eq_true rfl) dX10_owedBehind_13 ⟨Nat.zero_le _, Nat.zero_le _⟩ (fun r10 h => ?_)
    refine lv_if_eq (tgt := 23) hx hb dX10_owedBehind_16 (by decide) (fun c11 => ?_) (fun c11 => ?_)
    · have h := h.1 c11
      refine lv_iconst (v := (1 : Int32)) hx hb dX10_owedBehind_23 (by decide) ?_
      exact J_24 _ _ h ls (lv_sub hl [] rfl)
    · have h := h.2 c11
      refine lv_iconst (v := (2 : Int32)) hx hb dX10_owedBehind_19 (by decide) ?_
      refine lv_goto (tgt := 24) hx hb dX10_owedBehind_20 (by decide) ?_
      exact J_24 _ _ h ls (lv_sub hl [] rfl)
def bk_X10_blindOf_111 (post : Int32 → Prop) (X : Hp) (v0 : Nat) (v1 : Int32) (v2 : Int32) (v3 : Int32)  (b111_s0 : Int32) (b111_s1 : Int32) (b111_s2 : Int32) : Prop := post ((b111_s2 * (b111_s1 - b111_s0)) / (1000 : Int32))
def bk_X10_blindOf_74 (post : Int32 → Prop) (X : Hp) (v0 : Nat) (v1 : Int32) (v2 : Int32) (v3 : Int32)  (b74_s0 : Int32) : Prop := ∀ x9 : Int32, x9 = ((600 : Int32) - ((40 : Int32) * v1)) → (¬ v3 = 0 → (0 ≤ x9 → bk_X10_blindOf_111 post X v0 v1 v2 v3 x9 (1000 : Int32) b74_s0) ∧ (¬ 0 ≤ x9 → bk_X10_blindOf_111 post X v0 v1 v2 v3 (0 : Int32) (1000 : Int32) b74_s0)) ∧ (v3 = 0 → post b74_s0)
def bk_X10_blindOf_56 (post : Int32 → Prop) (X : Hp) (v0 : Nat) (v1 : Int32) (v2 : Int32) (v3 : Int32)  (b56_s0 : Int32) : Prop := (b56_s0 ≤ (1000 : Int32) → bk_X10_blindOf_74 post X v0 v1 v2 v3 b56_s0) ∧ (¬ b56_s0 ≤ (1000 : Int32) → bk_X10_blindOf_74 post X v0 v1 v2 v3 (1000 : Int32))
def bk_X10_blindOf_14 (post : Int32 → Prop) (X : Hp) (v0 : Nat) (v1 : Int32) (v2 : Int32) (v3 : Int32)  (b14_s0 : Int32) : Prop := (¬ v2 = 0 → (¬ v2 = (4 : Int32) → ∃ (fs4 : List Value) (y5 : Nat), Hs X v0 (.inr (10, fs4)) ∧ fs4[8]? = some (.ref y5) ∧ ∃ (n6 : Nat) (f7 : Nat → Int32), Hs X y5 (.inl (0, n6, .inl f7)) ∧ vp_in (v2 - (1 : Int32)) n6 ∧ bk_X10_blindOf_56 post X v0 v1 v2 v3 (((f7 (v2 - (1 : Int32)).toNatClampNeg) + ((20 : Int32) * b14_s0)))) ∧ (v2 = (4 : Int32) → bk_X10_blindOf_56 post X v0 v1 v2 v3 (300 : Int32))) ∧ (v2 = 0 → bk_X10_blindOf_56 post X v0 v1 v2 v3 (((20 : Int32) + ((10 : Int32) * b14_s0))))
def wp_X10_blindOf (post : Int32 → Prop) (X : Hp) (v0 : Nat) (v1 : Int32) (v2 : Int32) (v3 : Int32) : Prop := (v1 ≤ (10 : Int32) → bk_X10_blindOf_14 post X v0 v1 v2 v3 (0 : Int32)) ∧ (¬ v1 ≤ (10 : Int32) → bk_X10_blindOf_14 post X v0 v1 v2 v3 ((v1 - (10 : Int32))))
set_option maxHeartbeats 4000000 in
set_option maxRecDepth 100000 in
theorem c_X10_blindOf (l : Launch) (D : va_G) (kA : Nat → ClassId) (post : Int32 → Prop) (X : Hp) (v0 : Nat) (v1 : Int32) (v2 : Int32) (v3 : Int32) (h : wp_X10_blindOf post X v0 v1 v2 v3) : Met l yX10_blindOf (.code yX10_blindOf cX10_blindOf 7 (some .int) :: gd) (rmO 0 0 0 0) (va_Pc [Value.ref v0, Value.int v1, Value.int v2, Value.int v3] (Pre D kA X)) (vp_Si post) 0 0 (fun _ => False) := by
  unfold wp_X10_blindOf at h
  refine x_enR (by decide) (Nat.le_of_ble_eq_true rfl) ?_
  intro p e s m below meth c G hr hlk hP ls hl
  obtain ⟨hx, hb, hml, hown, hts, hE, hK⟩ := id G
  have hl : lv_has ls 7 [(0, .ref v0), (1, .int v1), (2, .int v2), (3, .int v3)] := hl
  have J_111 : ∀ (b111_s0 : Int32) (b111_s1 : Int32) (b111_s2 : Int32), ∀ (_ : bk_X10_blindOf_111 post X v0 v1 v2 v3  b111_s0 b111_s1 b111_s2), ∀ ls, lv_has ls 7 [] → W p l e (rmO 0 0 0 0) s m [Value.ref v0, Value.int v1, Value.int v2, Value.int v3].toArray below meth c s.heap [] 0 0 (MQ below (vp_Si post) [Value.ref v0, Value.int v1, Value.int v2, Value.int v3].toArray s 0 0 (fun _ => False)) (F0 m 111 ls [.int b111_s0, .int b111_s1, .int b111_s2]) := by
    intro b111_s0 b111_s1 b111_s2 h ls hl
    unfold bk_X10_blindOf_111 at h
    refine lv_isub hx hb dX10_blindOf_111 ?_
    refine lv_imul hx hb dX10_blindOf_112 ?_
    refine lv_sipush (v := (1000 : Int32)) hx hb dX10_blindOf_113 (by decide) ?_
    refine lv_idiv hx hb dX10_blindOf_116 (by decide) ?_
    exact x_iretR G hr hlk h dX10_blindOf_117
  have J_74 : ∀ (b74_s0 : Int32), ∀ (_ : bk_X10_blindOf_74 post X v0 v1 v2 v3  b74_s0), ∀ ls, lv_has ls 7 [(1, .int v1), (3, .int v3)] → W p l e (rmO 0 0 0 0) s m [Value.ref v0, Value.int v1, Value.int v2, Value.int v3].toArray below meth c s.heap [] 0 0 (MQ below (vp_Si post) [Value.ref v0, Value.int v1, Value.int v2, Value.int v3].toArray s 0 0 (fun _ => False)) (F0 m 74 ls [.int b74_s0]) := by
    intro b74_s0 h ls hl
    unfold bk_X10_blindOf_74 at h
    refine lv_istore (lv' := [(5, .int b74_s0), (1, .int v1), (3, .int v3)]) hx hb dX10_blindOf_74 hl (by decide) rfl (fun ls hl => ?_)
    refine lv_sipush (v := (600 : Int32)) hx hb dX10_blindOf_76 (by decide) ?_
    refine lv_bipush (v := (40 : Int32)) hx hb dX10_blindOf_79 (by decide) ?_
    refine lv_iload_n hx hb dX10_blindOf_81 rfl (lv_at hl 1 rfl) ?_
    refine lv_imul hx hb dX10_blindOf_82 ?_
    refine lv_isub hx hb dX10_blindOf_83 ?_
    refine lv_topi (fun x9 ex9 => ?_)
    have h := h x9 ex9
    refine lv_istore (lv' := [(6, .int x9), (5, .int b74_s0), (1, .int v1), (3, .int v3)]) hx hb dX10_blindOf_84 hl (by decide) rfl (fun ls hl => ?_)
    refine lv_iload_n hx hb dX10_blindOf_86 rfl (lv_at hl 3 rfl) ?_
    refine lv_if_ne (tgt := 95) hx hb dX10_blindOf_87 (by decide) (fun c10 => ?_) (fun c10 => ?_)
    · have h := h.1 c10
      refine lv_iload hx hb dX10_blindOf_95 (lv_at hl 1 rfl) ?_
      refine lv_sipush (v := (1000 : Int32)) hx hb dX10_blindOf_97 (by decide) ?_
      refine lv_iload hx hb dX10_blindOf_100 (lv_at hl 0 rfl) ?_
      refine lv_if_ge (tgt := 109) hx hb dX10_blindOf_102 (by decide) (fun c11 => ?_) (fun c11 => ?_)
      · have h := h.1 c11
        refine lv_iload hx hb dX10_blindOf_109 (lv_at hl 0 rfl) ?_
        exact J_111 _ _ _ h ls (lv_sub hl [] rfl)
      · have h := h.2 c11
        refine lv_iconst (v := (0 : Int32)) hx hb dX10_blindOf_105 (by decide) ?_
        refine lv_goto (tgt := 111) hx hb dX10_blindOf_106 (by decide) ?_
        exact J_111 _ _ _ h ls (lv_sub hl [] rfl)
    · have h := h.2 c10
      refine lv_iload hx hb dX10_blindOf_90 (lv_at hl 1 rfl) ?_
      refine lv_goto (tgt := 117) hx hb dX10_blindOf_92 (by decide) ?_
      exact x_iretR G hr hlk h dX10_blindOf_117
  have J_56 : ∀ (b56_s0 : Int32), ∀ (_ : bk_X10_blindOf_56 post X v0 v1 v2 v3  b56_s0), ∀ ls, lv_has ls 7 [(1, .int v1), (3, .int v3)] → W p l e (rmO 0 0 0 0) s m [Value.ref v0, Value.int v1, Value.int v2, Value.int v3].toArray below meth c s.heap [] 0 0 (MQ below (vp_Si post) [Value.ref v0, Value.int v1, Value.int v2, Value.int v3].toArray s 0 0 (fun _ => False)) (F0 m 56 ls [.int b56_s0]) := by
    intro b56_s0 h ls hl
    unfold bk_X10_blindOf_56 at h
    refine lv_istore (lv' := [(5, .int b56_s0), (1, .int v1), (3, .int v3)]) hx hb dX10_blindOf_56 hl (by decide) rfl (fun ls hl => ?_)
    refine lv_iload hx hb dX10_blindOf_58 (lv_at hl 0 rfl) ?_
    refine lv_sipush (v := (1000 : Int32)) hx hb dX10_blindOf_60 (by decide) ?_
    refine lv_icmp_le (tgt := 72) hx hb dX10_blindOf_63 (by decide) (fun c8 => ?_) (fun c8 => ?_)
    · have h := h.1 c8
      refine lv_iload hx hb dX10_blindOf_72 (lv_at hl 0 rfl) ?_
      exact J_74 _ h ls (lv_sub hl [1, 2] rfl)
    · have h := h.2 c8
      refine lv_sipush (v := (1000 : Int32)) hx hb dX10_blindOf_66 (by decide) ?_
      refine lv_goto (tgt := 74) hx hb dX10_blindOf_69 (by decide) ?_
      exact J_74 _ h ls (lv_sub hl [1, 2] rfl)
  have J_14 : ∀ (b14_s0 : Int32), ∀ (_ : bk_X10_blindOf_14 post X v0 v1 v2 v3  b14_s0), ∀ ls, lv_has ls 7 [(0, .ref v0), (1, .int v1), (2, .int v2), (3, .int v3)] → W p l e (rmO 0 0 0 0) s m [Value.ref v0, Value.int v1, Value.int v2, Value.int v3].toArray below meth c s.heap [] 0 0 (MQ below (vp_Si post) [Value.ref v0, Value.int v1, Value.int v2, Value.int v3].toArray s 0 0 (fun _ => False)) (F0 m 14 ls [.int b14_s0]) := by
    intro b14_s0 h ls hl
    unfold bk_X10_blindOf_14 at h
    refine lv_istore (lv' := [(4, .int b14_s0), (0, .ref v0), (1, .int v1), (2, .int v2), (3, .int v3)]) hx hb dX10_blindOf_14 hl (by decide) rfl (fun ls hl => ?_)
    refine lv_iload_n hx hb dX10_blindOf_16 rfl (lv_at hl 3 rfl) ?_
    refine lv_if_ne (tgt := 31) hx hb dX10_blindOf_17 (by decide) (fun c2 => ?_) (fun c2 => ?_)
    · have h := h.1 c2
      refine lv_iload_n hx hb dX10_blindOf_31 rfl (lv_at hl 3 rfl) ?_
      refine lv_iconst (v := (4 : Int32)) hx hb dX10_blindOf_32 (by decide) ?_
      refine lv_icmp_ne (tgt := 42) hx hb dX10_blindOf_33 (by decide) (fun c3 => ?_) (fun c3 => ?_)
      · have h := h.1 c3
        refine lv_aload_n hx hb dX10_blindOf_42 rfl (lv_at hl 1 rfl) ?_
        obtain ⟨fs4, y5, hfs4, hvfs4, h⟩ := h
        refine x_get G hP hfs4 hvfs4 fl_X10_34 dX10_blindOf_43 ?_
        refine lv_iload_n hx hb dX10_blindOf_46 rfl (lv_at hl 3 rfl) ?_
        refine lv_iconst (v := (1 : Int32)) hx hb dX10_blindOf_47 (by decide) ?_
        refine lv_isub hx hb dX10_blindOf_48 ?_
        obtain ⟨n6, f7, hf7, hif7, h⟩ := h
        refine x_iald G hP hf7 hif7 dX10_blindOf_49 ?_
        refine lv_bipush (v := (20 : Int32)) hx hb dX10_blindOf_50 (by decide) ?_
        refine lv_iload hx hb dX10_blindOf_52 (lv_at hl 0 rfl) ?_
        refine lv_imul hx hb dX10_blindOf_54 ?_
        refine lv_iadd hx hb dX10_blindOf_55 ?_
        exact J_56 _ h ls (lv_sub hl [2, 4] rfl)
      · have h := h.2 c3
        refine lv_sipush (v := (300 : Int32)) hx hb dX10_blindOf_36 (by decide) ?_
        refine lv_goto (tgt := 56) hx hb dX10_blindOf_39 (by decide) ?_
        exact J_56 _ h ls (lv_sub hl [2, 4] rfl)
    · have h := h.2 c2
      refine lv_bipush (v := (20 : Int32)) hx hb dX10_blindOf_20 (by decide) ?_
      refine lv_bipush (v := (10 : Int32)) hx hb dX10_blindOf_22 (by decide) ?_
      refine lv_iload hx hb dX10_blindOf_24 (lv_at hl 0 rfl) ?_
      refine lv_imul hx hb dX10_blindOf_26 ?_
      refine lv_iadd hx hb dX10_blindOf_27 ?_
      refine lv_goto (tgt := 56) hx hb dX10_blindOf_28 (by decide) ?_
      exact J_56 _ h ls (lv_sub hl [2, 4] rfl)
  refine lv_iload_n hx hb dX10_blindOf_0 rfl (lv_at hl 1 rfl) ?_
  refine lv_bipush (v := (10 : Int32)) hx hb dX10_blindOf_1 (by decide) ?_
  refine lv_icmp_le (tgt := 13) hx hb dX10_blindOf_3 (by decide) (fun c1 => ?_) (fun c1 => ?_)
  · have h := h.1 c1
    refine lv_iconst (v := (0 : Int32)) hx hb dX10_blindOf_13 (by decide) ?_
    exact J_14 _ h ls (lv_sub hl [0, 1, 2, 3] rfl)
  · have h := h.2 c1
    refine lv_iload_n hx hb dX10_blindOf_6 rfl (lv_at hl 1 rfl) ?_
    refine lv_bipush (v := (10 : Int32)) hx hb dX10_blindOf_7 (by decide) ?_
    refine lv_isub hx hb dX10_blindOf_9 ?_
    refine lv_goto (tgt := 14) hx hb dX10_blindOf_10 (by decide) ?_
    exact J_14 _ h ls (lv_sub hl [0, 1, 2, 3] rfl)
def wp_X10_riskOf (post : Int32 → Prop) (X : Hp) (v0 : Nat) (v1 : Int32) (v2 : Int32) (v3 : Int32) (v4 : Int32) (v5 : Int32) : Prop := ∃ (fs1 : List Value) (y2 : Nat), Hs X v0 (.inr (10, fs1)) ∧ fs1[5]? = some (.ref y2) ∧ ∃ (n3 : Nat) (f4 : Nat → Int32), Hs X y2 (.inl (0, n3, .inl f4)) ∧ vp_in (((48 : Int32) * v1) + v2) n3 ∧ ∃ fs6 : List Value, Hs X v0 (.inr (10, fs6)) ∧ wp_X10_blindOf (fun r5 => post ((f4 (((48 : Int32) * v1) + v2).toNatClampNeg) * r5))  X v0 v3 v4 v5
set_option maxHeartbeats 4000000 in
set_option maxRecDepth 100000 in
theorem c_X10_riskOf (l : Launch) (D : va_G) (kA : Nat → ClassId) (post : Int32 → Prop) (X : Hp) (v0 : Nat) (v1 : Int32) (v2 : Int32) (v3 : Int32) (v4 : Int32) (v5 : Int32) (h : wp_X10_riskOf post X v0 v1 v2 v3 v4 v5) : Met l yX10_riskOf (.code yX10_riskOf cX10_riskOf 6 (some .int) :: gd) (rmO 1 0 0 26) (va_Pc [Value.ref v0, Value.int v1, Value.int v2, Value.int v3, Value.int v4, Value.int v5] (Pre D kA X)) (vp_Si post) 0 0 (fun _ => False) := by
  unfold wp_X10_riskOf at h
  refine x_enR (by decide) (Nat.le_of_ble_eq_true rfl) ?_
  intro p e s m below meth c G hr hlk hP ls hl
  obtain ⟨hx, hb, hml, hown, hts, hE, hK⟩ := id G
  have hl : lv_has ls 6 [(0, .ref v0), (1, .int v1), (2, .int v2), (3, .int v3), (4, .int v4), (5, .int v5)] := hl
  refine lv_aload_n hx hb dX10_riskOf_0 rfl (lv_at hl 0 rfl) ?_
  obtain ⟨fs1, y2, hfs1, hvfs1, h⟩ := h
  refine x_get G hP hfs1 hvfs1 fl_X10_25 dX10_riskOf_1 ?_
  refine lv_bipush (v := (48 : Int32)) hx hb dX10_riskOf_4 (by decide) ?_
  refine lv_iload_n hx hb dX10_riskOf_6 rfl (lv_at hl 1 rfl) ?_
  refine lv_imul hx hb dX10_riskOf_7 ?_
  refine lv_iload_n hx hb dX10_riskOf_8 rfl (lv_at hl 2 rfl) ?_
  refine lv_iadd hx hb dX10_riskOf_9 ?_
  obtain ⟨n3, f4, hf4, hif4, h⟩ := h
  refine x_iald G hP hf4 hif4 dX10_riskOf_10 ?_
  refine lv_aload_n hx hb dX10_riskOf_11 rfl (lv_at hl 0 rfl) ?_
  refine lv_iload_n hx hb dX10_riskOf_12 rfl (lv_at hl 3 rfl) ?_
  refine lv_iload hx hb dX10_riskOf_13 (lv_at hl 4 rfl) ?_
  refine lv_iload hx hb dX10_riskOf_15 (lv_at hl 5 rfl) ?_
  obtain ⟨fs6, hfs6, h⟩ := h
  refine x_cRVi (As := [.int v3, .int v4, .int v5]) (rest := [.int (f4 (((48 : Int32) * v1) + v2).toNatClampNeg)]) G hP hfs6 rfl rfl (c_X10_blindOf l D kA _ _ v0 v3 v4 v5 h) cd_X10_blindOf ml_X10_100 ⟨(Nat.le_of_ble_eq_true rfl), (Nat.le_of_ble_eq_true rfl)⟩ rfl hl.1 rfl (Nat.le_of_ble_eq_true rfl) dX10_riskOf_17 ⟨Nat.zero_le _, Nat.zero_le _⟩ (fun r5 h => ?_)
  refine lv_imul hx hb dX10_riskOf_20 ?_
  exact x_iretR G hr hlk h dX10_riskOf_21
def wp_X10_lessened (post : Int32 → Prop) (X : Hp) (v0 : Int32) (v1 : Int32) : Prop := post ((((v0.toInt64) * (((1000000 : Int32) - v1).toInt64)) / (1000000 : Int64)).toInt32)
set_option maxHeartbeats 4000000 in
set_option maxRecDepth 100000 in
theorem c_X10_lessened (l : Launch) (D : va_G) (kA : Nat → ClassId) (post : Int32 → Prop) (X : Hp) (v0 : Int32) (v1 : Int32) (h : wp_X10_lessened post X v0 v1) : Met l yX10_lessened (.code yX10_lessened cX10_lessened 2 (some .int) :: gd) (rmO 0 0 0 0) (va_Pc [Value.int v0, Value.int v1] (Pre D kA X)) (vp_Si post) 0 0 (fun _ => False) := by
  unfold wp_X10_lessened at h
  refine x_enR (by decide) (Nat.le_of_ble_eq_true rfl) ?_
  intro p e s m below meth c G hr hlk hP ls hl
  obtain ⟨hx, hb, hml, hown, hts, hE, hK⟩ := id G
  have hl : lv_has ls 2 [(0, .int v0), (1, .int v1)] := hl
  refine lv_iload_n hx hb dX10_lessened_0 rfl (lv_at hl 0 rfl) ?_
  refine lv_i2l (v := v0.toInt64) hx hb dX10_lessened_1 rfl ?_
  refine lv_ldc hx hb hown (hts _ kc_X10_104) dX10_lessened_2 ?_
  refine lv_iload_n hx hb dX10_lessened_4 rfl (lv_at hl 1 rfl) ?_
  refine lv_isub hx hb dX10_lessened_5 ?_
  refine lv_i2l (v := ((1000000 : Int32) - v1).toInt64) hx hb dX10_lessened_6 rfl ?_
  refine lv_lmul hx hb dX10_lessened_7 ?_
  refine lv_ldc2 hx hb hown (hts _ kc_X10_105) dX10_lessened_8 ?_
  refine lv_ldiv hx hb dX10_lessened_11 (by decide) ?_
  refine lv_l2i (v := (((v0.toInt64) * (((1000000 : Int32) - v1).toInt64)) / (1000000 : Int64)).toInt32) hx hb dX10_lessened_12 rfl ?_
  exact x_iretR G hr hlk h dX10_lessened_13
def wp_X10_isHour (post : Int32 → Prop) (X : Hp) (v0 : Nat) (v1 : Int32) (v2 : Int32) : Prop := ∃ (fs1 : List Value) (y2 : Nat), Hs X v0 (.inr (10, fs1)) ∧ fs1[4]? = some (.ref y2) ∧ ∃ (n3 : Nat) (f4 : Nat → Int32), Hs X y2 (.inl (0, n3, .inl f4)) ∧ vp_in v1 n3 ∧ wp_X10_in (fun r5 => (r5 = 0 ∨ r5 = 1) ∧ post r5)  X (v2.toInt64) (0 : Int64) (((f4 v1.toNatClampNeg) - (1 : Int32)).toInt64)
set_option maxHeartbeats 4000000 in
set_option maxRecDepth 100000 in
theorem c_X10_isHour (l : Launch) (D : va_G) (kA : Nat → ClassId) (post : Int32 → Prop) (X : Hp) (v0 : Nat) (v1 : Int32) (v2 : Int32) (h : wp_X10_isHour post X v0 v1 v2) : Met l yX10_isHour (.code yX10_isHour cX10_isHour 3 (some .boolean) :: gd) (rmO 1 0 0 25) (va_Pc [Value.ref v0, Value.int v1, Value.int v2] (Pre D kA X)) (vp_Si post) 0 0 (fun _ => False) := by
  unfold wp_X10_isHour at h
  refine x_enR (by decide) (Nat.le_of_ble_eq_true rfl) ?_
  intro p e s m below meth c G hr hlk hP ls hl
  obtain ⟨hx, hb, hml, hown, hts, hE, hK⟩ := id G
  have hl : lv_has ls 3 [(0, .ref v0), (1, .int v1), (2, .int v2)] := hl
  refine lv_iload_n hx hb dX10_isHour_0 rfl (lv_at hl 2 rfl) ?_
  refine lv_i2l (v := v2.toInt64) hx hb dX10_isHour_1 rfl ?_
  refine lv_lconst (v := (0 : Int64)) hx hb dX10_isHour_2 (by decide) ?_
  refine lv_aload_n hx hb dX10_isHour_3 rfl (lv_at hl 0 rfl) ?_
  obtain ⟨fs1, y2, hfs1, hvfs1, h⟩ := h
  refine x_get G hP hfs1 hvfs1 fl_X10_22 dX10_isHour_4 ?_
  refine lv_iload_n hx hb dX10_isHour_7 rfl (lv_at hl 1 rfl) ?_
  obtain ⟨n3, f4, hf4, hif4, h⟩ := h
  refine x_iald G hP hf4 hif4 dX10_isHour_8 ?_
  refine lv_iconst (v := (1 : Int32)) hx hb dX10_isHour_9 (by decide) ?_
  refine lv_isub hx hb dX10_isHour_10 ?_
  refine lv_i2l (v := ((f4 v1.toNatClampNeg) - (1 : Int32)).toInt64) hx hb dX10_isHour_11 rfl ?_
  refine x_cRSi (As := [.long (v2.toInt64), .long (0 : Int64), .long (((f4 v1.toNatClampNeg) - (1 : Int32)).toInt64)]) (rest := []) G hP (c_X10_in l D kA _ _ (v2.toInt64) (0 : Int64) (((f4 v1.toNatClampNeg) - (1 : Int32)).toInt64) h) cd_X10_in ml_X10_66 ⟨(Nat.le_of_ble_eq_true rfl), (Nat.le_of_ble_eq_true rfl)⟩ rfl hl.1 rfl (Nat.le_of_ble_eq_true rfl) dX10_isHour_12 ⟨Nat.zero_le _, Nat.zero_le _⟩ (fun r5 h => ?_)
  obtain ⟨hz, h⟩ := h
  exact x_zretR G hr hlk hz h dX10_isHour_15
def wp_X10_owed (post : Int32 → Prop) (X : Hp) (v0 : Nat) (v1 : Int32) (v2 : Int32) (v3 : Int32) (v4 : Int32) : Prop := wp_X10_isWay (fun r1 => (¬ r1 = 0 → ∃ fs14 : List Value, Hs X v0 (.inr (10, fs14)) ∧ wp_X10_isHour (fun r3 => (r3 = 0 → post (-2 : Int32)) ∧ (¬ r3 = 0 → wp_X10_isOwed (fun r5 => (r5 = 0 → post (-2 : Int32)) ∧ (¬ r5 = 0 → wp_X10_in (fun r7 => (¬ r7 = 0 → ∃ fs13 : List Value, Hs X v0 (.inr (10, fs13)) ∧ wp_X10_canBe (fun r9 => (r9 = 0 → post (-5 : Int32)) ∧ (¬ r9 = 0 → ∃ fs12 : List Value, Hs X v0 (.inr (10, fs12)) ∧ wp_X10_owedBehind (fun r11 => post r11)  X v0 v1 v2 v3 v4))  X v0 v1 v2 v4) ∧ (r7 = 0 → post (-2 : Int32)))  X (v4.toInt64) (0 : Int64) (4 : Int64)))  X v3))  X v0 v1 v2) ∧ (r1 = 0 → post (-1 : Int32)))  X v1
set_option maxHeartbeats 4000000 in
set_option maxRecDepth 100000 in
theorem c_X10_owed (l : Launch) (D : va_G) (kA : Nat → ClassId) (post : Int32 → Prop) (X : Hp) (v0 : Nat) (v1 : Int32) (v2 : Int32) (v3 : Int32) (v4 : Int32) (h : wp_X10_owed post X v0 v1 v2 v3 v4) : Met l yX10_owed (.code yX10_owed cX10_owed 5 (some .int) :: gd) (rmO 2 0 0 47) (va_Pc [Value.ref v0, Value.int v1, Value.int v2, Value.int v3, Value.int v4] (Pre D kA X)) (vp_Si post) 0 0 (fun _ => False) := by
  unfold wp_X10_owed at h
  refine x_enR (by decide) (Nat.le_of_ble_eq_true rfl) ?_
  intro p e s m below meth c G hr hlk hP ls hl
  obtain ⟨hx, hb, hml, hown, hts, hE, hK⟩ := id G
  have hl : lv_has ls 5 [(0, .ref v0), (1, .int v1), (2, .int v2), (3, .int v3), (4, .int v4)] := hl
  refine lv_iload_n hx hb dX10_owed_0 rfl (lv_at hl 1 rfl) ?_
  refine x_cRSi (As := [.int v1]) (rest := []) G hP (c_X10_isWay l D kA _ _ v1 h) cd_X10_isWay ml_X10_74 ⟨(Nat.le_of_ble_eq_true rfl), (Nat.le_of_ble_eq_true rfl)⟩ rfl hl.1 rfl (Nat.le_of_ble_eq_true rfl) dX10_owed_1 ⟨Nat.zero_le _, Nat.zero_le _⟩ (fun r1 h => ?_)
  refine lv_if_ne (tgt := 9) hx hb dX10_owed_4 (by decide) (fun c2 => ?_) (fun c2 => ?_)
  · have h := h.1 c2
    refine lv_aload_n hx hb dX10_owed_9 rfl (lv_at hl 0 rfl) ?_
    refine lv_iload_n hx hb dX10_owed_10 rfl (lv_at hl 1 rfl) ?_
    refine lv_iload_n hx hb dX10_owed_11 rfl (lv_at hl 2 rfl) ?_
    obtain ⟨fs14, hfs14, h⟩ := h
    refine x_cRVi (As := [.int v1, .int v2]) (rest := []) G hP hfs14 rfl rfl (c_X10_isHour l D kA _ _ v0 v1 v2 h) cd_X10_isHour ml_X10_107 ⟨(Nat.le_of_ble_eq_true rfl), (Nat.le_of_ble_eq_true rfl)⟩ rfl hl.1 rfl (Nat.le_of_ble_eq_true rfl) dX10_owed_12 ⟨Nat.zero_le _, Nat.zero_le _⟩ (fun r3 h => ?_)
    refine lv_if_eq (tgt := 38) hx hb dX10_owed_15 (by decide) (fun c4 => ?_) (fun c4 => ?_)
    · have h := h.1 c4
      refine lv_bipush (v := (-2 : Int32)) hx hb dX10_owed_38 (by decide) ?_
      exact x_iretR G hr hlk h dX10_owed_40
    · have h := h.2 c4
      refine lv_iload_n hx hb dX10_owed_18 rfl (lv_at hl 3 rfl) ?_
      refine x_cRSi (As := [.int v3]) (rest := []) G hP (c_X10_isOwed l D kA _ _ v3 h) cd_X10_isOwed ml_X10_110 ⟨(Nat.le_of_ble_eq_true rfl), (Nat.le_of_ble_eq_true rfl)⟩ rfl hl.1 rfl (Nat.le_of_ble_eq_true rfl) dX10_owed_19 ⟨Nat.zero_le _, Nat.zero_le _⟩ (fun r5 h => ?_)
      refine lv_if_eq (tgt := 38) hx hb dX10_owed_22 (by decide) (fun c6 => ?_) (fun c6 => ?_)
      · have h := h.1 c6
        refine lv_bipush (v := (-2 : Int32)) hx hb dX10_owed_38 (by decide) ?_
        exact x_iretR G hr hlk h dX10_owed_40
      · have h := h.2 c6
        refine lv_iload hx hb dX10_owed_25 (lv_at hl 4 rfl) ?_
        refine lv_i2l (v := v4.toInt64) hx hb dX10_owed_27 rfl ?_
        refine lv_lconst (v := (0 : Int64)) hx hb dX10_owed_28 (by decide) ?_
        refine lv_ldc2 hx hb hown (hts _ kc_X10_113) dX10_owed_29 ?_
        refine x_cRSi (As := [.long (v4.toInt64), .long (0 : Int64), .long (4 : Int64)]) (rest := []) G hP (c_X10_in l D kA _ _ (v4.toInt64) (0 : Int64) (4 : Int64) h) cd_X10_in ml_X10_66 ⟨(Nat.le_of_ble_eq_true rfl), (Nat.le_of_ble_eq_true rfl)⟩ rfl hl.1 rfl (Nat.le_of_ble_eq_true rfl) dX10_owed_32 ⟨Nat.zero_le _, Nat.zero_le _⟩ (fun r7 h => ?_)
        refine lv_if_ne (tgt := 41) hx hb dX10_owed_35 (by decide) (fun c8 => ?_) (fun c8 => ?_)
        · have h := h.1 c8
          refine lv_aload_n hx hb dX10_owed_41 rfl (lv_at hl 0 rfl) ?_
          refine lv_iload_n hx hb dX10_owed_42 rfl (lv_at hl 1 rfl) ?_
          refine lv_iload_n hx hb dX10_owed_43 rfl (lv_at hl 2 rfl) ?_
          refine lv_iload hx hb dX10_owed_44 (lv_at hl 4 rfl) ?_
          obtain ⟨fs13, hfs13, h⟩ := h
          refine x_cRVi (As := [.int v1, .int v2, .int v4]) (rest := []) G hP hfs13 rfl rfl (c_X10_canBe l D kA _ _ v0 v1 v2 v4 h) cd_X10_canBe ml_X10_115 ⟨(Nat.le_of_ble_eq_true rfl), (Nat.le_of_ble_eq_true rfl)⟩ rfl hl.1 rfl (Nat.le_of_ble_eq_true rfl) dX10_owed_46 ⟨Nat.zero_le _, Nat.zero_le _⟩ (fun r9 h => ?_)
          refine lv_if_eq (tgt := 64) hx hb dX10_owed_49 (by decide) (fun c10 => ?_) (fun c10 => ?_)
          · have h := h.1 c10
            refine lv_bipush (v := (-5 : Int32)) hx hb dX10_owed_64 (by decide) ?_
            exact x_iretR G hr hlk h dX10_owed_66
          · have h := h.2 c10
            refine lv_aload_n hx hb dX10_owed_52 rfl (lv_at hl 0 rfl) ?_
            refine lv_iload_n hx hb dX10_owed_53 rfl (lv_at hl 1 rfl) ?_
            refine lv_iload_n hx hb dX10_owed_54 rfl (lv_at hl 2 rfl) ?_
            refine lv_iload_n hx hb dX10_owed_55 rfl (lv_at hl 3 rfl) ?_
            refine lv_iload hx hb dX10_owed_56 (lv_at hl 4 rfl) ?_
            obtain ⟨fs12, hfs12, h⟩ := h
            refine x_cRVi (As := [.int v1, .int v2, .int v3, .int v4]) (rest := []) G hP hfs12 rfl rfl (c_X10_owedBehind l D kA _ _ v0 v1 v2 v3 v4 h) cd_X10_owedBehind ml_X10_119 ⟨(Nat.le_of_ble_eq_true rfl), (Nat.le_of_ble_eq_true rfl)⟩ rfl hl.1 rfl (Nat.le_of_ble_eq_true rfl) dX10_owed_58 ⟨Nat.zero_le _, Nat.zero_le _⟩ (fun r11 h => ?_)
            refine lv_goto (tgt := 66) hx hb dX10_owed_61 (by decide) ?_
            exact x_iretR G hr hlk h dX10_owed_66
        · have h := h.2 c8
          refine lv_bipush (v := (-2 : Int32)) hx hb dX10_owed_38 (by decide) ?_
          exact x_iretR G hr hlk h dX10_owed_40
  · have h := h.2 c2
    refine lv_iconst (v := (-1 : Int32)) hx hb dX10_owed_7 (by decide) ?_
    exact x_iretR G hr hlk h dX10_owed_8
def bk_X10_risk_75 (post : Int32 → Prop) (X : Hp) (v0 : Nat) (v1 : Int32) (v2 : Int32) (v3 : Int32) (v4 : Int32) (v5 : Int32)  (b75_s0 : Int32) : Prop := (b75_s0 = 0 → post (-5 : Int32)) ∧ (¬ b75_s0 = 0 → ∃ fs19 : List Value, Hs X v0 (.inr (10, fs19)) ∧ wp_X10_riskOf (fun r18 => post r18)  X v0 v1 v2 v3 v4 v5)
def bk_X10_risk_74 (post : Int32 → Prop) (X : Hp) (v0 : Nat) (v1 : Int32) (v2 : Int32) (v3 : Int32) (v4 : Int32) (v5 : Int32)   : Prop := bk_X10_risk_75 post X v0 v1 v2 v3 v4 v5 (0 : Int32)
def bk_X10_risk_70 (post : Int32 → Prop) (X : Hp) (v0 : Nat) (v1 : Int32) (v2 : Int32) (v3 : Int32) (v4 : Int32) (v5 : Int32)   : Prop := bk_X10_risk_75 post X v0 v1 v2 v3 v4 v5 (1 : Int32)
def wp_X10_risk (post : Int32 → Prop) (X : Hp) (v0 : Nat) (v1 : Int32) (v2 : Int32) (v3 : Int32) (v4 : Int32) (v5 : Int32) : Prop := wp_X10_isWay (fun r1 => (¬ r1 = 0 → ∃ fs16 : List Value, Hs X v0 (.inr (10, fs16)) ∧ wp_X10_isHour (fun r3 => (r3 = 0 → post (-2 : Int32)) ∧ (¬ r3 = 0 → wp_X10_isOwed (fun r5 => (r5 = 0 → post (-2 : Int32)) ∧ (¬ r5 = 0 → wp_X10_in (fun r7 => (r7 = 0 → post (-2 : Int32)) ∧ (¬ r7 = 0 → wp_X10_isEnd (fun r9 => (¬ r9 = 0 → ∃ fs15 : List Value, Hs X v0 (.inr (10, fs15)) ∧ wp_X10_canBe (fun r11 => (r11 = 0 → bk_X10_risk_74 post X v0 v1 v2 v3 v4 v5 ) ∧ (¬ r11 = 0 → (¬ v4 = 0 → bk_X10_risk_70 post X v0 v1 v2 v3 v4 v5 ) ∧ (v4 = 0 → (¬ v5 = 0 → bk_X10_risk_74 post X v0 v1 v2 v3 v4 v5 ) ∧ (v5 = 0 → bk_X10_risk_70 post X v0 v1 v2 v3 v4 v5 ))))  X v0 v1 v2 v4) ∧ (r9 = 0 → post (-2 : Int32)))  X v5))  X (v4.toInt64) (0 : Int64) (4 : Int64)))  X v3))  X v0 v1 v2) ∧ (r1 = 0 → post (-1 : Int32)))  X v1
set_option maxHeartbeats 4000000 in
set_option maxRecDepth 100000 in
theorem c_X10_risk (l : Launch) (D : va_G) (kA : Nat → ClassId) (post : Int32 → Prop) (X : Hp) (v0 : Nat) (v1 : Int32) (v2 : Int32) (v3 : Int32) (v4 : Int32) (v5 : Int32) (h : wp_X10_risk post X v0 v1 v2 v3 v4 v5) : Met l yX10_risk (.code yX10_risk cX10_risk 7 (some .int) :: gd) (rmO 2 0 0 51) (va_Pc [Value.ref v0, Value.int v1, Value.int v2, Value.int v3, Value.int v4, Value.int v5] (Pre D kA X)) (vp_Si post) 0 0 (fun _ => False) := by
  unfold wp_X10_risk at h
  refine x_enR (by decide) (Nat.le_of_ble_eq_true rfl) ?_
  intro p e s m below meth c G hr hlk hP ls hl
  obtain ⟨hx, hb, hml, hown, hts, hE, hK⟩ := id G
  have hl : lv_has ls 7 [(0, .ref v0), (1, .int v1), (2, .int v2), (3, .int v3), (4, .int v4), (5, .int v5)] := hl
  have J_75 : ∀ (b75_s0 : Int32), ∀ (_ : bk_X10_risk_75 post X v0 v1 v2 v3 v4 v5  b75_s0), ∀ ls, lv_has ls 7 [(0, .ref v0), (1, .int v1), (2, .int v2), (3, .int v3), (4, .int v4), (5, .int v5)] → W p l e (rmO 2 0 0 51) s m [Value.ref v0, Value.int v1, Value.int v2, Value.int v3, Value.int v4, Value.int v5].toArray below meth c s.heap [] 0 0 (MQ below (vp_Si post) [Value.ref v0, Value.int v1, Value.int v2, Value.int v3, Value.int v4, Value.int v5].toArray s 0 0 (fun _ => False)) (F0 m 75 ls [.int b75_s0]) := by
    intro b75_s0 h ls hl
    unfold bk_X10_risk_75 at h
    refine lv_istore (lv' := [(6, .int b75_s0), (0, .ref v0), (1, .int v1), (2, .int v2), (3, .int v3), (4, .int v4), (5, .int v5)]) hx hb dX10_risk_75 hl (by decide) rfl (fun ls hl => ?_)
    refine lv_iload hx hb dX10_risk_77 (lv_at hl 0 rfl) ?_
    refine lv_if_eq (tgt := 96) hx hb dX10_risk_79 (by decide) (fun c17 => ?_) (fun c17 => ?_)
    · have h := h.1 c17
      refine lv_bipush (v := (-5 : Int32)) hx hb dX10_risk_96 (by decide) ?_
      exact x_iretR G hr hlk h dX10_risk_98
    · have h := h.2 c17
      refine lv_aload_n hx hb dX10_risk_82 rfl (lv_at hl 1 rfl) ?_
      refine lv_iload_n hx hb dX10_risk_83 rfl (lv_at hl 2 rfl) ?_
      refine lv_iload_n hx hb dX10_risk_84 rfl (lv_at hl 3 rfl) ?_
      refine lv_iload_n hx hb dX10_risk_85 rfl (lv_at hl 4 rfl) ?_
      refine lv_iload hx hb dX10_risk_86 (lv_at hl 5 rfl) ?_
      refine lv_iload hx hb dX10_risk_88 (lv_at hl 6 rfl) ?_
      obtain ⟨fs19, hfs19, h⟩ := h
      refine x_cRVi (As := [.int v1, .int v2, .int v3, .int v4, .int v5]) (rest := []) G hP hfs19 rfl rfl (c_X10_riskOf l D kA _ _ v0 v1 v2 v3 v4 v5 h) cd_X10_riskOf ml_X10_123 ⟨(Nat.le_of_ble_eq_true rfl), (Nat.le_of_ble_eq_true rfl)⟩ rfl hl.1 rfl (Nat.le_of_ble_eq_true rfl) dX10_risk_90 ⟨Nat.zero_le _, Nat.zero_le _⟩ (fun r18 h => ?_)
      refine lv_goto (tgt := 98) hx hb dX10_risk_93 (by decide) ?_
      exact x_iretR G hr hlk h dX10_risk_98
  have J_74 : ∀ (_ : Unit), ∀ (_ : bk_X10_risk_74 post X v0 v1 v2 v3 v4 v5  ), ∀ ls, lv_has ls 7 [(0, .ref v0), (1, .int v1), (2, .int v2), (3, .int v3), (4, .int v4), (5, .int v5)] → W p l e (rmO 2 0 0 51) s m [Value.ref v0, Value.int v1, Value.int v2, Value.int v3, Value.int v4, Value.int v5].toArray below meth c s.heap [] 0 0 (MQ below (vp_Si post) [Value.ref v0, Value.int v1, Value.int v2, Value.int v3, Value.int v4, Value.int v5].toArray s 0 0 (fun _ => False)) (F0 m 74 ls []) := by
    intro _ h ls hl
    unfold bk_X10_risk_74 at h
    refine lv_iconst (v := (0 : Int32)) hx hb dX10_risk_74 (by decide) ?_
    exact J_75 _ h ls (lv_sub hl [0, 1, 2, 3, 4, 5] rfl)
  have J_70 : ∀ (_ : Unit), ∀ (_ : bk_X10_risk_70 post X v0 v1 v2 v3 v4 v5  ), ∀ ls, lv_has ls 7 [(0, .ref v0), (1, .int v1), (2, .int v2), (3, .int v3), (4, .int v4), (5, .int v5)] → W p l e (rmO 2 0 0 51) s m [Value.ref v0, Value.int v1, Value.int v2, Value.int v3, Value.int v4, Value.int v5].toArray below meth c s.heap [] 0 0 (MQ below (vp_Si post) [Value.ref v0, Value.int v1, Value.int v2, Value.int v3, Value.int v4, Value.int v5].toArray s 0 0 (fun _ => False)) (F0 m 70 ls []) := by
    intro _ h ls hl
    unfold bk_X10_risk_70 at h
    refine lv_iconst (v := (1 : Int32)) hx hb dX10_risk_70 (by decide) ?_
    refine lv_goto (tgt := 75) hx hb dX10_risk_71 (by decide) ?_
    exact J_75 _ h ls (lv_sub hl [0, 1, 2, 3, 4, 5] rfl)
  refine lv_iload_n hx hb dX10_risk_0 rfl (lv_at hl 1 rfl) ?_
  refine x_cRSi (As := [.int v1]) (rest := []) G hP (c_X10_isWay l D kA _ _ v1 h) cd_X10_isWay ml_X10_74 ⟨(Nat.le_of_ble_eq_true rfl), (Nat.le_of_ble_eq_true rfl)⟩ rfl hl.1 rfl (Nat.le_of_ble_eq_true rfl) dX10_risk_1 ⟨Nat.zero_le _, Nat.zero_le _⟩ (fun r1 h => ?_)
  refine lv_if_ne (tgt := 9) hx hb dX10_risk_4 (by decide) (fun c2 => ?_) (fun c2 => ?_)
  · have h := h.1 c2
    refine lv_aload_n hx hb dX10_risk_9 rfl (lv_at hl 0 rfl) ?_
    refine lv_iload_n hx hb dX10_risk_10 rfl (lv_at hl 1 rfl) ?_
    refine lv_iload_n hx hb dX10_risk_11 rfl (lv_at hl 2 rfl) ?_
    obtain ⟨fs16, hfs16, h⟩ := h
    refine x_cRVi (As := [.int v1, .int v2]) (rest := []) G hP hfs16 rfl rfl (c_X10_isHour l D kA _ _ v0 v1 v2 h) cd_X10_isHour ml_X10_107 ⟨(Nat.le_of_ble_eq_true rfl), (Nat.le_of_ble_eq_true rfl)⟩ rfl hl.1 rfl (Nat.le_of_ble_eq_true rfl) dX10_risk_12 ⟨Nat.zero_le _, Nat.zero_le _⟩ (fun r3 h => ?_)
    refine lv_if_eq (tgt := 46) hx hb dX10_risk_15 (by decide) (fun c4 => ?_) (fun c4 => ?_)
    · have h := h.1 c4
      refine lv_bipush (v := (-2 : Int32)) hx hb dX10_risk_46 (by decide) ?_
      exact x_iretR G hr hlk h dX10_risk_48
    · have h := h.2 c4
      refine lv_iload_n hx hb dX10_risk_18 rfl (lv_at hl 3 rfl) ?_
      refine x_cRSi (As := [.int v3]) (rest := []) G hP (c_X10_isOwed l D kA _ _ v3 h) cd_X10_isOwed ml_X10_110 ⟨(Nat.le_of_ble_eq_true rfl), (Nat.le_of_ble_eq_true rfl)⟩ rfl hl.1 rfl (Nat.le_of_ble_eq_true rfl) dX10_risk_19 ⟨Nat.zero_le _, Nat.zero_le _⟩ (fun r5 h => ?_)
      refine lv_if_eq (tgt := 46) hx hb dX10_risk_22 (by decide) (fun c6 => ?_) (fun c6 => ?_)
      · have h := h.1 c6
        refine lv_bipush (v := (-2 : Int32)) hx hb dX10_risk_46 (by decide) ?_
        exact x_iretR G hr hlk h dX10_risk_48
      · have h := h.2 c6
        refine lv_iload hx hb dX10_risk_25 (lv_at hl 4 rfl) ?_
        refine lv_i2l (v := v4.toInt64) hx hb dX10_risk_27 rfl ?_
        refine lv_lconst (v := (0 : Int64)) hx hb dX10_risk_28 (by decide) ?_
        refine lv_ldc2 hx hb hown (hts _ kc_X10_113) dX10_risk_29 ?_
        refine x_cRSi (As := [.long (v4.toInt64), .long (0 : Int64), .long (4 : Int64)]) (rest := []) G hP (c_X10_in l D kA _ _ (v4.toInt64) (0 : Int64) (4 : Int64) h) cd_X10_in ml_X10_66 ⟨(Nat.le_of_ble_eq_true rfl), (Nat.le_of_ble_eq_true rfl)⟩ rfl hl.1 rfl (Nat.le_of_ble_eq_true rfl) dX10_risk_32 ⟨Nat.zero_le _, Nat.zero_le _⟩ (fun r7 h => ?_)
        refine lv_if_eq (tgt := 46) hx hb dX10_risk_35 (by decide) (fun c8 => ?_) (fun c8 => ?_)
        · have h := h.1 c8
          refine lv_bipush (v := (-2 : Int32)) hx hb dX10_risk_46 (by decide) ?_
          exact x_iretR G hr hlk h dX10_risk_48
        · have h := h.2 c8
          refine lv_iload hx hb dX10_risk_38 (lv_at hl 5 rfl) ?_
          refine x_cRSi (As := [.int v5]) (rest := []) G hP (c_X10_isEnd l D kA _ _ v5 h) cd_X10_isEnd ml_X10_80 ⟨(Nat.le_of_ble_eq_true rfl), (Nat.le_of_ble_eq_true rfl)⟩ rfl hl.1 rfl (Nat.le_of_ble_eq_true rfl) dX10_risk_40 ⟨Nat.zero_le _, Nat.zero_le _⟩ (fun r9 h => ?_)
          refine lv_if_ne (tgt := 49) hx hb dX10_risk_43 (by decide) (fun c10 => ?_) (fun c10 => ?_)
          · have h := h.1 c10
            refine lv_aload_n hx hb dX10_risk_49 rfl (lv_at hl 0 rfl) ?_
            refine lv_iload_n hx hb dX10_risk_50 rfl (lv_at hl 1 rfl) ?_
            refine lv_iload_n hx hb dX10_risk_51 rfl (lv_at hl 2 rfl) ?_
            refine lv_iload hx hb dX10_risk_52 (lv_at hl 4 rfl) ?_
            obtain ⟨fs15, hfs15, h⟩ := h
            refine x_cRVi (As := [.int v1, .int v2, .int v4]) (rest := []) G hP hfs15 rfl rfl (c_X10_canBe l D kA _ _ v0 v1 v2 v4 h) cd_X10_canBe ml_X10_115 ⟨(Nat.le_of_ble_eq_true rfl), (Nat.le_of_ble_eq_true rfl)⟩ rfl hl.1 rfl (Nat.le_of_ble_eq_true rfl) dX10_risk_54 ⟨Nat.zero_le _, Nat.zero_le _⟩ (fun r11 h => ?_)
            refine lv_if_eq (tgt := 74) hx hb dX10_risk_57 (by decide) (fun c12 => ?_) (fun c12 => ?_)
            · have h := h.1 c12
              exact J_74 () h ls (lv_sub hl [0, 1, 2, 3, 4, 5] rfl)
            · have h := h.2 c12
              refine lv_iload hx hb dX10_risk_60 (lv_at hl 4 rfl) ?_
              refine lv_if_ne (tgt := 70) hx hb dX10_risk_62 (by decide) (fun c13 => ?_) (fun c13 => ?_)
              · have h := h.1 c13
                exact J_70 () h ls (lv_sub hl [0, 1, 2, 3, 4, 5] rfl)
              · have h := h.2 c13
                refine lv_iload hx hb dX10_risk_65 (lv_at hl 5 rfl) ?_
                refine lv_if_ne (tgt := 74) hx hb dX10_risk_67 (by decide) (fun c14 => ?_) (fun c14 => ?_)
                · have h := h.1 c14
                  exact J_74 () h ls (lv_sub hl [0, 1, 2, 3, 4, 5] rfl)
                · have h := h.2 c14
                  exact J_70 () h ls (lv_sub hl [0, 1, 2, 3, 4, 5] rfl)
          · have h := h.2 c10
            refine lv_bipush (v := (-2 : Int32)) hx hb dX10_risk_46 (by decide) ?_
            exact x_iretR G hr hlk h dX10_risk_48
  · have h := h.2 c2
    refine lv_iconst (v := (-1 : Int32)) hx hb dX10_risk_7 (by decide) ?_
    exact x_iretR G hr hlk h dX10_risk_8
def wp_X10_say (post : Int32 → Hp → Prop) (X : Hp) (v0 : Nat) (v1 : Int32) : Prop := wp_X10_in (fun r1 => (¬ r1 = 0 → ∃ (fs3 : List Value) (y4 : Int32), Hs X v0 (.inr (10, fs3)) ∧ fs3[10]? = some (.int y4) ∧ (¬ y4 = (60 : Int32) → ∃ (fs6 : List Value) (y7 : Nat), Hs X v0 (.inr (10, fs6)) ∧ fs6[9]? = some (.ref y7) ∧ ∃ (fs8 : List Value) (y9 : Int32), Hs X v0 (.inr (10, fs8)) ∧ fs8[10]? = some (.int y9) ∧ ∃ (n10 : Nat) (f11 : Nat → Int32), Hs X y7 (.inl (0, n10, .inl f11)) ∧ vp_in y9 n10 ∧ ∀ X12 : Hp, X12 = hput X y7 (.inl (0, n10, .inl (upd f11 y9.toNatClampNeg v1))) → ∃ (fs13 : List Value) (y14 : Int32), Hs X12 v0 (.inr (10, fs13)) ∧ fs13[10]? = some (.int y14) ∧ ∃ (fs15 : List Value), Hs X12 v0 (.inr (10, fs15)) ∧ 10 < fs15.length ∧ ∀ X16 : Hp, X16 = hput X12 v0 (.inr (10, fs15.set 10 (.int (y14 + (1 : Int32))))) → ∃ (fs17 : List Value) (y18 : Int32), Hs X16 v0 (.inr (10, fs17)) ∧ fs17[10]? = some (.int y18) ∧ post y18 X16) ∧ (y4 = (60 : Int32) → post (-4 : Int32) X)) ∧ (r1 = 0 → post (-2 : Int32) X))  X (v1.toInt64) (33 : Int64) (126 : Int64)
set_option maxHeartbeats 4000000 in
set_option maxRecDepth 100000 in
theorem c_X10_say (l : Launch) (D : va_G) (kA : Nat → ClassId) (post : Int32 → Hp → Prop) (X : Hp) (sz : Nat) (v0 : Nat) (v1 : Int32) (h : wp_X10_say post X v0 v1) : Met l yX10_say (.code yX10_say cX10_say 2 (some .int) :: gd) (rmO 1 0 0 25) (va_Pc [Value.ref v0, Value.int v1] (PreM D kA X sz)) (va_Qi post (PoM D kA X sz) (va_A (hw kA X) sz)) 0 0 (va_A (hw kA X) sz) := by
  unfold wp_X10_say at h
  refine x_enM (by decide) (Nat.le_of_ble_eq_true rfl) ?_
  intro p e s m below meth c G hr hlk hin hsz hA S ls hl
  obtain ⟨hx, hb, hml, hown, hts, hE, hK⟩ := id G
  have hl : lv_has ls 2 [(0, .ref v0), (1, .int v1)] := hl
  refine lv_iload_n hx hb dX10_say_0 rfl (lv_at hl 1 rfl) ?_
  refine lv_i2l (v := v1.toInt64) hx hb dX10_say_1 rfl ?_
  refine lv_ldc2 hx hb hown (hts _ kc_X10_127) dX10_say_2 ?_
  refine lv_ldc2 hx hb hown (hts _ kc_X10_129) dX10_say_5 ?_
  refine x_cRSi (As := [.long (v1.toInt64), .long (33 : Int64), .long (126 : Int64)]) (rest := []) G S.1 (c_X10_in l D kA _ _ (v1.toInt64) (33 : Int64) (126 : Int64) h) cd_X10_in ml_X10_66 ⟨(Nat.le_of_ble_eq_true rfl), (Nat.le_of_ble_eq_true rfl)⟩ rfl hl.1 rfl (Nat.le_of_ble_eq_true rfl) dX10_say_8 ⟨Nat.zero_le _, Nat.zero_le _⟩ (fun r1 h => ?_)
  refine lv_if_ne (tgt := 17) hx hb dX10_say_11 (by decide) (fun c2 => ?_) (fun c2 => ?_)
  · have h := h.1 c2
    refine lv_aload_n hx hb dX10_say_17 rfl (lv_at hl 0 rfl) ?_
    obtain ⟨fs3, y4, hfs3, hvfs3, h⟩ := h
    refine x_get G S.1 hfs3 hvfs3 fl_X10_131 dX10_say_18 ?_
    refine lv_bipush (v := (60 : Int32)) hx hb dX10_say_21 (by decide) ?_
    refine lv_icmp_ne (tgt := 29) hx hb dX10_say_23 (by decide) (fun c5 => ?_) (fun c5 => ?_)
    · have h := h.1 c5
      refine lv_aload_n hx hb dX10_say_29 rfl (lv_at hl 0 rfl) ?_
      obtain ⟨fs6, y7, hfs6, hvfs6, h⟩ := h
      refine x_get G S.1 hfs6 hvfs6 fl_X10_37 dX10_say_30 ?_
      refine lv_aload_n hx hb dX10_say_33 rfl (lv_at hl 0 rfl) ?_
      obtain ⟨fs8, y9, hfs8, hvfs8, h⟩ := h
      refine x_get G S.1 hfs8 hvfs8 fl_X10_131 dX10_say_34 ?_
      refine lv_iload_n hx hb dX10_say_37 rfl (lv_at hl 1 rfl) ?_
      obtain ⟨n10, f11, hf11, hif11, h⟩ := h
      have h := h _ rfl
      refine x_iast G S hf11 hif11 dX10_say_38 (fun H locs S => ?_)
      refine lv_aload_n hx hb dX10_say_39 rfl (lv_at hl 0 rfl) ?_
      refine lv_dup hx hb dX10_say_40 rfl ?_
      obtain ⟨fs13, y14, hfs13, hvfs13, h⟩ := h
      refine x_get G S.1 hfs13 hvfs13 fl_X10_131 dX10_say_41 ?_
      refine lv_iconst (v := (1 : Int32)) hx hb dX10_say_44 (by decide) ?_
      refine lv_iadd hx hb dX10_say_45 ?_
      obtain ⟨fs15, hfs15, hkfs15, h⟩ := h
      have h := h _ rfl
      refine x_put G S hfs15 hkfs15 rfl rfl fw_X10_131 dX10_say_46 (fun H locs S => ?_)
      refine lv_aload_n hx hb dX10_say_49 rfl (lv_at hl 0 rfl) ?_
      obtain ⟨fs17, y18, hfs17, hvfs17, h⟩ := h
      refine x_get G S.1 hfs17 hvfs17 fl_X10_131 dX10_say_50 ?_
      exact x_iretM G hr hlk S (Nat.le_refl _) (Nat.le_refl _) h dX10_say_53
    · have h := h.2 c5
      refine lv_bipush (v := (-4 : Int32)) hx hb dX10_say_26 (by decide) ?_
      exact x_iretM G hr hlk S (Nat.le_refl _) (Nat.le_refl _) h dX10_say_28
  · have h := h.2 c2
    refine lv_bipush (v := (-2 : Int32)) hx hb dX10_say_14 (by decide) ?_
    exact x_iretM G hr hlk S (Nat.le_refl _) (Nat.le_refl _) h dX10_say_16
def wp_X10_wipe (post : Int32 → Hp → Prop) (X : Hp) (v0 : Nat) : Prop := ∃ (fs1 : List Value) (y2 : Int32), Hs X v0 (.inr (10, fs1)) ∧ fs1[10]? = some (.int y2) ∧ ∃ (fs3 : List Value), Hs X v0 (.inr (10, fs3)) ∧ 10 < fs3.length ∧ ∀ X4 : Hp, X4 = hput X v0 (.inr (10, fs3.set 10 (.int (0 : Int32)))) → post y2 X4
set_option maxHeartbeats 4000000 in
set_option maxRecDepth 100000 in
theorem c_X10_wipe (l : Launch) (D : va_G) (kA : Nat → ClassId) (post : Int32 → Hp → Prop) (X : Hp) (sz : Nat) (v0 : Nat) (h : wp_X10_wipe post X v0) : Met l yX10_wipe (.code yX10_wipe cX10_wipe 2 (some .int) :: gd) (rmO 0 0 0 0) (va_Pc [Value.ref v0] (PreM D kA X sz)) (va_Qi post (PoM D kA X sz) (va_A (hw kA X) sz)) 0 0 (va_A (hw kA X) sz) := by
  unfold wp_X10_wipe at h
  refine x_enM (by decide) (Nat.le_of_ble_eq_true rfl) ?_
  intro p e s m below meth c G hr hlk hin hsz hA S ls hl
  obtain ⟨hx, hb, hml, hown, hts, hE, hK⟩ := id G
  have hl : lv_has ls 2 [(0, .ref v0)] := hl
  refine lv_aload_n hx hb dX10_wipe_0 rfl (lv_at hl 0 rfl) ?_
  obtain ⟨fs1, y2, hfs1, hvfs1, h⟩ := h
  refine x_get G S.1 hfs1 hvfs1 fl_X10_131 dX10_wipe_1 ?_
  refine lv_istore_n (lv' := [(1, .int y2), (0, .ref v0)]) hx hb dX10_wipe_4 rfl hl (by decide) rfl (fun ls hl => ?_)
  refine lv_aload_n hx hb dX10_wipe_5 rfl (lv_at hl 1 rfl) ?_
  refine lv_iconst (v := (0 : Int32)) hx hb dX10_wipe_6 (by decide) ?_
  obtain ⟨fs3, hfs3, hkfs3, h⟩ := h
  have h := h _ rfl
  refine x_put G S hfs3 hkfs3 rfl rfl fw_X10_131 dX10_wipe_7 (fun H locs S => ?_)
  refine lv_iload_n hx hb dX10_wipe_10 rfl (lv_at hl 0 rfl) ?_
  exact x_iretM G hr hlk S (Nat.le_refl _) (Nat.le_refl _) h dX10_wipe_11
def bk_X10_fault_98 (post : Int32 → Prop) (X : Hp) (v0 : Nat) (r_4 : Int32 → Int32 → Prop) (b98_1 : Int32) (b98_2 : Int32) : Prop := ∀ x17 : Int32, x17 = b98_2 + (1 : Int32) → r_4 b98_1 x17
def bk_X10_fault_91 (post : Int32 → Prop) (X : Hp) (v0 : Nat) (r_4 : Int32 → Int32 → Prop) (b91_2 : Int32) : Prop := bk_X10_fault_98 post X v0 r_4 (0 : Int32) b91_2
def bk_X10_fault_52 (post : Int32 → Prop) (X : Hp) (v0 : Nat) (r_4 : Int32 → Int32 → Prop) (b52_1 : Int32) (b52_2 : Int32) (b52_3 : Int32) : Prop := (¬ b52_3 = (51 : Int32) → (b52_3 = (49 : Int32) → bk_X10_fault_91 post X v0 r_4 b52_2) ∧ (¬ b52_3 = (49 : Int32) → (b52_3 = (50 : Int32) → bk_X10_fault_91 post X v0 r_4 b52_2) ∧ (¬ b52_3 = (50 : Int32) → (b52_3 = (108 : Int32) → bk_X10_fault_91 post X v0 r_4 b52_2) ∧ (¬ b52_3 = (108 : Int32) → (¬ b52_3 = (119 : Int32) → post b52_2) ∧ (b52_3 = (119 : Int32) → (¬ b52_1 = 0 → post b52_2) ∧ (b52_1 = 0 → bk_X10_fault_91 post X v0 r_4 b52_2)))))) ∧ (b52_3 = (51 : Int32) → bk_X10_fault_98 post X v0 r_4 (2 : Int32) b52_2)
def bk_X10_fault_4 (post : Int32 → Prop) (X : Hp) (v0 : Nat)  : Nat → Int32 → Int32 → Prop
  | 0, _, _ => False
  | k + 1, b4_1, b4_2 => ∃ (fs2 : List Value) (y3 : Int32), Hs X v0 (.inr (10, fs2)) ∧ fs2[10]? = some (.int y3) ∧ (y3 ≤ b4_2 → (¬ b4_1 = 0 → ∃ (fs6 : List Value) (y7 : Int32), Hs X v0 (.inr (10, fs6)) ∧ fs6[10]? = some (.int y7) ∧ post y7) ∧ (b4_1 = 0 → post (-6 : Int32))) ∧ (¬ y3 ≤ b4_2 → ∃ (fs8 : List Value) (y9 : Nat), Hs X v0 (.inr (10, fs8)) ∧ fs8[9]? = some (.ref y9) ∧ ∃ (n10 : Nat) (f11 : Nat → Int32), Hs X y9 (.inl (0, n10, .inl f11)) ∧ vp_in b4_2 n10 ∧ ∀ x12 : Int32, x12 = (f11 b4_2.toNatClampNeg) → (¬ b4_1 = (2 : Int32) → (¬ x12 = (33 : Int32) → bk_X10_fault_52 post X v0 (bk_X10_fault_4 post X v0 k) b4_1 b4_2 x12) ∧ (x12 = (33 : Int32) → (¬ b4_1 = 0 → bk_X10_fault_52 post X v0 (bk_X10_fault_4 post X v0 k) b4_1 b4_2 x12) ∧ (b4_1 = 0 → bk_X10_fault_98 post X v0 (bk_X10_fault_4 post X v0 k) (1 : Int32) b4_2))) ∧ (b4_1 = (2 : Int32) → (x12 = (46 : Int32) → bk_X10_fault_98 post X v0 (bk_X10_fault_4 post X v0 k) (0 : Int32) b4_2) ∧ (¬ x12 = (46 : Int32) → post b4_2)))
def wp_X10_fault (post : Int32 → Prop) (X : Hp) (v0 : Nat) : Prop := ∃ n1 : Nat, bk_X10_fault_4 post X v0 n1 (0 : Int32) (0 : Int32)
set_option maxHeartbeats 4000000 in
set_option maxRecDepth 100000 in
theorem c_X10_fault (l : Launch) (D : va_G) (kA : Nat → ClassId) (post : Int32 → Prop) (X : Hp) (v0 : Nat) (h : wp_X10_fault post X v0) : Met l yX10_fault (.code yX10_fault cX10_fault 4 (some .int) :: gd) (rmO 0 0 0 0) (va_Pc [Value.ref v0] (Pre D kA X)) (vp_Si post) 0 0 (fun _ => False) := by
  unfold wp_X10_fault at h
  refine x_enR (by decide) (Nat.le_of_ble_eq_true rfl) ?_
  intro p e s m below meth c G hr hlk hP ls hl
  obtain ⟨hx, hb, hml, hown, hts, hE, hK⟩ := id G
  have hl : lv_has ls 4 [(0, .ref v0)] := hl
  have J_4 : ∀ (n : Nat) (b4_1 : Int32) (b4_2 : Int32), ∀ (_ : bk_X10_fault_4 post X v0  n b4_1 b4_2), ∀ ls, lv_has ls 4 [(0, .ref v0), (1, .int b4_1), (2, .int b4_2)] → W p l e (rmO 0 0 0 0) s m [Value.ref v0].toArray below meth c s.heap [] 0 0 (MQ below (vp_Si post) [Value.ref v0].toArray s 0 0 (fun _ => False)) (F0 m 4 ls []) := by
    intro n
    induction n with
    | zero =>
      intro b4_1 b4_2 h ls hl
      rw [bk_X10_fault_4] at h
      exact h.elim
    | succ n_4 ih_4 =>
      have J_98 : ∀ (b98_1 : Int32) (b98_2 : Int32), ∀ (_ : bk_X10_fault_98 post X v0 (bk_X10_fault_4 post X v0 n_4) b98_1 b98_2), ∀ ls, lv_has ls 4 [(0, .ref v0), (1, .int b98_1), (2, .int b98_2)] → W p l e (rmO 0 0 0 0) s m [Value.ref v0].toArray below meth c s.heap [] 0 0 (MQ below (vp_Si post) [Value.ref v0].toArray s 0 0 (fun _ => False)) (F0 m 98 ls []) := by
        intro b98_1 b98_2 h ls hl
        unfold bk_X10_fault_98 at h
        obtain ⟨x17, ex17⟩ : ∃ y : Int32, y = b98_2 + (1 : Int32) := ⟨_, rfl⟩
        have h := h x17 ex17
        refine lv_iinc (v := x17) (lv' := [(2, .int x17), (0, .ref v0), (1, .int b98_1)]) hx hb dX10_fault_98 hl (k := 2) rfl (by rw [ex17]; rfl) (by decide) rfl (fun ls hl => ?_)
        refine lv_goto (tgt := 4) hx hb dX10_fault_101 (by decide) ?_
        exact ih_4 _ _ h ls (lv_sub hl [1, 2, 0] rfl)
      have J_91 : ∀ (b91_2 : Int32), ∀ (_ : bk_X10_fault_91 post X v0 (bk_X10_fault_4 post X v0 n_4) b91_2), ∀ ls, lv_has ls 4 [(0, .ref v0), (2, .int b91_2)] → W p l e (rmO 0 0 0 0) s m [Value.ref v0].toArray below meth c s.heap [] 0 0 (MQ below (vp_Si post) [Value.ref v0].toArray s 0 0 (fun _ => False)) (F0 m 91 ls []) := by
        intro b91_2 h ls hl
        unfold bk_X10_fault_91 at h
        refine lv_iconst (v := (0 : Int32)) hx hb dX10_fault_91 (by decide) ?_
        refine lv_istore_n (lv' := [(1, .int (0 : Int32)), (0, .ref v0), (2, .int b91_2)]) hx hb dX10_fault_92 rfl hl (by decide) rfl (fun ls hl => ?_)
        refine lv_goto (tgt := 98) hx hb dX10_fault_93 (by decide) ?_
        exact J_98 _ _ h ls (lv_sub hl [1, 0, 2] rfl)
      have J_52 : ∀ (b52_1 : Int32) (b52_2 : Int32) (b52_3 : Int32), ∀ (_ : bk_X10_fault_52 post X v0 (bk_X10_fault_4 post X v0 n_4) b52_1 b52_2 b52_3), ∀ ls, lv_has ls 4 [(0, .ref v0), (1, .int b52_1), (2, .int b52_2), (3, .int b52_3)] → W p l e (rmO 0 0 0 0) s m [Value.ref v0].toArray below meth c s.heap [] 0 0 (MQ below (vp_Si post) [Value.ref v0].toArray s 0 0 (fun _ => False)) (F0 m 52 ls []) := by
        intro b52_1 b52_2 b52_3 h ls hl
        unfold bk_X10_fault_52 at h
        refine lv_iload_n hx hb dX10_fault_52 rfl (lv_at hl 3 rfl) ?_
        refine lv_bipush (v := (51 : Int32)) hx hb dX10_fault_53 (by decide) ?_
        refine lv_icmp_ne (tgt := 63) hx hb dX10_fault_55 (by decide) (fun c18 => ?_) (fun c18 => ?_)
        · have h := h.1 c18
          refine lv_iload_n hx hb dX10_fault_63 rfl (lv_at hl 3 rfl) ?_
          refine lv_bipush (v := (49 : Int32)) hx hb dX10_fault_64 (by decide) ?_
          refine lv_icmp_eq (tgt := 91) hx hb dX10_fault_66 (by decide) (fun c19 => ?_) (fun c19 => ?_)
          · have h := h.1 c19
            exact J_91 _ h ls (lv_sub hl [0, 2] rfl)
          · have h := h.2 c19
            refine lv_iload_n hx hb dX10_fault_69 rfl (lv_at hl 3 rfl) ?_
            refine lv_bipush (v := (50 : Int32)) hx hb dX10_fault_70 (by decide) ?_
            refine lv_icmp_eq (tgt := 91) hx hb dX10_fault_72 (by decide) (fun c20 => ?_) (fun c20 => ?_)
            · have h := h.1 c20
              exact J_91 _ h ls (lv_sub hl [0, 2] rfl)
            · have h := h.2 c20
              refine lv_iload_n hx hb dX10_fault_75 rfl (lv_at hl 3 rfl) ?_
              refine lv_bipush (v := (108 : Int32)) hx hb dX10_fault_76 (by decide) ?_
              refine lv_icmp_eq (tgt := 91) hx hb dX10_fault_78 (by decide) (fun c21 => ?_) (fun c21 => ?_)
              · have h := h.1 c21
                exact J_91 _ h ls (lv_sub hl [0, 2] rfl)
              · have h := h.2 c21
                refine lv_iload_n hx hb dX10_fault_81 rfl (lv_at hl 3 rfl) ?_
                refine lv_bipush (v := (119 : Int32)) hx hb dX10_fault_82 (by decide) ?_
                refine lv_icmp_ne (tgt := 96) hx hb dX10_fault_84 (by decide) (fun c22 => ?_) (fun c22 => ?_)
                · have h := h.1 c22
                  refine lv_iload_n hx hb dX10_fault_96 rfl (lv_at hl 2 rfl) ?_
                  exact x_iretR G hr hlk h dX10_fault_97
                · have h := h.2 c22
                  refine lv_iload_n hx hb dX10_fault_87 rfl (lv_at hl 1 rfl) ?_
                  refine lv_if_ne (tgt := 96) hx hb dX10_fault_88 (by decide) (fun c23 => ?_) (fun c23 => ?_)
                  · have h := h.1 c23
                    refine lv_iload_n hx hb dX10_fault_96 rfl (lv_at hl 2 rfl) ?_
                    exact x_iretR G hr hlk h dX10_fault_97
                  · have h := h.2 c23
                    exact J_91 _ h ls (lv_sub hl [0, 2] rfl)
        · have h := h.2 c18
          refine lv_iconst (v := (2 : Int32)) hx hb dX10_fault_58 (by decide) ?_
          refine lv_istore_n (lv' := [(1, .int (2 : Int32)), (0, .ref v0), (2, .int b52_2), (3, .int b52_3)]) hx hb dX10_fault_59 rfl hl (by decide) rfl (fun ls hl => ?_)
          refine lv_goto (tgt := 98) hx hb dX10_fault_60 (by decide) ?_
          exact J_98 _ _ h ls (lv_sub hl [1, 0, 2] rfl)
      intro b4_1 b4_2 h ls hl
      rw [bk_X10_fault_4] at h
      refine lv_iload_n hx hb dX10_fault_4 rfl (lv_at hl 2 rfl) ?_
      refine lv_aload_n hx hb dX10_fault_5 rfl (lv_at hl 0 rfl) ?_
      obtain ⟨fs2, y3, hfs2, hvfs2, h⟩ := h
      refine x_get G hP hfs2 hvfs2 fl_X10_131 dX10_fault_6 ?_
      refine lv_icmp_ge (tgt := 104) hx hb dX10_fault_9 (by decide) (fun c4 => ?_) (fun c4 => ?_)
      · have h := h.1 c4
        refine lv_iload_n hx hb dX10_fault_104 rfl (lv_at hl 1 rfl) ?_
        refine lv_if_ne (tgt := 113) hx hb dX10_fault_105 (by decide) (fun c5 => ?_) (fun c5 => ?_)
        · have h := h.1 c5
          refine lv_aload_n hx hb dX10_fault_113 rfl (lv_at hl 0 rfl) ?_
          obtain ⟨fs6, y7, hfs6, hvfs6, h⟩ := h
          refine x_get G hP hfs6 hvfs6 fl_X10_131 dX10_fault_114 ?_
          exact x_iretR G hr hlk h dX10_fault_117
        · have h := h.2 c5
          refine lv_bipush (v := (-6 : Int32)) hx hb dX10_fault_108 (by decide) ?_
          refine lv_goto (tgt := 117) hx hb dX10_fault_110 (by decide) ?_
          exact x_iretR G hr hlk h dX10_fault_117
      · have h := h.2 c4
        refine lv_aload_n hx hb dX10_fault_12 rfl (lv_at hl 0 rfl) ?_
        obtain ⟨fs8, y9, hfs8, hvfs8, h⟩ := h
        refine x_get G hP hfs8 hvfs8 fl_X10_37 dX10_fault_13 ?_
        refine lv_iload_n hx hb dX10_fault_16 rfl (lv_at hl 2 rfl) ?_
        obtain ⟨n10, f11, hf11, hif11, h⟩ := h
        refine x_iald G hP hf11 hif11 dX10_fault_17 ?_
        refine lv_topi (fun x12 ex12 => ?_)
        have h := h x12 ex12
        refine lv_istore_n (lv' := [(3, .int x12), (0, .ref v0), (1, .int b4_1), (2, .int b4_2)]) hx hb dX10_fault_18 rfl hl (by decide) rfl (fun ls hl => ?_)
        refine lv_iload_n hx hb dX10_fault_19 rfl (lv_at hl 2 rfl) ?_
        refine lv_iconst (v := (2 : Int32)) hx hb dX10_fault_20 (by decide) ?_
        refine lv_icmp_ne (tgt := 37) hx hb dX10_fault_21 (by decide) (fun c13 => ?_) (fun c13 => ?_)
        · have h := h.1 c13
          refine lv_iload_n hx hb dX10_fault_37 rfl (lv_at hl 0 rfl) ?_
          refine lv_bipush (v := (33 : Int32)) hx hb dX10_fault_38 (by decide) ?_
          refine lv_icmp_ne (tgt := 52) hx hb dX10_fault_40 (by decide) (fun c14 => ?_) (fun c14 => ?_)
          · have h := h.1 c14
            exact J_52 _ _ _ h ls (lv_sub hl [1, 2, 3, 0] rfl)
          · have h := h.2 c14
            refine lv_iload_n hx hb dX10_fault_43 rfl (lv_at hl 2 rfl) ?_
            refine lv_if_ne (tgt := 52) hx hb dX10_fault_44 (by decide) (fun c15 => ?_) (fun c15 => ?_)
            · have h := h.1 c15
              exact J_52 _ _ _ h ls (lv_sub hl [1, 2, 3, 0] rfl)
            · have h := h.2 c15
              refine lv_iconst (v := (1 : Int32)) hx hb dX10_fault_47 (by decide) ?_
              refine lv_istore_n (lv' := [(1, .int (1 : Int32)), (3, .int x12), (0, .ref v0), (2, .int b4_2)]) hx hb dX10_fault_48 rfl hl (by decide) rfl (fun ls hl => ?_)
              refine lv_goto (tgt := 98) hx hb dX10_fault_49 (by decide) ?_
              exact J_98 _ _ h ls (lv_sub hl [2, 0, 3] rfl)
        · have h := h.2 c13
          refine lv_iload_n hx hb dX10_fault_24 rfl (lv_at hl 0 rfl) ?_
          refine lv_bipush (v := (46 : Int32)) hx hb dX10_fault_25 (by decide) ?_
          refine lv_icmp_eq (tgt := 32) hx hb dX10_fault_27 (by decide) (fun c16 => ?_) (fun c16 => ?_)
          · have h := h.1 c16
            refine lv_iconst (v := (0 : Int32)) hx hb dX10_fault_32 (by decide) ?_
            refine lv_istore_n (lv' := [(1, .int (0 : Int32)), (3, .int x12), (0, .ref v0), (2, .int b4_2)]) hx hb dX10_fault_33 rfl hl (by decide) rfl (fun ls hl => ?_)
            refine lv_goto (tgt := 98) hx hb dX10_fault_34 (by decide) ?_
            exact J_98 _ _ h ls (lv_sub hl [2, 0, 3] rfl)
          · have h := h.2 c16
            refine lv_iload_n hx hb dX10_fault_30 rfl (lv_at hl 3 rfl) ?_
            exact x_iretR G hr hlk h dX10_fault_31
  refine lv_iconst (v := (0 : Int32)) hx hb dX10_fault_0 (by decide) ?_
  refine lv_istore_n (lv' := [(1, .int (0 : Int32)), (0, .ref v0)]) hx hb dX10_fault_1 rfl hl (by decide) rfl (fun ls hl => ?_)
  refine lv_iconst (v := (0 : Int32)) hx hb dX10_fault_2 (by decide) ?_
  refine lv_istore_n (lv' := [(2, .int (0 : Int32)), (1, .int (0 : Int32)), (0, .ref v0)]) hx hb dX10_fault_3 rfl hl (by decide) rfl (fun ls hl => ?_)
  obtain ⟨n1, h⟩ := h
  exact J_4 n1 _ _ h ls (lv_sub hl [2, 1, 0] rfl)
def wp_X10_passHour (post : Hp → Prop) (X : Hp) (v0 : Nat) (v1 : Int32) (v2 : Int32) (v3 : Int32) : Prop := ∃ (fs1 : List Value) (y2 : Nat), Hs X v0 (.inr (10, fs1)) ∧ fs1[12]? = some (.ref y2) ∧ ∃ (fs3 : List Value) (y4 : Int32), Hs X v0 (.inr (10, fs3)) ∧ fs3[14]? = some (.int y4) ∧ ∃ (fs5 : List Value) (y6 : Nat), Hs X v0 (.inr (10, fs5)) ∧ fs5[5]? = some (.ref y6) ∧ ∃ (n7 : Nat) (f8 : Nat → Int32), Hs X y6 (.inl (0, n7, .inl f8)) ∧ vp_in (((48 : Int32) * v1) + v2) n7 ∧ ∃ (n9 : Nat) (f10 : Nat → Int32), Hs X y2 (.inl (0, n9, .inl f10)) ∧ vp_in y4 n9 ∧ ∀ X11 : Hp, X11 = hput X y2 (.inl (0, n9, .inl (upd f10 y4.toNatClampNeg (f8 (((48 : Int32) * v1) + v2).toNatClampNeg)))) → ∃ (fs12 : List Value) (y13 : Nat), Hs X11 v0 (.inr (10, fs12)) ∧ fs12[13]? = some (.ref y13) ∧ ∃ (fs14 : List Value) (y15 : Int32), Hs X11 v0 (.inr (10, fs14)) ∧ fs14[14]? = some (.int y15) ∧ ∃ (n16 : Nat) (f17 : Nat → Int32), Hs X11 y13 (.inl (0, n16, .inl f17)) ∧ vp_in y15 n16 ∧ ∀ X18 : Hp, X18 = hput X11 y13 (.inl (0, n16, .inl (upd f17 y15.toNatClampNeg v3))) → ∃ (fs19 : List Value) (y20 : Nat), Hs X18 v0 (.inr (10, fs19)) ∧ fs19[11]? = some (.ref y20) ∧ ∃ (fs21 : List Value) (y22 : Int32), Hs X18 v0 (.inr (10, fs21)) ∧ fs21[14]? = some (.int y22) ∧ ∃ (fs23 : List Value) (y24 : Nat), Hs X18 v0 (.inr (10, fs23)) ∧ fs23[12]? = some (.ref y24) ∧ ∃ (fs25 : List Value) (y26 : Int32), Hs X18 v0 (.inr (10, fs25)) ∧ fs25[14]? = some (.int y26) ∧ ∃ (n27 : Nat) (f28 : Nat → Int32), Hs X18 y24 (.inl (0, n27, .inl f28)) ∧ vp_in y26 n27 ∧ ∃ (n29 : Nat) (f30 : Nat → Int32), Hs X18 y20 (.inl (0, n29, .inl f30)) ∧ vp_in y22 n29 ∧ ∀ X31 : Hp, X31 = hput X18 y20 (.inl (0, n29, .inl (upd f30 y22.toNatClampNeg ((f28 y26.toNatClampNeg) * v3)))) → ∃ (fs32 : List Value) (y33 : Int32), Hs X31 v0 (.inr (10, fs32)) ∧ fs32[14]? = some (.int y33) ∧ ∃ (fs34 : List Value), Hs X31 v0 (.inr (10, fs34)) ∧ 14 < fs34.length ∧ ∀ X35 : Hp, X35 = hput X31 v0 (.inr (10, fs34.set 14 (.int (y33 + (1 : Int32))))) → post X35
set_option maxHeartbeats 4000000 in
set_option maxRecDepth 100000 in
theorem c_X10_passHour (l : Launch) (D : va_G) (kA : Nat → ClassId) (post : Hp → Prop) (X : Hp) (sz : Nat) (v0 : Nat) (v1 : Int32) (v2 : Int32) (v3 : Int32) (h : wp_X10_passHour post X v0 v1 v2 v3) : Met l yX10_passHour (.code yX10_passHour cX10_passHour 4 none :: gd) (rmO 0 0 0 0) (va_Pc [Value.ref v0, Value.int v1, Value.int v2, Value.int v3] (PreM D kA X sz)) (va_Qv post (PoM D kA X sz) (va_A (hw kA X) sz)) 0 0 (va_A (hw kA X) sz) := by
  unfold wp_X10_passHour at h
  refine x_enM (by decide) (Nat.le_of_ble_eq_true rfl) ?_
  intro p e s m below meth c G hr hlk hin hsz hA S ls hl
  obtain ⟨hx, hb, hml, hown, hts, hE, hK⟩ := id G
  have hl : lv_has ls 4 [(0, .ref v0), (1, .int v1), (2, .int v2), (3, .int v3)] := hl
  refine lv_aload_n hx hb dX10_passHour_0 rfl (lv_at hl 0 rfl) ?_
  obtain ⟨fs1, y2, hfs1, hvfs1, h⟩ := h
  refine x_get G S.1 hfs1 hvfs1 fl_X10_43 dX10_passHour_1 ?_
  refine lv_aload_n hx hb dX10_passHour_4 rfl (lv_at hl 0 rfl) ?_
  obtain ⟨fs3, y4, hfs3, hvfs3, h⟩ := h
  refine x_get G S.1 hfs3 hvfs3 fl_X10_135 dX10_passHour_5 ?_
  refine lv_aload_n hx hb dX10_passHour_8 rfl (lv_at hl 0 rfl) ?_
  obtain ⟨fs5, y6, hfs5, hvfs5, h⟩ := h
  refine x_get G S.1 hfs5 hvfs5 fl_X10_25 dX10_passHour_9 ?_
  refine lv_bipush (v := (48 : Int32)) hx hb dX10_passHour_12 (by decide) ?_
  refine lv_iload_n hx hb dX10_passHour_14 rfl (lv_at hl 1 rfl) ?_
  refine lv_imul hx hb dX10_passHour_15 ?_
  refine lv_iload_n hx hb dX10_passHour_16 rfl (lv_at hl 2 rfl) ?_
  refine lv_iadd hx hb dX10_passHour_17 ?_
  obtain ⟨n7, f8, hf8, hif8, h⟩ := h
  refine x_iald G S.1 hf8 hif8 dX10_passHour_18 ?_
  obtain ⟨n9, f10, hf10, hif10, h⟩ := h
  have h := h _ rfl
  refine x_iast G S hf10 hif10 dX10_passHour_19 (fun H locs S => ?_)
  refine lv_aload_n hx hb dX10_passHour_20 rfl (lv_at hl 0 rfl) ?_
  obtain ⟨fs12, y13, hfs12, hvfs12, h⟩ := h
  refine x_get G S.1 hfs12 hvfs12 fl_X10_46 dX10_passHour_21 ?_
  refine lv_aload_n hx hb dX10_passHour_24 rfl (lv_at hl 0 rfl) ?_
  obtain ⟨fs14, y15, hfs14, hvfs14, h⟩ := h
  refine x_get G S.1 hfs14 hvfs14 fl_X10_135 dX10_passHour_25 ?_
  refine lv_iload_n hx hb dX10_passHour_28 rfl (lv_at hl 3 rfl) ?_
  obtain ⟨n16, f17, hf17, hif17, h⟩ := h
  have h := h _ rfl
  refine x_iast G S hf17 hif17 dX10_passHour_29 (fun H locs S => ?_)
  refine lv_aload_n hx hb dX10_passHour_30 rfl (lv_at hl 0 rfl) ?_
  obtain ⟨fs19, y20, hfs19, hvfs19, h⟩ := h
  refine x_get G S.1 hfs19 hvfs19 fl_X10_40 dX10_passHour_31 ?_
  refine lv_aload_n hx hb dX10_passHour_34 rfl (lv_at hl 0 rfl) ?_
  obtain ⟨fs21, y22, hfs21, hvfs21, h⟩ := h
  refine x_get G S.1 hfs21 hvfs21 fl_X10_135 dX10_passHour_35 ?_
  refine lv_aload_n hx hb dX10_passHour_38 rfl (lv_at hl 0 rfl) ?_
  obtain ⟨fs23, y24, hfs23, hvfs23, h⟩ := h
  refine x_get G S.1 hfs23 hvfs23 fl_X10_43 dX10_passHour_39 ?_
  refine lv_aload_n hx hb dX10_passHour_42 rfl (lv_at hl 0 rfl) ?_
  obtain ⟨fs25, y26, hfs25, hvfs25, h⟩ := h
  refine x_get G S.1 hfs25 hvfs25 fl_X10_135 dX10_passHour_43 ?_
  obtain ⟨n27, f28, hf28, hif28, h⟩ := h
  refine x_iald G S.1 hf28 hif28 dX10_passHour_46 ?_
  refine lv_iload_n hx hb dX10_passHour_47 rfl (lv_at hl 3 rfl) ?_
  refine lv_imul hx hb dX10_passHour_48 ?_
  obtain ⟨n29, f30, hf30, hif30, h⟩ := h
  have h := h _ rfl
  refine x_iast G S hf30 hif30 dX10_passHour_49 (fun H locs S => ?_)
  refine lv_aload_n hx hb dX10_passHour_50 rfl (lv_at hl 0 rfl) ?_
  refine lv_dup hx hb dX10_passHour_51 rfl ?_
  obtain ⟨fs32, y33, hfs32, hvfs32, h⟩ := h
  refine x_get G S.1 hfs32 hvfs32 fl_X10_135 dX10_passHour_52 ?_
  refine lv_iconst (v := (1 : Int32)) hx hb dX10_passHour_55 (by decide) ?_
  refine lv_iadd hx hb dX10_passHour_56 ?_
  obtain ⟨fs34, hfs34, hkfs34, h⟩ := h
  have h := h _ rfl
  refine x_put G S hfs34 hkfs34 rfl rfl fw_X10_135 dX10_passHour_57 (fun H locs S => ?_)
  exact x_vretM G hr hlk S (Nat.le_refl _) (Nat.le_refl _) h dX10_passHour_60
def bk_X10_doThing_111 (post : Int32 → Hp → Prop) (v0 : Nat) (v1 : Int32) (v2 : Int32) (v3 : Int32)  (X : Hp) (b111_5 : Int32) (b111_s0 : Int32) (b111_s1 : Int32) : Prop := ∃ (fs34 : List Value), Hs X v0 (.inr (10, fs34)) ∧ 17 < fs34.length ∧ ∀ X35 : Hp, X35 = hput X v0 (.inr (10, fs34.set 17 (.int (b111_s1 + b111_s0)))) → (¬ v2 = (3 : Int32) → post (1 : Int32) X35) ∧ (v2 = (3 : Int32) → ∃ (fs37 : List Value) (y38 : Int32), Hs X35 v0 (.inr (10, fs37)) ∧ fs37[17]? = some (.int y38) ∧ ∃ fs44 : List Value, Hs X35 v0 (.inr (10, fs44)) ∧ wp_X10_passHour (fun X39 => ∃ (fs40 : List Value) (y41 : Int32), Hs X39 v0 (.inr (10, fs40)) ∧ fs40[17]? = some (.int y41) ∧ ∃ (fs42 : List Value), Hs X39 v0 (.inr (10, fs42)) ∧ 17 < fs42.length ∧ ∀ X43 : Hp, X43 = hput X39 v0 (.inr (10, fs42.set 17 (.int (y41 + (1 : Int32))))) → post (1 : Int32) X43)  X35 v0 v1 y38 b111_5)
def bk_X10_doThing_18 (post : Int32 → Hp → Prop) (v0 : Nat) (v1 : Int32) (v2 : Int32) (v3 : Int32)  (X : Hp) (b18_s0 : Int32) : Prop := ∃ (fs3 : List Value) (y4 : Int32), Hs X v0 (.inr (10, fs3)) ∧ fs3[17]? = some (.int y4) ∧ ∃ fs33 : List Value, Hs X v0 (.inr (10, fs33)) ∧ wp_X10_canBe (fun r5 => (r5 = 0 → post (0 : Int32) X) ∧ (¬ r5 = 0 → ∃ (fs7 : List Value) (y8 : Int32), Hs X v0 (.inr (10, fs7)) ∧ fs7[18]? = some (.int y8) ∧ (b18_s0 ≤ y8 → ∃ (fs10 : List Value) (y11 : Int32), Hs X v0 (.inr (10, fs10)) ∧ fs10[16]? = some (.int y11) ∧ ∃ fs32 : List Value, Hs X v0 (.inr (10, fs32)) ∧ wp_X10_blindOf (fun r12 => ∃ (fs13 : List Value) (y14 : Int32), Hs X v0 (.inr (10, fs13)) ∧ fs13[17]? = some (.int y14) ∧ ∃ fs31 : List Value, Hs X v0 (.inr (10, fs31)) ∧ wp_X10_passHour (fun X15 => ∃ (fs16 : List Value) (y17 : Int32), Hs X15 v0 (.inr (10, fs16)) ∧ fs16[17]? = some (.int y17) ∧ ∃ (fs18 : List Value) (y19 : Int32), Hs X15 v0 (.inr (10, fs18)) ∧ fs18[16]? = some (.int y19) ∧ ∃ fs30 : List Value, Hs X15 v0 (.inr (10, fs30)) ∧ wp_X10_owedBehind (fun r20 => ∃ (fs21 : List Value), Hs X15 v0 (.inr (10, fs21)) ∧ 16 < fs21.length ∧ ∀ X22 : Hp, X22 = hput X15 v0 (.inr (10, fs21.set 16 (.int r20))) → ∃ (fs23 : List Value) (y24 : Int32), Hs X22 v0 (.inr (10, fs23)) ∧ fs23[18]? = some (.int y24) ∧ ∃ (fs25 : List Value), Hs X22 v0 (.inr (10, fs25)) ∧ 18 < fs25.length ∧ ∀ X26 : Hp, X26 = hput X22 v0 (.inr (10, fs25.set 18 (.int (y24 - b18_s0)))) → ∃ (fs27 : List Value) (y28 : Int32), Hs X26 v0 (.inr (10, fs27)) ∧ fs27[17]? = some (.int y28) ∧ (¬ v2 = (4 : Int32) → bk_X10_doThing_111 post v0 v1 v2 v3 X26 r12 (1 : Int32) y28) ∧ (v2 = (4 : Int32) → bk_X10_doThing_111 post v0 v1 v2 v3 X26 r12 (0 : Int32) y28))  X15 v0 v1 y17 y19 v2)  X v0 v1 y14 r12)  X v0 y11 v2 v3) ∧ (¬ b18_s0 ≤ y8 → post (0 : Int32) X)))  X v0 v1 y4 v2
def wp_X10_doThing (post : Int32 → Hp → Prop) (X : Hp) (v0 : Nat) (v1 : Int32) (v2 : Int32) (v3 : Int32) : Prop := (¬ v3 = 0 → (¬ v2 = (3 : Int32) → bk_X10_doThing_18 post v0 v1 v2 v3 X (1 : Int32)) ∧ (v2 = (3 : Int32) → bk_X10_doThing_18 post v0 v1 v2 v3 X (2 : Int32))) ∧ (v3 = 0 → bk_X10_doThing_18 post v0 v1 v2 v3 X (0 : Int32))
set_option maxHeartbeats 4000000 in
set_option maxRecDepth 100000 in
theorem c_X10_doThing (l : Launch) (D : va_G) (kA : Nat → ClassId) (post : Int32 → Hp → Prop) (X : Hp) (sz : Nat) (v0 : Nat) (v1 : Int32) (v2 : Int32) (v3 : Int32) (h : wp_X10_doThing post X v0 v1 v2 v3) : Met l yX10_doThing (.code yX10_doThing cX10_doThing 6 (some .boolean) :: gd) (rmO 2 0 0 47) (va_Pc [Value.ref v0, Value.int v1, Value.int v2, Value.int v3] (PreM D kA X sz)) (va_Qi post (PoM D kA X sz) (va_A (hw kA X) sz)) 0 0 (va_A (hw kA X) sz) := by
  unfold wp_X10_doThing at h
  refine x_enM (by decide) (Nat.le_of_ble_eq_true rfl) ?_
  intro p e s m below meth c G hr hlk hin hsz hA S ls hl
  obtain ⟨hx, hb, hml, hown, hts, hE, hK⟩ := id G
  have hl : lv_has ls 6 [(0, .ref v0), (1, .int v1), (2, .int v2), (3, .int v3)] := hl
  obtain ⟨X0, hX0⟩ : ∃ Y : Hp, Y = X := ⟨_, rfl⟩
  subst hX0
  have J_111 : ∀ (X : Hp) (b111_5 : Int32) (b111_s0 : Int32) (b111_s1 : Int32), ∀ (H : Heap) (locs : List Loc) (_ : bk_X10_doThing_111 post v0 v1 v2 v3  X b111_5 b111_s0 b111_s1), Sx D kA (va_A (hw kA X0) sz) s.heap H locs X → ∀ ls, lv_has ls 6 [(0, .ref v0), (1, .int v1), (2, .int v2), (5, .int b111_5)] → W p l e (rmO 2 0 0 47) s m [Value.ref v0, Value.int v1, Value.int v2, Value.int v3].toArray below meth c H locs 0 0 (MQ below (va_Qi post (PoM D kA X0 sz) (va_A (hw kA X0) sz)) [Value.ref v0, Value.int v1, Value.int v2, Value.int v3].toArray s 0 0 (va_A (hw kA X0) sz)) (F0 m 111 ls [.int b111_s0, .int b111_s1, .ref v0]) := by
    intro X b111_5 b111_s0 b111_s1 H locs h S ls hl
    unfold bk_X10_doThing_111 at h
    refine lv_iadd hx hb dX10_doThing_111 ?_
    obtain ⟨fs34, hfs34, hkfs34, h⟩ := h
    have h := h _ rfl
    refine x_put G S hfs34 hkfs34 rfl rfl fw_X10_138 dX10_doThing_112 (fun H locs S => ?_)
    refine lv_iload_n hx hb dX10_doThing_115 rfl (lv_at hl 2 rfl) ?_
    refine lv_iconst (v := (3 : Int32)) hx hb dX10_doThing_116 (by decide) ?_
    refine lv_icmp_ne (tgt := 141) hx hb dX10_doThing_117 (by decide) (fun c36 => ?_) (fun c36 => ?_)
    · have h := h.1 c36
      refine lv_iconst (v := (1 : Int32)) hx hb dX10_doThing_141 (by decide) ?_
      exact x_zretM G hr hlk (Or.inr rfl) S (Nat.le_refl _) (Nat.le_refl _) h dX10_doThing_142
    · have h := h.2 c36
      refine lv_aload_n hx hb dX10_doThing_120 rfl (lv_at hl 0 rfl) ?_
      refine lv_iload_n hx hb dX10_doThing_121 rfl (lv_at hl 1 rfl) ?_
      refine lv_aload_n hx hb dX10_doThing_122 rfl (lv_at hl 0 rfl) ?_
      obtain ⟨fs37, y38, hfs37, hvfs37, h⟩ := h
      refine x_get G S.1 hfs37 hvfs37 fl_X10_138 dX10_doThing_123 ?_
      refine lv_iload hx hb dX10_doThing_126 (lv_at hl 3 rfl) ?_
      obtain ⟨fs44, hfs44, h⟩ := h
      refine x_cMVv (As := [.int v1, .int y38, .int b111_5]) (rest := []) G S hA hfs44 rfl rfl (c_X10_passHour l D kA _ _ _ v0 v1 y38 b111_5 h) cd_X10_passHour ml_X10_147 ⟨(Nat.le_of_ble_eq_true rfl), (Nat.le_of_ble_eq_true rfl)⟩ rfl hl.1 rfl (Nat.le_of_ble_eq_true rfl) dX10_doThing_128 ⟨Nat.zero_le _, Nat.zero_le _⟩ (fun X H locs h S => ?_)
      refine lv_aload_n hx hb dX10_doThing_131 rfl (lv_at hl 0 rfl) ?_
      refine lv_dup hx hb dX10_doThing_132 rfl ?_
      obtain ⟨fs40, y41, hfs40, hvfs40, h⟩ := h
      refine x_get G S.1 hfs40 hvfs40 fl_X10_138 dX10_doThing_133 ?_
      refine lv_iconst (v := (1 : Int32)) hx hb dX10_doThing_136 (by decide) ?_
      refine lv_iadd hx hb dX10_doThing_137 ?_
      obtain ⟨fs42, hfs42, hkfs42, h⟩ := h
      have h := h _ rfl
      refine x_put G S hfs42 hkfs42 rfl rfl fw_X10_138 dX10_doThing_138 (fun H locs S => ?_)
      refine lv_iconst (v := (1 : Int32)) hx hb dX10_doThing_141 (by decide) ?_
      exact x_zretM G hr hlk (Or.inr rfl) S (Nat.le_refl _) (Nat.le_refl _) h dX10_doThing_142
  have J_18 : ∀ (X : Hp) (b18_s0 : Int32), ∀ (H : Heap) (locs : List Loc) (_ : bk_X10_doThing_18 post v0 v1 v2 v3  X b18_s0), Sx D kA (va_A (hw kA X0) sz) s.heap H locs X → ∀ ls, lv_has ls 6 [(0, .ref v0), (1, .int v1), (2, .int v2), (3, .int v3)] → W p l e (rmO 2 0 0 47) s m [Value.ref v0, Value.int v1, Value.int v2, Value.int v3].toArray below meth c H locs 0 0 (MQ below (va_Qi post (PoM D kA X0 sz) (va_A (hw kA X0) sz)) [Value.ref v0, Value.int v1, Value.int v2, Value.int v3].toArray s 0 0 (va_A (hw kA X0) sz)) (F0 m 18 ls [.int b18_s0]) := by
    intro X b18_s0 H locs h S ls hl
    unfold bk_X10_doThing_18 at h
    refine lv_istore (lv' := [(4, .int b18_s0), (0, .ref v0), (1, .int v1), (2, .int v2), (3, .int v3)]) hx hb dX10_doThing_18 hl (by decide) rfl (fun ls hl => ?_)
    refine lv_aload_n hx hb dX10_doThing_20 rfl (lv_at hl 1 rfl) ?_
    refine lv_iload_n hx hb dX10_doThing_21 rfl (lv_at hl 2 rfl) ?_
    refine lv_aload_n hx hb dX10_doThing_22 rfl (lv_at hl 1 rfl) ?_
    obtain ⟨fs3, y4, hfs3, hvfs3, h⟩ := h
    refine x_get G S.1 hfs3 hvfs3 fl_X10_138 dX10_doThing_23 ?_
    refine lv_iload_n hx hb dX10_doThing_26 rfl (lv_at hl 3 rfl) ?_
    obtain ⟨fs33, hfs33, h⟩ := h
    refine x_cRVi (As := [.int v1, .int y4, .int v2]) (rest := []) G S.1 hfs33 rfl rfl (c_X10_canBe l D kA _ _ v0 v1 y4 v2 h) cd_X10_canBe ml_X10_115 ⟨(Nat.le_of_ble_eq_true rfl), (Nat.le_of_ble_eq_true rfl)⟩ rfl hl.1 rfl (Nat.le_of_ble_eq_true rfl) dX10_doThing_27 ⟨Nat.zero_le _, Nat.zero_le _⟩ (fun r5 h => ?_)
    refine lv_if_eq (tgt := 42) hx hb dX10_doThing_30 (by decide) (fun c6 => ?_) (fun c6 => ?_)
    · have h := h.1 c6
      refine lv_iconst (v := (0 : Int32)) hx hb dX10_doThing_42 (by decide) ?_
      exact x_zretM G hr hlk (Or.inl rfl) S (Nat.le_refl _) (Nat.le_refl _) h dX10_doThing_43
    · have h := h.2 c6
      refine lv_iload hx hb dX10_doThing_33 (lv_at hl 0 rfl) ?_
      refine lv_aload_n hx hb dX10_doThing_35 rfl (lv_at hl 1 rfl) ?_
      obtain ⟨fs7, y8, hfs7, hvfs7, h⟩ := h
      refine x_get G S.1 hfs7 hvfs7 fl_X10_141 dX10_doThing_36 ?_
      refine lv_icmp_le (tgt := 44) hx hb dX10_doThing_39 (by decide) (fun c9 => ?_) (fun c9 => ?_)
      · have h := h.1 c9
        refine lv_aload_n hx hb dX10_doThing_44 rfl (lv_at hl 1 rfl) ?_
        refine lv_aload_n hx hb dX10_doThing_45 rfl (lv_at hl 1 rfl) ?_
        obtain ⟨fs10, y11, hfs10, hvfs10, h⟩ := h
        refine x_get G S.1 hfs10 hvfs10 fl_X10_144 dX10_doThing_46 ?_
        refine lv_iload_n hx hb dX10_doThing_49 rfl (lv_at hl 3 rfl) ?_
        refine lv_iload_n hx hb dX10_doThing_50 rfl (lv_at hl 4 rfl) ?_
        obtain ⟨fs32, hfs32, h⟩ := h
        refine x_cRVi (As := [.int y11, .int v2, .int v3]) (rest := []) G S.1 hfs32 rfl rfl (c_X10_blindOf l D kA _ _ v0 y11 v2 v3 h) cd_X10_blindOf ml_X10_100 ⟨(Nat.le_of_ble_eq_true rfl), (Nat.le_of_ble_eq_true rfl)⟩ rfl hl.1 rfl (Nat.le_of_ble_eq_true rfl) dX10_doThing_51 ⟨Nat.zero_le _, Nat.zero_le _⟩ (fun r12 h => ?_)
        refine lv_istore (lv' := [(5, .int r12), (4, .int b18_s0), (0, .ref v0), (1, .int v1), (2, .int v2), (3, .int v3)]) hx hb dX10_doThing_54 hl (by decide) rfl (fun ls hl => ?_)
        refine lv_aload_n hx hb dX10_doThing_56 rfl (lv_at hl 2 rfl) ?_
        refine lv_iload_n hx hb dX10_doThing_57 rfl (lv_at hl 3 rfl) ?_
        refine lv_aload_n hx hb dX10_doThing_58 rfl (lv_at hl 2 rfl) ?_
        obtain ⟨fs13, y14, hfs13, hvfs13, h⟩ := h
        refine x_get G S.1 hfs13 hvfs13 fl_X10_138 dX10_doThing_59 ?_
        refine lv_iload hx hb dX10_doThing_62 (lv_at hl 0 rfl) ?_
        obtain ⟨fs31, hfs31, h⟩ := h
        refine x_cMVv (As := [.int v1, .int y14, .int r12]) (rest := []) G S hA hfs31 rfl rfl (c_X10_passHour l D kA _ _ _ v0 v1 y14 r12 h) cd_X10_passHour ml_X10_147 ⟨(Nat.le_of_ble_eq_true rfl), (Nat.le_of_ble_eq_true rfl)⟩ rfl hl.1 rfl (Nat.le_of_ble_eq_true rfl) dX10_doThing_64 ⟨Nat.zero_le _, Nat.zero_le _⟩ (fun X H locs h S => ?_)
        refine lv_aload_n hx hb dX10_doThing_67 rfl (lv_at hl 2 rfl) ?_
        refine lv_aload_n hx hb dX10_doThing_68 rfl (lv_at hl 2 rfl) ?_
        refine lv_iload_n hx hb dX10_doThing_69 rfl (lv_at hl 3 rfl) ?_
        refine lv_aload_n hx hb dX10_doThing_70 rfl (lv_at hl 2 rfl) ?_
        obtain ⟨fs16, y17, hfs16, hvfs16, h⟩ := h
        refine x_get G S.1 hfs16 hvfs16 fl_X10_138 dX10_doThing_71 ?_
        refine lv_aload_n hx hb dX10_doThing_74 rfl (lv_at hl 2 rfl) ?_
        obtain ⟨fs18, y19, hfs18, hvfs18, h⟩ := h
        refine x_get G S.1 hfs18 hvfs18 fl_X10_144 dX10_doThing_75 ?_
        refine lv_iload_n hx hb dX10_doThing_78 rfl (lv_at hl 4 rfl) ?_
        obtain ⟨fs30, hfs30, h⟩ := h
        refine x_cRVi (As := [.int v1, .int y17, .int y19, .int v2]) (rest := [.ref v0]) G S.1 hfs30 rfl rfl (c_X10_owedBehind l D kA _ _ v0 v1 y17 y19 v2 h) cd_X10_owedBehind ml_X10_119 ⟨(Nat.le_of_ble_eq_true rfl), (Nat.le_of_ble_eq_true rfl)⟩ rfl hl.1 rfl (Nat.le_of_ble_eq_true rfl) dX10_doThing_79 ⟨Nat.zero_le _, Nat.zero_le _⟩ (fun r20 h => ?_)
        obtain ⟨fs21, hfs21, hkfs21, h⟩ := h
        have h := h _ rfl
        refine x_put G S hfs21 hkfs21 rfl rfl fw_X10_144 dX10_doThing_82 (fun H locs S => ?_)
        refine lv_aload_n hx hb dX10_doThing_85 rfl (lv_at hl 2 rfl) ?_
        refine lv_dup hx hb dX10_doThing_86 rfl ?_
        obtain ⟨fs23, y24, hfs23, hvfs23, h⟩ := h
        refine x_get G S.1 hfs23 hvfs23 fl_X10_141 dX10_doThing_87 ?_
        refine lv_iload hx hb dX10_doThing_90 (lv_at hl 1 rfl) ?_
        refine lv_isub hx hb dX10_doThing_92 ?_
        obtain ⟨fs25, hfs25, hkfs25, h⟩ := h
        have h := h _ rfl
        refine x_put G S hfs25 hkfs25 rfl rfl fw_X10_141 dX10_doThing_93 (fun H locs S => ?_)
        refine lv_aload_n hx hb dX10_doThing_96 rfl (lv_at hl 2 rfl) ?_
        refine lv_dup hx hb dX10_doThing_97 rfl ?_
        obtain ⟨fs27, y28, hfs27, hvfs27, h⟩ := h
        refine x_get G S.1 hfs27 hvfs27 fl_X10_138 dX10_doThing_98 ?_
        refine lv_iload_n hx hb dX10_doThing_101 rfl (lv_at hl 4 rfl) ?_
        refine lv_iconst (v := (4 : Int32)) hx hb dX10_doThing_102 (by decide) ?_
        refine lv_icmp_ne (tgt := 110) hx hb dX10_doThing_103 (by decide) (fun c29 => ?_) (fun c29 => ?_)
        · have h := h.1 c29
          refine lv_iconst (v := (1 : Int32)) hx hb dX10_doThing_110 (by decide) ?_
          exact J_111 _ _ _ _ _ _ h S ls (lv_sub hl [2, 3, 4, 0] rfl)
        · have h := h.2 c29
          refine lv_iconst (v := (0 : Int32)) hx hb dX10_doThing_106 (by decide) ?_
          refine lv_goto (tgt := 111) hx hb dX10_doThing_107 (by decide) ?_
          exact J_111 _ _ _ _ _ _ h S ls (lv_sub hl [2, 3, 4, 0] rfl)
      · have h := h.2 c9
        refine lv_iconst (v := (0 : Int32)) hx hb dX10_doThing_42 (by decide) ?_
        exact x_zretM G hr hlk (Or.inl rfl) S (Nat.le_refl _) (Nat.le_refl _) h dX10_doThing_43
  refine lv_iload_n hx hb dX10_doThing_0 rfl (lv_at hl 3 rfl) ?_
  refine lv_if_ne (tgt := 8) hx hb dX10_doThing_1 (by decide) (fun c1 => ?_) (fun c1 => ?_)
  · have h := h.1 c1
    refine lv_iload_n hx hb dX10_doThing_8 rfl (lv_at hl 2 rfl) ?_
    refine lv_iconst (v := (3 : Int32)) hx hb dX10_doThing_9 (by decide) ?_
    refine lv_icmp_ne (tgt := 17) hx hb dX10_doThing_10 (by decide) (fun c2 => ?_) (fun c2 => ?_)
    · have h := h.1 c2
      refine lv_iconst (v := (1 : Int32)) hx hb dX10_doThing_17 (by decide) ?_
      exact J_18 _ _ _ _ h S ls (lv_sub hl [0, 1, 2, 3] rfl)
    · have h := h.2 c2
      refine lv_iconst (v := (2 : Int32)) hx hb dX10_doThing_13 (by decide) ?_
      refine lv_goto (tgt := 18) hx hb dX10_doThing_14 (by decide) ?_
      exact J_18 _ _ _ _ h S ls (lv_sub hl [0, 1, 2, 3] rfl)
  · have h := h.2 c1
    refine lv_iconst (v := (0 : Int32)) hx hb dX10_doThing_4 (by decide) ?_
    refine lv_goto (tgt := 18) hx hb dX10_doThing_5 (by decide) ?_
    exact J_18 _ _ _ _ h S ls (lv_sub hl [0, 1, 2, 3] rfl)
def bk_X10_judgeAll_133 (post : Hp → Prop) (v0 : Nat) (v1 : Int32) (v2 : Int32) (v3 : Int32) (r_35 : Hp → Int32 → Int32 → Int32 → Prop) (X : Hp) (b133_4 : Int32) (b133_5 : Int32) (b133_6 : Int32) : Prop := ∀ x27 : Int32, x27 = b133_6 + (1 : Int32) → r_35 X b133_4 b133_5 x27
def bk_X10_judgeAll_127 (post : Hp → Prop) (v0 : Nat) (v1 : Int32) (v2 : Int32) (v3 : Int32) (r_35 : Hp → Int32 → Int32 → Int32 → Prop) (X : Hp) (b127_4 : Int32) (b127_6 : Int32) : Prop := ∀ x34 : Int32, x34 = b127_4 + (1 : Int32) → bk_X10_judgeAll_133 post v0 v1 v2 v3 r_35 X x34 (0 : Int32) b127_6
def bk_X10_judgeAll_107 (post : Hp → Prop) (v0 : Nat) (v1 : Int32) (v2 : Int32) (v3 : Int32) (r_35 : Hp → Int32 → Int32 → Int32 → Prop) (X : Hp) (b107_4 : Int32) (b107_5 : Int32) (b107_6 : Int32) (b107_s0 : Int32) : Prop := ∃ fs33 : List Value, Hs X v0 (.inr (10, fs33)) ∧ wp_X10_doThing (fun r29 X28 => (¬ r29 = 0 → bk_X10_judgeAll_127 post v0 v1 v2 v3 r_35 X28 b107_4 b107_6) ∧ (r29 = 0 → ∃ (fs31 : List Value), Hs X28 v0 (.inr (10, fs31)) ∧ 15 < fs31.length ∧ ∀ X32 : Hp, X32 = hput X28 v0 (.inr (10, fs31.set 15 (.int b107_4))) → bk_X10_judgeAll_127 post v0 v1 v2 v3 r_35 X32 b107_4 b107_6))  X v0 v1 b107_s0 b107_5
def bk_X10_judgeAll_35 (post : Hp → Prop) (v0 : Nat) (v1 : Int32) (v2 : Int32) (v3 : Int32)  : Nat → Hp → Int32 → Int32 → Int32 → Prop
  | 0, _, _, _, _ => False
  | k + 1, X, b35_4, b35_5, b35_6 => ∃ (fs12 : List Value) (y13 : Int32), Hs X v0 (.inr (10, fs12)) ∧ fs12[10]? = some (.int y13) ∧ (y13 ≤ b35_6 → post X) ∧ (¬ y13 ≤ b35_6 → ∃ (fs15 : List Value) (y16 : Int32), Hs X v0 (.inr (10, fs15)) ∧ fs15[15]? = some (.int y16) ∧ (0 ≤ y16 → post X) ∧ (¬ 0 ≤ y16 → ∃ (fs18 : List Value) (y19 : Nat), Hs X v0 (.inr (10, fs18)) ∧ fs18[9]? = some (.ref y19) ∧ ∃ (n20 : Nat) (f21 : Nat → Int32), Hs X y19 (.inl (0, n20, .inl f21)) ∧ vp_in b35_6 n20 ∧ ∀ x22 : Int32, x22 = (f21 b35_6.toNatClampNeg) → (¬ x22 = (33 : Int32) → (x22 = (46 : Int32) → bk_X10_judgeAll_133 post v0 v1 v2 v3 (bk_X10_judgeAll_35 post v0 v1 v2 v3 k) X b35_4 b35_5 b35_6) ∧ (¬ x22 = (46 : Int32) → (¬ x22 = (119 : Int32) → (¬ x22 = (108 : Int32) → bk_X10_judgeAll_107 post v0 v1 v2 v3 (bk_X10_judgeAll_35 post v0 v1 v2 v3 k) X b35_4 b35_5 b35_6 ((x22 - (48 : Int32)))) ∧ (x22 = (108 : Int32) → bk_X10_judgeAll_107 post v0 v1 v2 v3 (bk_X10_judgeAll_35 post v0 v1 v2 v3 k) X b35_4 b35_5 b35_6 (4 : Int32))) ∧ (x22 = (119 : Int32) → bk_X10_judgeAll_107 post v0 v1 v2 v3 (bk_X10_judgeAll_35 post v0 v1 v2 v3 k) X b35_4 b35_5 b35_6 (0 : Int32)))) ∧ (x22 = (33 : Int32) → bk_X10_judgeAll_133 post v0 v1 v2 v3 (bk_X10_judgeAll_35 post v0 v1 v2 v3 k) X b35_4 (1 : Int32) b35_6)))
def wp_X10_judgeAll (post : Hp → Prop) (X : Hp) (v0 : Nat) (v1 : Int32) (v2 : Int32) (v3 : Int32) : Prop := ∃ (fs1 : List Value), Hs X v0 (.inr (10, fs1)) ∧ 14 < fs1.length ∧ ∀ X2 : Hp, X2 = hput X v0 (.inr (10, fs1.set 14 (.int (0 : Int32)))) → ∃ (fs3 : List Value), Hs X2 v0 (.inr (10, fs3)) ∧ 15 < fs3.length ∧ ∀ X4 : Hp, X4 = hput X2 v0 (.inr (10, fs3.set 15 (.int (-6 : Int32)))) → ∃ (fs5 : List Value), Hs X4 v0 (.inr (10, fs5)) ∧ 16 < fs5.length ∧ ∀ X6 : Hp, X6 = hput X4 v0 (.inr (10, fs5.set 16 (.int v2))) → ∃ (fs7 : List Value), Hs X6 v0 (.inr (10, fs7)) ∧ 17 < fs7.length ∧ ∀ X8 : Hp, X8 = hput X6 v0 (.inr (10, fs7.set 17 (.int (0 : Int32)))) → ∃ (fs9 : List Value), Hs X8 v0 (.inr (10, fs9)) ∧ 18 < fs9.length ∧ ∀ X10 : Hp, X10 = hput X8 v0 (.inr (10, fs9.set 18 (.int v3))) → ∃ n11 : Nat, bk_X10_judgeAll_35 post v0 v1 v2 v3 n11 X10 (0 : Int32) (0 : Int32) (0 : Int32)
set_option maxHeartbeats 4000000 in
set_option maxRecDepth 100000 in
theorem c_X10_judgeAll (l : Launch) (D : va_G) (kA : Nat → ClassId) (post : Hp → Prop) (X : Hp) (sz : Nat) (v0 : Nat) (v1 : Int32) (v2 : Int32) (v3 : Int32) (h : wp_X10_judgeAll post X v0 v1 v2 v3) : Met l yX10_judgeAll (.code yX10_judgeAll cX10_judgeAll 9 none :: gd) (rmO 3 0 0 72) (va_Pc [Value.ref v0, Value.int v1, Value.int v2, Value.int v3] (PreM D kA X sz)) (va_Qv post (PoM D kA X sz) (va_A (hw kA X) sz)) 0 0 (va_A (hw kA X) sz) := by
  unfold wp_X10_judgeAll at h
  refine x_enM (by decide) (Nat.le_of_ble_eq_true rfl) ?_
  intro p e s m below meth c G hr hlk hin hsz hA S ls hl
  obtain ⟨hx, hb, hml, hown, hts, hE, hK⟩ := id G
  have hl : lv_has ls 9 [(0, .ref v0), (1, .int v1), (2, .int v2), (3, .int v3)] := hl
  obtain ⟨X0, hX0⟩ : ∃ Y : Hp, Y = X := ⟨_, rfl⟩
  subst hX0
  have J_35 : ∀ (n : Nat) (X : Hp) (b35_4 : Int32) (b35_5 : Int32) (b35_6 : Int32), ∀ (H : Heap) (locs : List Loc) (_ : bk_X10_judgeAll_35 post v0 v1 v2 v3  n X b35_4 b35_5 b35_6), Sx D kA (va_A (hw kA X0) sz) s.heap H locs X → ∀ ls, lv_has ls 9 [(0, .ref v0), (1, .int v1), (4, .int b35_4), (5, .int b35_5), (6, .int b35_6)] → W p l e (rmO 3 0 0 72) s m [Value.ref v0, Value.int v1, Value.int v2, Value.int v3].toArray below meth c H locs 0 0 (MQ below (va_Qv post (PoM D kA X0 sz) (va_A (hw kA X0) sz)) [Value.ref v0, Value.int v1, Value.int v2, Value.int v3].toArray s 0 0 (va_A (hw kA X0) sz)) (F0 m 35 ls []) := by
    intro n
    induction n with
    | zero =>
      intro X b35_4 b35_5 b35_6 H locs h S ls hl
      rw [bk_X10_judgeAll_35] at h
      exact h.elim
    | succ n_35 ih_35 =>
      have J_133 : ∀ (X : Hp) (b133_4 : Int32) (b133_5 : Int32) (b133_6 : Int32), ∀ (H : Heap) (locs : List Loc) (_ : bk_X10_judgeAll_133 post v0 v1 v2 v3 (bk_X10_judgeAll_35 post v0 v1 v2 v3 n_35) X b133_4 b133_5 b133_6), Sx D kA (va_A (hw kA X0) sz) s.heap H locs X → ∀ ls, lv_has ls 9 [(0, .ref v0), (1, .int v1), (4, .int b133_4), (5, .int b133_5), (6, .int b133_6)] → W p l e (rmO 3 0 0 72) s m [Value.ref v0, Value.int v1, Value.int v2, Value.int v3].toArray below meth c H locs 0 0 (MQ below (va_Qv post (PoM D kA X0 sz) (va_A (hw kA X0) sz)) [Value.ref v0, Value.int v1, Value.int v2, Value.int v3].toArray s 0 0 (va_A (hw kA X0) sz)) (F0 m 133 ls []) := by
        intro X b133_4 b133_5 b133_6 H locs h S ls hl
        unfold bk_X10_judgeAll_133 at h
        obtain ⟨x27, ex27⟩ : ∃ y : Int32, y = b133_6 + (1 : Int32) := ⟨_, rfl⟩
        have h := h x27 ex27
        refine lv_iinc (v := x27) (lv' := [(6, .int x27), (0, .ref v0), (1, .int v1), (4, .int b133_4), (5, .int b133_5)]) hx hb dX10_judgeAll_133 hl (k := 4) rfl (by rw [ex27]; rfl) (by decide) rfl (fun ls hl => ?_)
        refine lv_goto (tgt := 35) hx hb dX10_judgeAll_136 (by decide) ?_
        exact ih_35 _ _ _ _ _ _ h S ls (lv_sub hl [1, 2, 3, 4, 0] rfl)
      have J_127 : ∀ (X : Hp) (b127_4 : Int32) (b127_6 : Int32), ∀ (H : Heap) (locs : List Loc) (_ : bk_X10_judgeAll_127 post v0 v1 v2 v3 (bk_X10_judgeAll_35 post v0 v1 v2 v3 n_35) X b127_4 b127_6), Sx D kA (va_A (hw kA X0) sz) s.heap H locs X → ∀ ls, lv_has ls 9 [(0, .ref v0), (1, .int v1), (4, .int b127_4), (6, .int b127_6)] → W p l e (rmO 3 0 0 72) s m [Value.ref v0, Value.int v1, Value.int v2, Value.int v3].toArray below meth c H locs 0 0 (MQ below (va_Qv post (PoM D kA X0 sz) (va_A (hw kA X0) sz)) [Value.ref v0, Value.int v1, Value.int v2, Value.int v3].toArray s 0 0 (va_A (hw kA X0) sz)) (F0 m 127 ls []) := by
        intro X b127_4 b127_6 H locs h S ls hl
        unfold bk_X10_judgeAll_127 at h
        obtain ⟨x34, ex34⟩ : ∃ y : Int32, y = b127_4 + (1 : Int32) := ⟨_, rfl⟩
        have h := h x34 ex34
        refine lv_iinc (v := x34) (lv' := [(4, .int x34), (0, .ref v0), (1, .int v1), (6, .int b127_6)]) hx hb dX10_judgeAll_127 hl (k := 2) rfl (by rw [ex34]; rfl) (by decide) rfl (fun ls hl => ?_)
        refine lv_iconst (v := (0 : Int32)) hx hb dX10_judgeAll_130 (by decide) ?_
        refine lv_istore (lv' := [(5, .int (0 : Int32)), (4, .int x34), (0, .ref v0), (1, .int v1), (6, .int b127_6)]) hx hb dX10_judgeAll_131 hl (by decide) rfl (fun ls hl => ?_)
        exact J_133 _ _ _ _ _ _ h S ls (lv_sub hl [2, 3, 1, 0, 4] rfl)
      have J_107 : ∀ (X : Hp) (b107_4 : Int32) (b107_5 : Int32) (b107_6 : Int32) (b107_s0 : Int32), ∀ (H : Heap) (locs : List Loc) (_ : bk_X10_judgeAll_107 post v0 v1 v2 v3 (bk_X10_judgeAll_35 post v0 v1 v2 v3 n_35) X b107_4 b107_5 b107_6 b107_s0), Sx D kA (va_A (hw kA X0) sz) s.heap H locs X → ∀ ls, lv_has ls 9 [(0, .ref v0), (1, .int v1), (4, .int b107_4), (5, .int b107_5), (6, .int b107_6)] → W p l e (rmO 3 0 0 72) s m [Value.ref v0, Value.int v1, Value.int v2, Value.int v3].toArray below meth c H locs 0 0 (MQ below (va_Qv post (PoM D kA X0 sz) (va_A (hw kA X0) sz)) [Value.ref v0, Value.int v1, Value.int v2, Value.int v3].toArray s 0 0 (va_A (hw kA X0) sz)) (F0 m 107 ls [.int b107_s0]) := by
        intro X b107_4 b107_5 b107_6 b107_s0 H locs h S ls hl
        unfold bk_X10_judgeAll_107 at h
        refine lv_istore (lv' := [(8, .int b107_s0), (0, .ref v0), (1, .int v1), (4, .int b107_4), (5, .int b107_5), (6, .int b107_6)]) hx hb dX10_judgeAll_107 hl (by decide) rfl (fun ls hl => ?_)
        refine lv_aload_n hx hb dX10_judgeAll_109 rfl (lv_at hl 1 rfl) ?_
        refine lv_iload_n hx hb dX10_judgeAll_110 rfl (lv_at hl 2 rfl) ?_
        refine lv_iload hx hb dX10_judgeAll_111 (lv_at hl 0 rfl) ?_
        refine lv_iload hx hb dX10_judgeAll_113 (lv_at hl 4 rfl) ?_
        obtain ⟨fs33, hfs33, h⟩ := h
        refine x_cMVi (As := [.int v1, .int b107_s0, .int b107_5]) (rest := []) G S hA hfs33 rfl rfl (c_X10_doThing l D kA _ _ _ v0 v1 b107_s0 b107_5 h) cd_X10_doThing ml_X10_154 ⟨(Nat.le_of_ble_eq_true rfl), (Nat.le_of_ble_eq_true rfl)⟩ rfl hl.1 rfl (Nat.le_of_ble_eq_true rfl) dX10_judgeAll_115 ⟨Nat.zero_le _, Nat.zero_le _⟩ (fun r29 X H locs h S => ?_)
        refine lv_if_ne (tgt := 127) hx hb dX10_judgeAll_118 (by decide) (fun c30 => ?_) (fun c30 => ?_)
        · have h := h.1 c30
          exact J_127 _ _ _ _ _ h S ls (lv_sub hl [1, 2, 3, 5] rfl)
        · have h := h.2 c30
          refine lv_aload_n hx hb dX10_judgeAll_121 rfl (lv_at hl 1 rfl) ?_
          refine lv_iload hx hb dX10_judgeAll_122 (lv_at hl 3 rfl) ?_
          obtain ⟨fs31, hfs31, hkfs31, h⟩ := h
          have h := h _ rfl
          refine x_put G S hfs31 hkfs31 rfl rfl fw_X10_151 dX10_judgeAll_124 (fun H locs S => ?_)
          exact J_127 _ _ _ _ _ h S ls (lv_sub hl [1, 2, 3, 5] rfl)
      intro X b35_4 b35_5 b35_6 H locs h S ls hl
      rw [bk_X10_judgeAll_35] at h
      refine lv_iload hx hb dX10_judgeAll_35 (lv_at hl 4 rfl) ?_
      refine lv_aload_n hx hb dX10_judgeAll_37 rfl (lv_at hl 0 rfl) ?_
      obtain ⟨fs12, y13, hfs12, hvfs12, h⟩ := h
      refine x_get G S.1 hfs12 hvfs12 fl_X10_131 dX10_judgeAll_38 ?_
      refine lv_icmp_ge (tgt := 139) hx hb dX10_judgeAll_41 (by decide) (fun c14 => ?_) (fun c14 => ?_)
      · have h := h.1 c14
        exact x_vretM G hr hlk S (Nat.le_refl _) (Nat.le_refl _) h dX10_judgeAll_139
      · have h := h.2 c14
        refine lv_aload_n hx hb dX10_judgeAll_44 rfl (lv_at hl 0 rfl) ?_
        obtain ⟨fs15, y16, hfs15, hvfs15, h⟩ := h
        refine x_get G S.1 hfs15 hvfs15 fl_X10_151 dX10_judgeAll_45 ?_
        refine lv_if_ge (tgt := 139) hx hb dX10_judgeAll_48 (by decide) (fun c17 => ?_) (fun c17 => ?_)
        · have h := h.1 c17
          exact x_vretM G hr hlk S (Nat.le_refl _) (Nat.le_refl _) h dX10_judgeAll_139
        · have h := h.2 c17
          refine lv_aload_n hx hb dX10_judgeAll_51 rfl (lv_at hl 0 rfl) ?_
          obtain ⟨fs18, y19, hfs18, hvfs18, h⟩ := h
          refine x_get G S.1 hfs18 hvfs18 fl_X10_37 dX10_judgeAll_52 ?_
          refine lv_iload hx hb dX10_judgeAll_55 (lv_at hl 4 rfl) ?_
          obtain ⟨n20, f21, hf21, hif21, h⟩ := h
          refine x_iald G S.1 hf21 hif21 dX10_judgeAll_57 ?_
          refine lv_topi (fun x22 ex22 => ?_)
          have h := h x22 ex22
          refine lv_istore (lv' := [(7, .int x22), (0, .ref v0), (1, .int v1), (4, .int b35_4), (5, .int b35_5), (6, .int b35_6)]) hx hb dX10_judgeAll_58 hl (by decide) rfl (fun ls hl => ?_)
          refine lv_iload hx hb dX10_judgeAll_60 (lv_at hl 0 rfl) ?_
          refine lv_bipush (v := (33 : Int32)) hx hb dX10_judgeAll_62 (by decide) ?_
          refine lv_icmp_ne (tgt := 73) hx hb dX10_judgeAll_64 (by decide) (fun c23 => ?_) (fun c23 => ?_)
          · have h := h.1 c23
            refine lv_iload hx hb dX10_judgeAll_73 (lv_at hl 0 rfl) ?_
            refine lv_bipush (v := (46 : Int32)) hx hb dX10_judgeAll_75 (by decide) ?_
            refine lv_icmp_eq (tgt := 133) hx hb dX10_judgeAll_77 (by decide) (fun c24 => ?_) (fun c24 => ?_)
            · have h := h.1 c24
              exact J_133 _ _ _ _ _ _ h S ls (lv_sub hl [1, 2, 3, 4, 5] rfl)
            · have h := h.2 c24
              refine lv_iload hx hb dX10_judgeAll_80 (lv_at hl 0 rfl) ?_
              refine lv_bipush (v := (119 : Int32)) hx hb dX10_judgeAll_82 (by decide) ?_
              refine lv_icmp_ne (tgt := 91) hx hb dX10_judgeAll_84 (by decide) (fun c25 => ?_) (fun c25 => ?_)
              · have h := h.1 c25
                refine lv_iload hx hb dX10_judgeAll_91 (lv_at hl 0 rfl) ?_
                refine lv_bipush (v := (108 : Int32)) hx hb dX10_judgeAll_93 (by decide) ?_
                refine lv_icmp_ne (tgt := 102) hx hb dX10_judgeAll_95 (by decide) (fun c26 => ?_) (fun c26 => ?_)
                · have h := h.1 c26
                  refine lv_iload hx hb dX10_judgeAll_102 (lv_at hl 0 rfl) ?_
                  refine lv_bipush (v := (48 : Int32)) hx hb dX10_judgeAll_104 (by decide) ?_
                  refine lv_isub hx hb dX10_judgeAll_106 ?_
                  exact J_107 _ _ _ _ _ _ _ h S ls (lv_sub hl [1, 2, 3, 4, 5] rfl)
                · have h := h.2 c26
                  refine lv_iconst (v := (4 : Int32)) hx hb dX10_judgeAll_98 (by decide) ?_
                  refine lv_goto (tgt := 107) hx hb dX10_judgeAll_99 (by decide) ?_
                  exact J_107 _ _ _ _ _ _ _ h S ls (lv_sub hl [1, 2, 3, 4, 5] rfl)
              · have h := h.2 c25
                refine lv_iconst (v := (0 : Int32)) hx hb dX10_judgeAll_87 (by decide) ?_
                refine lv_goto (tgt := 107) hx hb dX10_judgeAll_88 (by decide) ?_
                exact J_107 _ _ _ _ _ _ _ h S ls (lv_sub hl [1, 2, 3, 4, 5] rfl)
          · have h := h.2 c23
            refine lv_iconst (v := (1 : Int32)) hx hb dX10_judgeAll_67 (by decide) ?_
            refine lv_istore (lv' := [(5, .int (1 : Int32)), (7, .int x22), (0, .ref v0), (1, .int v1), (4, .int b35_4), (6, .int b35_6)]) hx hb dX10_judgeAll_68 hl (by decide) rfl (fun ls hl => ?_)
            refine lv_goto (tgt := 133) hx hb dX10_judgeAll_70 (by decide) ?_
            exact J_133 _ _ _ _ _ _ h S ls (lv_sub hl [2, 3, 4, 0, 5] rfl)
  refine lv_aload_n hx hb dX10_judgeAll_0 rfl (lv_at hl 0 rfl) ?_
  refine lv_iconst (v := (0 : Int32)) hx hb dX10_judgeAll_1 (by decide) ?_
  obtain ⟨fs1, hfs1, hkfs1, h⟩ := h
  have h := h _ rfl
  refine x_put G S hfs1 hkfs1 rfl rfl fw_X10_135 dX10_judgeAll_2 (fun H locs S => ?_)
  refine lv_aload_n hx hb dX10_judgeAll_5 rfl (lv_at hl 0 rfl) ?_
  refine lv_bipush (v := (-6 : Int32)) hx hb dX10_judgeAll_6 (by decide) ?_
  obtain ⟨fs3, hfs3, hkfs3, h⟩ := h
  have h := h _ rfl
  refine x_put G S hfs3 hkfs3 rfl rfl fw_X10_151 dX10_judgeAll_8 (fun H locs S => ?_)
  refine lv_aload_n hx hb dX10_judgeAll_11 rfl (lv_at hl 0 rfl) ?_
  refine lv_iload_n hx hb dX10_judgeAll_12 rfl (lv_at hl 2 rfl) ?_
  obtain ⟨fs5, hfs5, hkfs5, h⟩ := h
  have h := h _ rfl
  refine x_put G S hfs5 hkfs5 rfl rfl fw_X10_144 dX10_judgeAll_13 (fun H locs S => ?_)
  refine lv_aload_n hx hb dX10_judgeAll_16 rfl (lv_at hl 0 rfl) ?_
  refine lv_iconst (v := (0 : Int32)) hx hb dX10_judgeAll_17 (by decide) ?_
  obtain ⟨fs7, hfs7, hkfs7, h⟩ := h
  have h := h _ rfl
  refine x_put G S hfs7 hkfs7 rfl rfl fw_X10_138 dX10_judgeAll_18 (fun H locs S => ?_)
  refine lv_aload_n hx hb dX10_judgeAll_21 rfl (lv_at hl 0 rfl) ?_
  refine lv_iload_n hx hb dX10_judgeAll_22 rfl (lv_at hl 3 rfl) ?_
  obtain ⟨fs9, hfs9, hkfs9, h⟩ := h
  have h := h _ rfl
  refine x_put G S hfs9 hkfs9 rfl rfl fw_X10_141 dX10_judgeAll_23 (fun H locs S => ?_)
  refine lv_iconst (v := (0 : Int32)) hx hb dX10_judgeAll_26 (by decide) ?_
  refine lv_istore (lv' := [(4, .int (0 : Int32)), (0, .ref v0), (1, .int v1), (2, .int v2), (3, .int v3)]) hx hb dX10_judgeAll_27 hl (by decide) rfl (fun ls hl => ?_)
  refine lv_iconst (v := (0 : Int32)) hx hb dX10_judgeAll_29 (by decide) ?_
  refine lv_istore (lv' := [(5, .int (0 : Int32)), (4, .int (0 : Int32)), (0, .ref v0), (1, .int v1), (2, .int v2), (3, .int v3)]) hx hb dX10_judgeAll_30 hl (by decide) rfl (fun ls hl => ?_)
  refine lv_iconst (v := (0 : Int32)) hx hb dX10_judgeAll_32 (by decide) ?_
  refine lv_istore (lv' := [(6, .int (0 : Int32)), (5, .int (0 : Int32)), (4, .int (0 : Int32)), (0, .ref v0), (1, .int v1), (2, .int v2), (3, .int v3)]) hx hb dX10_judgeAll_33 hl (by decide) rfl (fun ls hl => ?_)
  obtain ⟨n11, h⟩ := h
  exact J_35 n11 _ _ _ _ _ _ h S ls (lv_sub hl [3, 4, 2, 1, 0] rfl)
def bk_X10_safeOfTimes_10 (post : Int32 → Prop) (X : Hp) (v0 : Nat)  : Nat → Int32 → Int32 → Prop
  | 0, _, _ => False
  | k + 1, b10_1, b10_2 => (b10_2 < 0 → post b10_1) ∧ (¬ b10_2 < 0 → ∃ (fs6 : List Value) (y7 : Nat), Hs X v0 (.inr (10, fs6)) ∧ fs6[11]? = some (.ref y7) ∧ ∃ (n8 : Nat) (f9 : Nat → Int32), Hs X y7 (.inl (0, n8, .inl f9)) ∧ vp_in b10_2 n8 ∧ wp_X10_lessened (fun r10 => ∀ x11 : Int32, x11 = b10_2 + (-1 : Int32) → (bk_X10_safeOfTimes_10 post X v0 k) r10 x11) X b10_1 (f9 b10_2.toNatClampNeg))
def wp_X10_safeOfTimes (post : Int32 → Prop) (X : Hp) (v0 : Nat) : Prop := ∃ (fs1 : List Value) (y2 : Int32), Hs X v0 (.inr (10, fs1)) ∧ fs1[14]? = some (.int y2) ∧ ∀ x3 : Int32, x3 = (y2 - (1 : Int32)) → ∃ n4 : Nat, bk_X10_safeOfTimes_10 post X v0 n4 (1000000 : Int32) x3
set_option maxHeartbeats 4000000 in
set_option maxRecDepth 100000 in
theorem c_X10_safeOfTimes (l : Launch) (D : va_G) (kA : Nat → ClassId) (post : Int32 → Prop) (X : Hp) (v0 : Nat) (h : wp_X10_safeOfTimes post X v0) : Met l yX10_safeOfTimes (.code yX10_safeOfTimes cX10_safeOfTimes 3 (some .int) :: gd) (rmO 1 0 0 21) (va_Pc [Value.ref v0] (Pre D kA X)) (vp_Si post) 0 0 (fun _ => False) := by
  unfold wp_X10_safeOfTimes at h
  refine x_enR (by decide) (Nat.le_of_ble_eq_true rfl) ?_
  intro p e s m below meth c G hr hlk hP ls hl
  obtain ⟨hx, hb, hml, hown, hts, hE, hK⟩ := id G
  have hl : lv_has ls 3 [(0, .ref v0)] := hl
  have J_10 : ∀ (n : Nat) (b10_1 : Int32) (b10_2 : Int32), ∀ (_ : bk_X10_safeOfTimes_10 post X v0  n b10_1 b10_2), ∀ ls, lv_has ls 3 [(0, .ref v0), (1, .int b10_1), (2, .int b10_2)] → W p l e (rmO 1 0 0 21) s m [Value.ref v0].toArray below meth c s.heap [] 0 0 (MQ below (vp_Si post) [Value.ref v0].toArray s 0 0 (fun _ => False)) (F0 m 10 ls []) := by
    intro n
    induction n with
    | zero =>
      intro b10_1 b10_2 h ls hl
      rw [bk_X10_safeOfTimes_10] at h
      exact h.elim
    | succ n_10 ih_10 =>
      intro b10_1 b10_2 h ls hl
      rw [bk_X10_safeOfTimes_10] at h
      refine lv_iload_n hx hb dX10_safeOfTimes_10 rfl (lv_at hl 2 rfl) ?_
      refine lv_if_lt (tgt := 31) hx hb dX10_safeOfTimes_11 (by decide) (fun c5 => ?_) (fun c5 => ?_)
      · have h := h.1 c5
        refine lv_iload_n hx hb dX10_safeOfTimes_31 rfl (lv_at hl 1 rfl) ?_
        exact x_iretR G hr hlk h dX10_safeOfTimes_32
      · have h := h.2 c5
        refine lv_iload_n hx hb dX10_safeOfTimes_14 rfl (lv_at hl 1 rfl) ?_
        refine lv_aload_n hx hb dX10_safeOfTimes_15 rfl (lv_at hl 0 rfl) ?_
        obtain ⟨fs6, y7, hfs6, hvfs6, h⟩ := h
        refine x_get G hP hfs6 hvfs6 fl_X10_40 dX10_safeOfTimes_16 ?_
        refine lv_iload_n hx hb dX10_safeOfTimes_19 rfl (lv_at hl 2 rfl) ?_
        obtain ⟨n8, f9, hf9, hif9, h⟩ := h
        refine x_iald G hP hf9 hif9 dX10_safeOfTimes_20 ?_
        refine x_cRSi (As := [.int b10_1, .int (f9 b10_2.toNatClampNeg)]) (rest := []) G hP (c_X10_lessened l D kA _ _ b10_1 (f9 b10_2.toNatClampNeg) h) cd_X10_lessened ml_X10_157 ⟨(Nat.le_of_ble_eq_true rfl), (Nat.le_of_ble_eq_true rfl)⟩ rfl hl.1 rfl (Nat.le_of_ble_eq_true rfl) dX10_safeOfTimes_21 ⟨Nat.zero_le _, Nat.zero_le _⟩ (fun r10 h => ?_)
        refine lv_istore_n (lv' := [(1, .int r10), (0, .ref v0), (2, .int b10_2)]) hx hb dX10_safeOfTimes_24 rfl hl (by decide) rfl (fun ls hl => ?_)
        obtain ⟨x11, ex11⟩ : ∃ y : Int32, y = b10_2 + (-1 : Int32) := ⟨_, rfl⟩
        have h := h x11 ex11
        refine lv_iinc (v := x11) (lv' := [(2, .int x11), (1, .int r10), (0, .ref v0)]) hx hb dX10_safeOfTimes_25 hl (k := 2) rfl (by rw [ex11]; rfl) (by decide) rfl (fun ls hl => ?_)
        refine lv_goto (tgt := 10) hx hb dX10_safeOfTimes_28 (by decide) ?_
        exact ih_10 _ _ h ls (lv_sub hl [2, 1, 0] rfl)
  refine lv_ldc hx hb hown (hts _ kc_X10_104) dX10_safeOfTimes_0 ?_
  refine lv_istore_n (lv' := [(1, .int (1000000 : Int32)), (0, .ref v0)]) hx hb dX10_safeOfTimes_2 rfl hl (by decide) rfl (fun ls hl => ?_)
  refine lv_aload_n hx hb dX10_safeOfTimes_3 rfl (lv_at hl 1 rfl) ?_
  obtain ⟨fs1, y2, hfs1, hvfs1, h⟩ := h
  refine x_get G hP hfs1 hvfs1 fl_X10_135 dX10_safeOfTimes_4 ?_
  refine lv_iconst (v := (1 : Int32)) hx hb dX10_safeOfTimes_7 (by decide) ?_
  refine lv_isub hx hb dX10_safeOfTimes_8 ?_
  refine lv_topi (fun x3 ex3 => ?_)
  have h := h x3 ex3
  refine lv_istore_n (lv' := [(2, .int x3), (1, .int (1000000 : Int32)), (0, .ref v0)]) hx hb dX10_safeOfTimes_9 rfl hl (by decide) rfl (fun ls hl => ?_)
  obtain ⟨n4, h⟩ := h
  exact J_10 n4 _ _ h ls (lv_sub hl [2, 1, 0] rfl)
def bk_X10_mostRisk_37 (post : Int32 → Prop) (X : Hp) (v0 : Nat) (r_5 : Int32 → Int32 → Prop) (b37_2 : Int32) (b37_s0 : Int32) : Prop := ∀ x15 : Int32, x15 = b37_2 + (1 : Int32) → r_5 b37_s0 x15
def bk_X10_mostRisk_32 (post : Int32 → Prop) (X : Hp) (v0 : Nat) (r_5 : Int32 → Int32 → Prop) (b32_2 : Int32) : Prop := bk_X10_mostRisk_37 post X v0 r_5 b32_2 b32_2
def bk_X10_mostRisk_5 (post : Int32 → Prop) (X : Hp) (v0 : Nat)  : Nat → Int32 → Int32 → Prop
  | 0, _, _ => False
  | k + 1, b5_1, b5_2 => ∃ (fs2 : List Value) (y3 : Int32), Hs X v0 (.inr (10, fs2)) ∧ fs2[14]? = some (.int y3) ∧ (y3 ≤ b5_2 → post b5_1) ∧ (¬ y3 ≤ b5_2 → (b5_1 < 0 → bk_X10_mostRisk_32 post X v0 (bk_X10_mostRisk_5 post X v0 k) b5_2) ∧ (¬ b5_1 < 0 → ∃ (fs6 : List Value) (y7 : Nat), Hs X v0 (.inr (10, fs6)) ∧ fs6[11]? = some (.ref y7) ∧ ∃ (n8 : Nat) (f9 : Nat → Int32), Hs X y7 (.inl (0, n8, .inl f9)) ∧ vp_in b5_2 n8 ∧ ∃ (fs10 : List Value) (y11 : Nat), Hs X v0 (.inr (10, fs10)) ∧ fs10[11]? = some (.ref y11) ∧ ∃ (n12 : Nat) (f13 : Nat → Int32), Hs X y11 (.inl (0, n12, .inl f13)) ∧ vp_in b5_1 n12 ∧ ((f9 b5_2.toNatClampNeg) ≤ (f13 b5_1.toNatClampNeg) → bk_X10_mostRisk_37 post X v0 (bk_X10_mostRisk_5 post X v0 k) b5_2 b5_1) ∧ (¬ (f9 b5_2.toNatClampNeg) ≤ (f13 b5_1.toNatClampNeg) → bk_X10_mostRisk_32 post X v0 (bk_X10_mostRisk_5 post X v0 k) b5_2)))
def wp_X10_mostRisk (post : Int32 → Prop) (X : Hp) (v0 : Nat) : Prop := ∃ n1 : Nat, bk_X10_mostRisk_5 post X v0 n1 (-6 : Int32) (0 : Int32)
set_option maxHeartbeats 4000000 in
set_option maxRecDepth 100000 in
theorem c_X10_mostRisk (l : Launch) (D : va_G) (kA : Nat → ClassId) (post : Int32 → Prop) (X : Hp) (v0 : Nat) (h : wp_X10_mostRisk post X v0) : Met l yX10_mostRisk (.code yX10_mostRisk cX10_mostRisk 3 (some .int) :: gd) (rmO 0 0 0 0) (va_Pc [Value.ref v0] (Pre D kA X)) (vp_Si post) 0 0 (fun _ => False) := by
  unfold wp_X10_mostRisk at h
  refine x_enR (by decide) (Nat.le_of_ble_eq_true rfl) ?_
  intro p e s m below meth c G hr hlk hP ls hl
  obtain ⟨hx, hb, hml, hown, hts, hE, hK⟩ := id G
  have hl : lv_has ls 3 [(0, .ref v0)] := hl
  have J_5 : ∀ (n : Nat) (b5_1 : Int32) (b5_2 : Int32), ∀ (_ : bk_X10_mostRisk_5 post X v0  n b5_1 b5_2), ∀ ls, lv_has ls 3 [(0, .ref v0), (1, .int b5_1), (2, .int b5_2)] → W p l e (rmO 0 0 0 0) s m [Value.ref v0].toArray below meth c s.heap [] 0 0 (MQ below (vp_Si post) [Value.ref v0].toArray s 0 0 (fun _ => False)) (F0 m 5 ls []) := by
    intro n
    induction n with
    | zero =>
      intro b5_1 b5_2 h ls hl
      rw [bk_X10_mostRisk_5] at h
      exact h.elim
    | succ n_5 ih_5 =>
      have J_37 : ∀ (b37_2 : Int32) (b37_s0 : Int32), ∀ (_ : bk_X10_mostRisk_37 post X v0 (bk_X10_mostRisk_5 post X v0 n_5) b37_2 b37_s0), ∀ ls, lv_has ls 3 [(0, .ref v0), (2, .int b37_2)] → W p l e (rmO 0 0 0 0) s m [Value.ref v0].toArray below meth c s.heap [] 0 0 (MQ below (vp_Si post) [Value.ref v0].toArray s 0 0 (fun _ => False)) (F0 m 37 ls [.int b37_s0]) := by
        intro b37_2 b37_s0 h ls hl
        unfold bk_X10_mostRisk_37 at h
        refine lv_istore_n (lv' := [(1, .int b37_s0), (0, .ref v0), (2, .int b37_2)]) hx hb dX10_mostRisk_37 rfl hl (by decide) rfl (fun ls hl => ?_)
        obtain ⟨x15, ex15⟩ : ∃ y : Int32, y = b37_2 + (1 : Int32) := ⟨_, rfl⟩
        have h := h x15 ex15
        refine lv_iinc (v := x15) (lv' := [(2, .int x15), (1, .int b37_s0), (0, .ref v0)]) hx hb dX10_mostRisk_38 hl (k := 2) rfl (by rw [ex15]; rfl) (by decide) rfl (fun ls hl => ?_)
        refine lv_goto (tgt := 5) hx hb dX10_mostRisk_41 (by decide) ?_
        exact ih_5 _ _ h ls (lv_sub hl [2, 1, 0] rfl)
      have J_32 : ∀ (b32_2 : Int32), ∀ (_ : bk_X10_mostRisk_32 post X v0 (bk_X10_mostRisk_5 post X v0 n_5) b32_2), ∀ ls, lv_has ls 3 [(0, .ref v0), (2, .int b32_2)] → W p l e (rmO 0 0 0 0) s m [Value.ref v0].toArray below meth c s.heap [] 0 0 (MQ below (vp_Si post) [Value.ref v0].toArray s 0 0 (fun _ => False)) (F0 m 32 ls []) := by
        intro b32_2 h ls hl
        unfold bk_X10_mostRisk_32 at h
        refine lv_iload_n hx hb dX10_mostRisk_32 rfl (lv_at hl 1 rfl) ?_
        refine lv_goto (tgt := 37) hx hb dX10_mostRisk_33 (by decide) ?_
        exact J_37 _ _ h ls (lv_sub hl [0, 1] rfl)
      intro b5_1 b5_2 h ls hl
      rw [bk_X10_mostRisk_5] at h
      refine lv_iload_n hx hb dX10_mostRisk_5 rfl (lv_at hl 2 rfl) ?_
      refine lv_aload_n hx hb dX10_mostRisk_6 rfl (lv_at hl 0 rfl) ?_
      obtain ⟨fs2, y3, hfs2, hvfs2, h⟩ := h
      refine x_get G hP hfs2 hvfs2 fl_X10_135 dX10_mostRisk_7 ?_
      refine lv_icmp_ge (tgt := 44) hx hb dX10_mostRisk_10 (by decide) (fun c4 => ?_) (fun c4 => ?_)
      · have h := h.1 c4
        refine lv_iload_n hx hb dX10_mostRisk_44 rfl (lv_at hl 1 rfl) ?_
        exact x_iretR G hr hlk h dX10_mostRisk_45
      · have h := h.2 c4
        refine lv_iload_n hx hb dX10_mostRisk_13 rfl (lv_at hl 1 rfl) ?_
        refine lv_if_lt (tgt := 32) hx hb dX10_mostRisk_14 (by decide) (fun c5 => ?_) (fun c5 => ?_)
        · have h := h.1 c5
          exact J_32 _ h ls (lv_sub hl [0, 2] rfl)
        · have h := h.2 c5
          refine lv_aload_n hx hb dX10_mostRisk_17 rfl (lv_at hl 0 rfl) ?_
          obtain ⟨fs6, y7, hfs6, hvfs6, h⟩ := h
          refine x_get G hP hfs6 hvfs6 fl_X10_40 dX10_mostRisk_18 ?_
          refine lv_iload_n hx hb dX10_mostRisk_21 rfl (lv_at hl 2 rfl) ?_
          obtain ⟨n8, f9, hf9, hif9, h⟩ := h
          refine x_iald G hP hf9 hif9 dX10_mostRisk_22 ?_
          refine lv_aload_n hx hb dX10_mostRisk_23 rfl (lv_at hl 0 rfl) ?_
          obtain ⟨fs10, y11, hfs10, hvfs10, h⟩ := h
          refine x_get G hP hfs10 hvfs10 fl_X10_40 dX10_mostRisk_24 ?_
          refine lv_iload_n hx hb dX10_mostRisk_27 rfl (lv_at hl 1 rfl) ?_
          obtain ⟨n12, f13, hf13, hif13, h⟩ := h
          refine x_iald G hP hf13 hif13 dX10_mostRisk_28 ?_
          refine lv_icmp_le (tgt := 36) hx hb dX10_mostRisk_29 (by decide) (fun c14 => ?_) (fun c14 => ?_)
          · have h := h.1 c14
            refine lv_iload_n hx hb dX10_mostRisk_36 rfl (lv_at hl 1 rfl) ?_
            exact J_37 _ _ h ls (lv_sub hl [0, 2] rfl)
          · have h := h.2 c14
            exact J_32 _ h ls (lv_sub hl [0, 2] rfl)
  refine lv_bipush (v := (-6 : Int32)) hx hb dX10_mostRisk_0 (by decide) ?_
  refine lv_istore_n (lv' := [(1, .int (-6 : Int32)), (0, .ref v0)]) hx hb dX10_mostRisk_2 rfl hl (by decide) rfl (fun ls hl => ?_)
  refine lv_iconst (v := (0 : Int32)) hx hb dX10_mostRisk_3 (by decide) ?_
  refine lv_istore_n (lv' := [(2, .int (0 : Int32)), (1, .int (-6 : Int32)), (0, .ref v0)]) hx hb dX10_mostRisk_4 rfl hl (by decide) rfl (fun ls hl => ?_)
  obtain ⟨n1, h⟩ := h
  exact J_5 n1 _ _ h ls (lv_sub hl [2, 1, 0] rfl)
def wp_X10_judge (post : Int32 → Hp → Prop) (X : Hp) (v0 : Nat) (v1 : Int32) (v2 : Int32) (v3 : Int32) (v4 : Int32) : Prop := wp_X10_isWay (fun r1 => (¬ r1 = 0 → wp_X10_isOwed (fun r3 => (r3 = 0 → post (-2 : Int32) X) ∧ (¬ r3 = 0 → wp_X10_isBattery (fun r5 => (r5 = 0 → post (-2 : Int32) X) ∧ (¬ r5 = 0 → wp_X10_in (fun r7 => (¬ r7 = 0 → ∃ fs33 : List Value, Hs X v0 (.inr (10, fs33)) ∧ wp_X10_fault (fun r9 => (r9 < 0 → ∃ fs32 : List Value, Hs X v0 (.inr (10, fs32)) ∧ wp_X10_judgeAll (fun X11 => (v4 = (0 : Int32) → ∃ (fs13 : List Value) (y14 : Int32), Hs X11 v0 (.inr (10, fs13)) ∧ fs13[15]? = some (.int y14) ∧ post y14 X11) ∧ (v4 = (1 : Int32) → ∃ (fs16 : List Value) (y17 : Int32), Hs X11 v0 (.inr (10, fs16)) ∧ fs16[14]? = some (.int y17) ∧ post y17 X11) ∧ (v4 = (2 : Int32) → ∃ (fs19 : List Value) (y20 : Int32), Hs X11 v0 (.inr (10, fs19)) ∧ fs19[16]? = some (.int y20) ∧ post y20 X11) ∧ (v4 = (3 : Int32) → ∃ fs23 : List Value, Hs X11 v0 (.inr (10, fs23)) ∧ wp_X10_safeOfTimes (fun r22 => post r22 X11)  X11 v0) ∧ (v4 = (4 : Int32) → ∃ fs26 : List Value, Hs X11 v0 (.inr (10, fs26)) ∧ wp_X10_mostRisk (fun r25 => post r25 X11)  X11 v0) ∧ (v4 = (5 : Int32) → ∃ (fs28 : List Value) (y29 : Int32), Hs X11 v0 (.inr (10, fs28)) ∧ fs28[17]? = some (.int y29) ∧ post y29 X11) ∧ (¬ v4 = (0 : Int32) ∧ ¬ v4 = (1 : Int32) ∧ ¬ v4 = (2 : Int32) ∧ ¬ v4 = (3 : Int32) ∧ ¬ v4 = (4 : Int32) ∧ ¬ v4 = (5 : Int32) → ∃ (fs30 : List Value) (y31 : Int32), Hs X11 v0 (.inr (10, fs30)) ∧ fs30[18]? = some (.int y31) ∧ post y31 X11))  X v0 v1 v2 v3) ∧ (¬ r9 < 0 → post (-5 : Int32) X))  X v0) ∧ (r7 = 0 → post (-2 : Int32) X))  X (v4.toInt64) (0 : Int64) (6 : Int64)))  X v3))  X v2) ∧ (r1 = 0 → post (-1 : Int32) X))  X v1
set_option maxHeartbeats 4000000 in
set_option maxRecDepth 100000 in
theorem c_X10_judge (l : Launch) (D : va_G) (kA : Nat → ClassId) (post : Int32 → Hp → Prop) (X : Hp) (sz : Nat) (v0 : Nat) (v1 : Int32) (v2 : Int32) (v3 : Int32) (v4 : Int32) (h : wp_X10_judge post X v0 v1 v2 v3 v4) : Met l yX10_judge (.code yX10_judge cX10_judge 5 (some .int) :: gd) (rmO 4 0 0 100) (va_Pc [Value.ref v0, Value.int v1, Value.int v2, Value.int v3, Value.int v4] (PreM D kA X sz)) (va_Qi post (PoM D kA X sz) (va_A (hw kA X) sz)) 0 0 (va_A (hw kA X) sz) := by
  unfold wp_X10_judge at h
  refine x_enM (by decide) (Nat.le_of_ble_eq_true rfl) ?_
  intro p e s m below meth c G hr hlk hin hsz hA S ls hl
  obtain ⟨hx, hb, hml, hown, hts, hE, hK⟩ := id G
  have hl : lv_has ls 5 [(0, .ref v0), (1, .int v1), (2, .int v2), (3, .int v3), (4, .int v4)] := hl
  refine lv_iload_n hx hb dX10_judge_0 rfl (lv_at hl 1 rfl) ?_
  refine x_cRSi (As := [.int v1]) (rest := []) G S.1 (c_X10_isWay l D kA _ _ v1 h) cd_X10_isWay ml_X10_74 ⟨(Nat.le_of_ble_eq_true rfl), (Nat.le_of_ble_eq_true rfl)⟩ rfl hl.1 rfl (Nat.le_of_ble_eq_true rfl) dX10_judge_1 ⟨Nat.zero_le _, Nat.zero_le _⟩ (fun r1 h => ?_)
  refine lv_if_ne (tgt := 9) hx hb dX10_judge_4 (by decide) (fun c2 => ?_) (fun c2 => ?_)
  · have h := h.1 c2
    refine lv_iload_n hx hb dX10_judge_9 rfl (lv_at hl 2 rfl) ?_
    refine x_cRSi (As := [.int v2]) (rest := []) G S.1 (c_X10_isOwed l D kA _ _ v2 h) cd_X10_isOwed ml_X10_110 ⟨(Nat.le_of_ble_eq_true rfl), (Nat.le_of_ble_eq_true rfl)⟩ rfl hl.1 rfl (Nat.le_of_ble_eq_true rfl) dX10_judge_10 ⟨Nat.zero_le _, Nat.zero_le _⟩ (fun r3 h => ?_)
    refine lv_if_eq (tgt := 36) hx hb dX10_judge_13 (by decide) (fun c4 => ?_) (fun c4 => ?_)
    · have h := h.1 c4
      refine lv_bipush (v := (-2 : Int32)) hx hb dX10_judge_36 (by decide) ?_
      exact x_iretM G hr hlk S (Nat.le_refl _) (Nat.le_refl _) h dX10_judge_38
    · have h := h.2 c4
      refine lv_iload_n hx hb dX10_judge_16 rfl (lv_at hl 3 rfl) ?_
      refine x_cRSi (As := [.int v3]) (rest := []) G S.1 (c_X10_isBattery l D kA _ _ v3 h) cd_X10_isBattery ml_X10_161 ⟨(Nat.le_of_ble_eq_true rfl), (Nat.le_of_ble_eq_true rfl)⟩ rfl hl.1 rfl (Nat.le_of_ble_eq_true rfl) dX10_judge_17 ⟨Nat.zero_le _, Nat.zero_le _⟩ (fun r5 h => ?_)
      refine lv_if_eq (tgt := 36) hx hb dX10_judge_20 (by decide) (fun c6 => ?_) (fun c6 => ?_)
      · have h := h.1 c6
        refine lv_bipush (v := (-2 : Int32)) hx hb dX10_judge_36 (by decide) ?_
        exact x_iretM G hr hlk S (Nat.le_refl _) (Nat.le_refl _) h dX10_judge_38
      · have h := h.2 c6
        refine lv_iload hx hb dX10_judge_23 (lv_at hl 4 rfl) ?_
        refine lv_i2l (v := v4.toInt64) hx hb dX10_judge_25 rfl ?_
        refine lv_lconst (v := (0 : Int64)) hx hb dX10_judge_26 (by decide) ?_
        refine lv_ldc2 hx hb hown (hts _ kc_X10_164) dX10_judge_27 ?_
        refine x_cRSi (As := [.long (v4.toInt64), .long (0 : Int64), .long (6 : Int64)]) (rest := []) G S.1 (c_X10_in l D kA _ _ (v4.toInt64) (0 : Int64) (6 : Int64) h) cd_X10_in ml_X10_66 ⟨(Nat.le_of_ble_eq_true rfl), (Nat.le_of_ble_eq_true rfl)⟩ rfl hl.1 rfl (Nat.le_of_ble_eq_true rfl) dX10_judge_30 ⟨Nat.zero_le _, Nat.zero_le _⟩ (fun r7 h => ?_)
        refine lv_if_ne (tgt := 39) hx hb dX10_judge_33 (by decide) (fun c8 => ?_) (fun c8 => ?_)
        · have h := h.1 c8
          refine lv_aload_n hx hb dX10_judge_39 rfl (lv_at hl 0 rfl) ?_
          obtain ⟨fs33, hfs33, h⟩ := h
          refine x_cRVi (As := []) (rest := []) G S.1 hfs33 rfl rfl (c_X10_fault l D kA _ _ v0 h) cd_X10_fault ml_X10_166 ⟨(Nat.le_of_ble_eq_true rfl), (Nat.le_of_ble_eq_true rfl)⟩ rfl hl.1 rfl (Nat.le_of_ble_eq_true rfl) dX10_judge_40 ⟨Nat.zero_le _, Nat.zero_le _⟩ (fun r9 h => ?_)
          refine lv_if_lt (tgt := 49) hx hb dX10_judge_43 (by decide) (fun c10 => ?_) (fun c10 => ?_)
          · have h := h.1 c10
            refine lv_aload_n hx hb dX10_judge_49 rfl (lv_at hl 0 rfl) ?_
            refine lv_iload_n hx hb dX10_judge_50 rfl (lv_at hl 1 rfl) ?_
            refine lv_iload_n hx hb dX10_judge_51 rfl (lv_at hl 2 rfl) ?_
            refine lv_iload_n hx hb dX10_judge_52 rfl (lv_at hl 3 rfl) ?_
            obtain ⟨fs32, hfs32, h⟩ := h
            refine x_cMVv (As := [.int v1, .int v2, .int v3]) (rest := []) G S hA hfs32 rfl rfl (c_X10_judgeAll l D kA _ _ _ v0 v1 v2 v3 h) cd_X10_judgeAll ml_X10_170 ⟨(Nat.le_of_ble_eq_true rfl), (Nat.le_of_ble_eq_true rfl)⟩ rfl hl.1 rfl (Nat.le_of_ble_eq_true rfl) dX10_judge_53 ⟨Nat.zero_le _, Nat.zero_le _⟩ (fun X H locs h S => ?_)
            refine lv_iload hx hb dX10_judge_56 (lv_at hl 4 rfl) ?_
            by_cases c12 : v4 = (0 : Int32)
            · have h := h.1 c12
              refine lv_tableIn (off := 38) (tgt := 96) hx hb dX10_judge_58 (by rw [c12]; decide) (by rw [c12]; decide) (by rw [c12]; decide) (by decide) ?_
              refine lv_aload_n hx hb dX10_judge_96 rfl (lv_at hl 0 rfl) ?_
              obtain ⟨fs13, y14, hfs13, hvfs13, h⟩ := h
              refine x_get G S.1 hfs13 hvfs13 fl_X10_151 dX10_judge_97 ?_
              exact x_iretM G hr hlk S (Nat.le_refl _) (Nat.le_refl _) h dX10_judge_100
            have h := h.2
            by_cases c15 : v4 = (1 : Int32)
            · have h := h.1 c15
              refine lv_tableIn (off := 43) (tgt := 101) hx hb dX10_judge_58 (by rw [c15]; decide) (by rw [c15]; decide) (by rw [c15]; decide) (by decide) ?_
              refine lv_aload_n hx hb dX10_judge_101 rfl (lv_at hl 0 rfl) ?_
              obtain ⟨fs16, y17, hfs16, hvfs16, h⟩ := h
              refine x_get G S.1 hfs16 hvfs16 fl_X10_135 dX10_judge_102 ?_
              exact x_iretM G hr hlk S (Nat.le_refl _) (Nat.le_refl _) h dX10_judge_105
            have h := h.2
            by_cases c18 : v4 = (2 : Int32)
            · have h := h.1 c18
              refine lv_tableIn (off := 48) (tgt := 106) hx hb dX10_judge_58 (by rw [c18]; decide) (by rw [c18]; decide) (by rw [c18]; decide) (by decide) ?_
              refine lv_aload_n hx hb dX10_judge_106 rfl (lv_at hl 0 rfl) ?_
              obtain ⟨fs19, y20, hfs19, hvfs19, h⟩ := h
              refine x_get G S.1 hfs19 hvfs19 fl_X10_144 dX10_judge_107 ?_
              exact x_iretM G hr hlk S (Nat.le_refl _) (Nat.le_refl _) h dX10_judge_110
            have h := h.2
            by_cases c21 : v4 = (3 : Int32)
            · have h := h.1 c21
              refine lv_tableIn (off := 53) (tgt := 111) hx hb dX10_judge_58 (by rw [c21]; decide) (by rw [c21]; decide) (by rw [c21]; decide) (by decide) ?_
              refine lv_aload_n hx hb dX10_judge_111 rfl (lv_at hl 0 rfl) ?_
              obtain ⟨fs23, hfs23, h⟩ := h
              refine x_cRVi (As := []) (rest := []) G S.1 hfs23 rfl rfl (c_X10_safeOfTimes l D kA _ _ v0 h) cd_X10_safeOfTimes ml_X10_173 ⟨(Nat.le_of_ble_eq_true rfl), (Nat.le_of_ble_eq_true rfl)⟩ rfl hl.1 rfl (Nat.le_of_ble_eq_true rfl) dX10_judge_112 ⟨Nat.zero_le _, Nat.zero_le _⟩ (fun r22 h => ?_)
              exact x_iretM G hr hlk S (Nat.le_refl _) (Nat.le_refl _) h dX10_judge_115
            have h := h.2
            by_cases c24 : v4 = (4 : Int32)
            · have h := h.1 c24
              refine lv_tableIn (off := 58) (tgt := 116) hx hb dX10_judge_58 (by rw [c24]; decide) (by rw [c24]; decide) (by rw [c24]; decide) (by decide) ?_
              refine lv_aload_n hx hb dX10_judge_116 rfl (lv_at hl 0 rfl) ?_
              obtain ⟨fs26, hfs26, h⟩ := h
              refine x_cRVi (As := []) (rest := []) G S.1 hfs26 rfl rfl (c_X10_mostRisk l D kA _ _ v0 h) cd_X10_mostRisk ml_X10_176 ⟨(Nat.le_of_ble_eq_true rfl), (Nat.le_of_ble_eq_true rfl)⟩ rfl hl.1 rfl (Nat.le_of_ble_eq_true rfl) dX10_judge_117 ⟨Nat.zero_le _, Nat.zero_le _⟩ (fun r25 h => ?_)
              exact x_iretM G hr hlk S (Nat.le_refl _) (Nat.le_refl _) h dX10_judge_120
            have h := h.2
            by_cases c27 : v4 = (5 : Int32)
            · have h := h.1 c27
              refine lv_tableIn (off := 63) (tgt := 121) hx hb dX10_judge_58 (by rw [c27]; decide) (by rw [c27]; decide) (by rw [c27]; decide) (by decide) ?_
              refine lv_aload_n hx hb dX10_judge_121 rfl (lv_at hl 0 rfl) ?_
              obtain ⟨fs28, y29, hfs28, hvfs28, h⟩ := h
              refine x_get G S.1 hfs28 hvfs28 fl_X10_138 dX10_judge_122 ?_
              exact x_iretM G hr hlk S (Nat.le_refl _) (Nat.le_refl _) h dX10_judge_125
            have h := h.2
            have h := h ⟨c12, c15, c18, c21, c24, c27⟩
            refine lv_tableOut (tgt := 126) hx hb dX10_judge_58 (by have := lv_neT c12 (show (0 : Int32).toInt = 0 by decide); have := lv_neT c15 (show (1 : Int32).toInt = 1 by decide); have := lv_neT c18 (show (2 : Int32).toInt = 2 by decide); have := lv_neT c21 (show (3 : Int32).toInt = 3 by decide); have := lv_neT c24 (show (4 : Int32).toInt = 4 by decide); have := lv_neT c27 (show (5 : Int32).toInt = 5 by decide); omega) (by decide) ?_
            refine lv_aload_n hx hb dX10_judge_126 rfl (lv_at hl 0 rfl) ?_
            obtain ⟨fs30, y31, hfs30, hvfs30, h⟩ := h
            refine x_get G S.1 hfs30 hvfs30 fl_X10_141 dX10_judge_127 ?_
            exact x_iretM G hr hlk S (Nat.le_refl _) (Nat.le_refl _) h dX10_judge_130
          · have h := h.2 c10
            refine lv_bipush (v := (-5 : Int32)) hx hb dX10_judge_46 (by decide) ?_
            exact x_iretM G hr hlk S (Nat.le_refl _) (Nat.le_refl _) h dX10_judge_48
        · have h := h.2 c8
          refine lv_bipush (v := (-2 : Int32)) hx hb dX10_judge_36 (by decide) ?_
          exact x_iretM G hr hlk S (Nat.le_refl _) (Nat.le_refl _) h dX10_judge_38
  · have h := h.2 c2
    refine lv_iconst (v := (-1 : Int32)) hx hb dX10_judge_7 (by decide) ?_
    exact x_iretM G hr hlk S (Nat.le_refl _) (Nat.le_refl _) h dX10_judge_8
