def bk_X1_init_14 (post : Hp → Prop) (mc ms : Nat) (v0 : Nat)  : Nat → Hp → Nat → Nat → Int32 → Prop
  | 0, _, _, _, _ => False
  | k + 1, X, kc, ks, b14_1 => ((2 : Int32) ≤ b14_1 → kc + 1 ≤ mc ∧ ks + 2 ≤ ms ∧ ∀ q7 : Nat, q7 ∉ X.1 → ∀ X8 : Hp, X8 = hadd X q7 (.inr (2, [.null, .null])) → ∃ m9 m10 : Nat, (kc + 1) + m9 ≤ mc ∧ (ks + 2) + m10 ≤ ms ∧ wp_X2_init (fun X11 => ∃ (fs12 : List Value), Hs X11 v0 (.inr (1, fs12)) ∧ 1 < fs12.length ∧ ∀ X13 : Hp, X13 = hput X11 v0 (.inr (1, fs12.set 1 (.ref q7))) → ((kc + 1) + m9) ≤ mc ∧ ((ks + 2) + m10) ≤ ms ∧ post X13) m9 m10 X8 q7) ∧ (¬ (2 : Int32) ≤ b14_1 → ∃ (fs14 : List Value) (y15 : Nat), Hs X v0 (.inr (1, fs14)) ∧ fs14[0]? = some (.ref y15) ∧ kc + 1 ≤ mc ∧ ks + 7 ≤ ms ∧ ∀ q16 : Nat, q16 ∉ X.1 → ∀ X17 : Hp, X17 = hadd X q16 (.inr (8, [.int 0, .int 0, .null, .null, .null, .null, .null])) → ∃ m18 m19 : Nat, (kc + 1) + m18 ≤ mc ∧ (ks + 7) + m19 ≤ ms ∧ wp_X8_init (fun X20 => ∃ (n21 : Nat) (f22 : Nat → Option Nat) (fs23 : List Value), Hs X20 y15 (.inl (5, n21, qA f22)) ∧ Hs X20 q16 (.inr (8, fs23)) ∧ vp_in b14_1 n21 ∧ ∀ X24 : Hp, X24 = hput X20 y15 (.inl (5, n21, qA (va_up f22 b14_1.toNatClampNeg (some q16)))) → ∀ x25 : Int32, x25 = b14_1 + (1 : Int32) → (bk_X1_init_14 post mc ms v0 k) X24 (((kc + 1) + m18)) (((ks + 7) + m19)) x25) m18 m19 X17 q16)
def wp_X1_init (post : Hp → Prop) (mc ms : Nat) (X : Hp) (v0 : Nat) : Prop := 0 + 1 ≤ mc ∧ 0 + 2 ≤ ms ∧ ∀ q1 : Nat, q1 ∉ X.1 → ∀ X2 : Hp, X2 = hadd X q1 (.inl (5, 2, qA (fun _ => none))) → ∃ (fs3 : List Value), Hs X2 v0 (.inr (1, fs3)) ∧ 0 < fs3.length ∧ ∀ X4 : Hp, X4 = hput X2 v0 (.inr (1, fs3.set 0 (.ref q1))) → ∃ n5 : Nat, bk_X1_init_14 post mc ms v0 n5 X4 ((0 + 1)) ((0 + 2)) (0 : Int32)
set_option maxHeartbeats 4000000 in
set_option maxRecDepth 100000 in
theorem c_X1_init (l : Launch) (D : va_G) (kA : Nat → ClassId) (post : Hp → Prop) (mc ms : Nat) (X : Hp) (sz : Nat) (v0 : Nat) (h : wp_X1_init post mc ms X v0) : Met l yX1_init (.code yX1_init cX1_init 2 none :: gd) (rmO 2 mc ms 41) (va_Pc [Value.ref v0] (PreM D kA X sz)) (va_Qv post (PoM D kA X sz) (va_A (hw kA X) sz)) mc ms (va_A (hw kA X) sz) := by
  unfold wp_X1_init at h
  refine x_enM (by decide) (Nat.le_of_ble_eq_true rfl) ?_
  intro p e s m below meth c G hr hlk hin hsz hA S ls hl
  obtain ⟨hx, hb, hml, hown, hts, hE, hK⟩ := id G
  have hl : lv_has ls 2 [(0, .ref v0)] := hl
  obtain ⟨X0, hX0⟩ : ∃ Y : Hp, Y = X := ⟨_, rfl⟩
  subst hX0
  have J_14 : ∀ (n : Nat) (X : Hp) (kc : Nat) (ks : Nat) (b14_1 : Int32), ∀ (H : Heap) (locs : List Loc) (_ : bk_X1_init_14 post mc ms v0  n X kc ks b14_1), Sx D kA (va_A (hw kA X0) sz) s.heap H locs X → ∀ ls, lv_has ls 2 [(0, .ref v0), (1, .int b14_1)] → W p l e (rmO 2 mc ms 41) s m [Value.ref v0].toArray below meth c H locs kc ks (MQ below (va_Qv post (PoM D kA X0 sz) (va_A (hw kA X0) sz)) [Value.ref v0].toArray s mc ms (va_A (hw kA X0) sz)) (F0 m 14 ls []) := by
    intro n
    induction n with
    | zero =>
      intro X kc ks b14_1 H locs h S ls hl
      rw [bk_X1_init_14] at h
      exact h.elim
    | succ n_14 ih_14 =>
      intro X kc ks b14_1 H locs h S ls hl
      rw [bk_X1_init_14] at h
      refine lv_iload_n hx hb dX1_init_14 rfl (lv_at hl 1 rfl) ?_
      refine lv_iconst (v := (2 : Int32)) hx hb dX1_init_15 (by decide) ?_
      refine lv_icmp_ge (tgt := 38) hx hb dX1_init_16 (by decide) (fun c6 => ?_) (fun c6 => ?_)
      · have h := h.1 c6
        refine lv_aload_n hx hb dX1_init_38 rfl (lv_at hl 0 rfl) ?_
        obtain ⟨hc1, hc2, h⟩ := h
        refine x_new G S hA nw_X1_18 hc1 hc2 dX1_init_39 (fun q7 H hq7 S => ?_)
        have h := h q7 hq7 _ rfl
        refine lv_dup hx hb dX1_init_42 rfl ?_
        obtain ⟨m9, m10, hm1, hm2, h⟩ := h
        refine x_cMIv (As := []) (rest := [.ref q7, .ref v0]) G S hA (c_X2_init l D kA _ _ _ _ _ q7 h) cd_X2_init ml_X1_20 ⟨(Nat.le_of_ble_eq_true rfl), (Nat.le_of_ble_eq_true rfl)⟩ rfl hl.1 rfl (Nat.le_of_ble_eq_true rfl) dX1_init_43 ⟨hm1, hm2⟩ (fun X H locs h S => ?_)
        obtain ⟨fs12, hfs12, hkfs12, h⟩ := h
        have h := h _ rfl
        refine x_putF G hin S hfs12 hkfs12 rfl rfl ff_X1_21 dX1_init_46 (fun H locs S => ?_)
        obtain ⟨hk1, hk2, h⟩ := h
        exact x_vretM G hr hlk S hk1 hk2 h dX1_init_49
      · have h := h.2 c6
        refine lv_aload_n hx hb dX1_init_19 rfl (lv_at hl 0 rfl) ?_
        obtain ⟨fs14, y15, hfs14, hvfs14, h⟩ := h
        refine x_get G S.1 hfs14 hvfs14 fl_X1_11 dX1_init_20 ?_
        refine lv_iload_n hx hb dX1_init_23 rfl (lv_at hl 1 rfl) ?_
        obtain ⟨hc1, hc2, h⟩ := h
        refine x_new G S hA nw_X1_9 hc1 hc2 dX1_init_24 (fun q16 H hq16 S => ?_)
        have h := h q16 hq16 _ rfl
        refine lv_dup hx hb dX1_init_27 rfl ?_
        obtain ⟨m18, m19, hm1, hm2, h⟩ := h
        refine x_cMIv (As := []) (rest := [.ref q16, .int b14_1, .ref y15]) G S hA (c_X8_init l D kA _ _ _ _ _ q16 h) cd_X8_init ml_X1_17 ⟨(Nat.le_of_ble_eq_true rfl), (Nat.le_of_ble_eq_true rfl)⟩ rfl hl.1 rfl (Nat.le_of_ble_eq_true rfl) dX1_init_28 ⟨hm1, hm2⟩ (fun X H locs h S => ?_)
        obtain ⟨n21, f22, fs23, hf22, hfs23, hif22, h⟩ := h
        have h := h _ rfl
        refine x_aast G S hf22 rfl hfs23 rfl hif22 dX1_init_31 (fun H locs S => ?_)
        obtain ⟨x25, ex25⟩ : ∃ y : Int32, y = b14_1 + (1 : Int32) := ⟨_, rfl⟩
        have h := h x25 ex25
        refine lv_iinc (v := x25) (lv' := [(1, .int x25), (0, .ref v0)]) hx hb dX1_init_32 hl (k := 1) rfl (by rw [ex25]; rfl) (by decide) rfl (fun ls hl => ?_)
        refine lv_goto (tgt := 14) hx hb dX1_init_35 (by decide) ?_
        exact ih_14 _ _ _ _ _ _ h S ls (lv_sub hl [1, 0] rfl)
  refine lv_aload_n hx hb dX1_init_0 rfl (lv_at hl 0 rfl) ?_
  refine x_objInit G mk_X1_3 oi_ins oi_cod hl.1 dX1_init_1 (Nat.le_of_ble_eq_true rfl) (Nat.le_of_ble_eq_true rfl) ?_
  refine lv_aload_n hx hb dX1_init_4 rfl (lv_at hl 0 rfl) ?_
  refine lv_iconst (v := (2 : Int32)) hx hb dX1_init_5 (by decide) ?_
  obtain ⟨hc1, hc2, h⟩ := h
  refine x_newq (t := 5) (N' := 2) G S hA kl_X1_9 ao_X8 rfl (by decide) (by decide) (Nat.le_of_ble_eq_true rfl) hc1 hc2 dX1_init_6 (fun q1 H hq1 S => ?_)
  have h := h q1 hq1 _ rfl
  obtain ⟨fs3, hfs3, hkfs3, h⟩ := h
  have h := h _ rfl
  refine x_putF G hin S hfs3 hkfs3 rfl rfl ff_X1_11 dX1_init_9 (fun H locs S => ?_)
  refine lv_iconst (v := (0 : Int32)) hx hb dX1_init_12 (by decide) ?_
  refine lv_istore_n (lv' := [(1, .int (0 : Int32)), (0, .ref v0)]) hx hb dX1_init_13 rfl hl (by decide) rfl (fun ls hl => ?_)
  obtain ⟨n5, h⟩ := h
  exact J_14 n5 _ _ _ _ _ _ h S ls (lv_sub hl [1, 0] rfl)
def bk_X1_copy_2 (post : Hp → Prop) (v0 : Nat) (v1 : Nat)  : Nat → Hp → Int32 → Prop
  | 0, _, _ => False
  | k + 1, X, b2_2 => ((2 : Int32) ≤ b2_2 → ∃ (fs3 : List Value) (y4 : Nat), Hs X v0 (.inr (1, fs3)) ∧ fs3[1]? = some (.ref y4) ∧ ∃ (fs5 : List Value) (y6 : Nat), Hs X v1 (.inr (1, fs5)) ∧ fs5[1]? = some (.ref y6) ∧ ∃ fs8 : List Value, Hs X y4 (.inr (2, fs8)) ∧ wp_X2_copy (fun X7 => post X7) X y4 y6) ∧ (¬ (2 : Int32) ≤ b2_2 → ∃ (fs9 : List Value) (y10 : Nat), Hs X v0 (.inr (1, fs9)) ∧ fs9[0]? = some (.ref y10) ∧ ∃ (n11 : Nat) (f12 : Nat → Option Nat) (y13 : Nat), Hs X y10 (.inl (5, n11, qA f12)) ∧ vp_in b2_2 n11 ∧ f12 b2_2.toNatClampNeg = some y13 ∧ ∃ (fs14 : List Value) (y15 : Nat), Hs X v1 (.inr (1, fs14)) ∧ fs14[0]? = some (.ref y15) ∧ ∃ (n16 : Nat) (f17 : Nat → Option Nat) (y18 : Nat), Hs X y15 (.inl (5, n16, qA f17)) ∧ vp_in b2_2 n16 ∧ f17 b2_2.toNatClampNeg = some y18 ∧ ∃ fs21 : List Value, Hs X y13 (.inr (8, fs21)) ∧ wp_X8_copy (fun X19 => ∀ x20 : Int32, x20 = b2_2 + (1 : Int32) → (bk_X1_copy_2 post v0 v1 k) X19 x20) X y13 y18)
def wp_X1_copy (post : Hp → Prop) (X : Hp) (v0 : Nat) (v1 : Nat) : Prop := ∃ n1 : Nat, bk_X1_copy_2 post v0 v1 n1 X (0 : Int32)
set_option maxHeartbeats 4000000 in
set_option maxRecDepth 100000 in
theorem c_X1_copy (l : Launch) (D : va_G) (kA : Nat → ClassId) (post : Hp → Prop) (X : Hp) (sz : Nat) (v0 : Nat) (v1 : Nat) (h : wp_X1_copy post X v0 v1) : Met l yX1_copy (.code yX1_copy cX1_copy 3 none :: gd) (rmO 2 0 0 81) (va_Pc [Value.ref v0, Value.ref v1] (PreM D kA X sz)) (va_Qv post (PoM D kA X sz) (va_A (hw kA X) sz)) 0 0 (va_A (hw kA X) sz) := by
  unfold wp_X1_copy at h
  refine x_enM (by decide) (Nat.le_of_ble_eq_true rfl) ?_
  intro p e s m below meth c G hr hlk hin hsz hA S ls hl
  obtain ⟨hx, hb, hml, hown, hts, hE, hK⟩ := id G
  have hl : lv_has ls 3 [(0, .ref v0), (1, .ref v1)] := hl
  obtain ⟨X0, hX0⟩ : ∃ Y : Hp, Y = X := ⟨_, rfl⟩
  subst hX0
  have J_2 : ∀ (n : Nat) (X : Hp) (b2_2 : Int32), ∀ (H : Heap) (locs : List Loc) (_ : bk_X1_copy_2 post v0 v1  n X b2_2), Sx D kA (va_A (hw kA X0) sz) s.heap H locs X → ∀ ls, lv_has ls 3 [(0, .ref v0), (1, .ref v1), (2, .int b2_2)] → W p l e (rmO 2 0 0 81) s m [Value.ref v0, Value.ref v1].toArray below meth c H locs 0 0 (MQ below (va_Qv post (PoM D kA X0 sz) (va_A (hw kA X0) sz)) [Value.ref v0, Value.ref v1].toArray s 0 0 (va_A (hw kA X0) sz)) (F0 m 2 ls []) := by
    intro n
    induction n with
    | zero =>
      intro X b2_2 H locs h S ls hl
      rw [bk_X1_copy_2] at h
      exact h.elim
    | succ n_2 ih_2 =>
      intro X b2_2 H locs h S ls hl
      rw [bk_X1_copy_2] at h
      refine lv_iload_n hx hb dX1_copy_2 rfl (lv_at hl 2 rfl) ?_
      refine lv_iconst (v := (2 : Int32)) hx hb dX1_copy_3 (by decide) ?_
      refine lv_icmp_ge (tgt := 28) hx hb dX1_copy_4 (by decide) (fun c2 => ?_) (fun c2 => ?_)
      · have h := h.1 c2
        refine lv_aload_n hx hb dX1_copy_28 rfl (lv_at hl 0 rfl) ?_
        obtain ⟨fs3, y4, hfs3, hvfs3, h⟩ := h
        refine x_get G S.1 hfs3 hvfs3 fl_X1_21 dX1_copy_29 ?_
        refine lv_aload_n hx hb dX1_copy_32 rfl (lv_at hl 1 rfl) ?_
        obtain ⟨fs5, y6, hfs5, hvfs5, h⟩ := h
        refine x_get G S.1 hfs5 hvfs5 fl_X1_21 dX1_copy_33 ?_
        obtain ⟨fs8, hfs8, h⟩ := h
        refine x_cMVv (As := [.ref y6]) (rest := []) G S hA hfs8 rfl rfl (c_X2_copy l D kA _ _ _ y4 y6 h) cd_X2_copy ml_X1_29 ⟨(Nat.le_of_ble_eq_true rfl), (Nat.le_of_ble_eq_true rfl)⟩ rfl hl.1 rfl (Nat.le_of_ble_eq_true rfl) dX1_copy_36 ⟨Nat.zero_le _, Nat.zero_le _⟩ (fun X H locs h S => ?_)
        exact x_vretM G hr hlk S (Nat.le_refl _) (Nat.le_refl _) h dX1_copy_39
      · have h := h.2 c2
        refine lv_aload_n hx hb dX1_copy_7 rfl (lv_at hl 0 rfl) ?_
        obtain ⟨fs9, y10, hfs9, hvfs9, h⟩ := h
        refine x_get G S.1 hfs9 hvfs9 fl_X1_11 dX1_copy_8 ?_
        refine lv_iload_n hx hb dX1_copy_11 rfl (lv_at hl 2 rfl) ?_
        obtain ⟨n11, f12, y13, hf12, hif12, hqf12, h⟩ := h
        refine x_aald (C := "NapVoyage$Way") G S.1 hf12 rfl hif12 dX1_copy_12 ?_
        refine x_som hqf12 ?_
        refine lv_aload_n hx hb dX1_copy_13 rfl (lv_at hl 1 rfl) ?_
        obtain ⟨fs14, y15, hfs14, hvfs14, h⟩ := h
        refine x_get G S.1 hfs14 hvfs14 fl_X1_11 dX1_copy_14 ?_
        refine lv_iload_n hx hb dX1_copy_17 rfl (lv_at hl 2 rfl) ?_
        obtain ⟨n16, f17, y18, hf17, hif17, hqf17, h⟩ := h
        refine x_aald (C := "NapVoyage$Way") G S.1 hf17 rfl hif17 dX1_copy_18 ?_
        refine x_som hqf17 ?_
        obtain ⟨fs21, hfs21, h⟩ := h
        refine x_cMVv (As := [.ref y18]) (rest := []) G S hA hfs21 rfl rfl (c_X8_copy l D kA _ _ _ y13 y18 h) cd_X8_copy ml_X1_25 ⟨(Nat.le_of_ble_eq_true rfl), (Nat.le_of_ble_eq_true rfl)⟩ rfl hl.1 rfl (Nat.le_of_ble_eq_true rfl) dX1_copy_19 ⟨Nat.zero_le _, Nat.zero_le _⟩ (fun X H locs h S => ?_)
        obtain ⟨x20, ex20⟩ : ∃ y : Int32, y = b2_2 + (1 : Int32) := ⟨_, rfl⟩
        have h := h x20 ex20
        refine lv_iinc (v := x20) (lv' := [(2, .int x20), (0, .ref v0), (1, .ref v1)]) hx hb dX1_copy_22 hl (k := 2) rfl (by rw [ex20]; rfl) (by decide) rfl (fun ls hl => ?_)
        refine lv_goto (tgt := 2) hx hb dX1_copy_25 (by decide) ?_
        exact ih_2 _ _ _ _ h S ls (lv_sub hl [1, 2, 0] rfl)
  refine lv_iconst (v := (0 : Int32)) hx hb dX1_copy_0 (by decide) ?_
  refine lv_istore_n (lv' := [(2, .int (0 : Int32)), (0, .ref v0), (1, .ref v1)]) hx hb dX1_copy_1 rfl hl (by decide) rfl (fun ls hl => ?_)
  obtain ⟨n1, h⟩ := h
  exact J_2 n1 _ _ _ _ h S ls (lv_sub hl [1, 2, 0] rfl)
def bk_X9_init_74 (post : Hp → Prop) (mc ms : Nat) (v0 : Nat)  : Nat → Hp → Nat → Nat → Nat → Int32 → Prop
  | 0, _, _, _, _, _ => False
  | k + 1, X, kc, ks, b74_1, b74_2 => ((2 : Int32) ≤ b74_2 → kc + 1 ≤ mc ∧ ks + 2 ≤ ms ∧ ∀ q41 : Nat, q41 ∉ X.1 → ∀ X42 : Hp, X42 = hadd X q41 (.inr (3, [.int 0, .null])) → ∃ m43 m44 : Nat, (kc + 1) + m43 ≤ mc ∧ (ks + 2) + m44 ≤ ms ∧ wp_X3_init (fun X45 => ∃ (fs46 : List Value), Hs X45 v0 (.inr (9, fs46)) ∧ 4 < fs46.length ∧ ∀ X47 : Hp, X47 = hput X45 v0 (.inr (9, fs46.set 4 (.ref q41))) → ((kc + 1) + m43) + 1 ≤ mc ∧ ((ks + 2) + m44) + 6 ≤ ms ∧ ∀ q48 : Nat, q48 ∉ X47.1 → ∀ X49 : Hp, X49 = hadd X47 q48 (.inr (0, [.null, .null, .null, .int 0, .int 0, .int 0])) → ∃ (fs50 : List Value) (y51 : Nat), Hs X49 v0 (.inr (9, fs50)) ∧ fs50[0]? = some (.ref y51) ∧ ∃ (fs52 : List Value) (y53 : Nat), Hs X49 y51 (.inr (1, fs52)) ∧ fs52[1]? = some (.ref y53) ∧ ∃ m54 m55 : Nat, (((kc + 1) + m43) + 1) + m54 ≤ mc ∧ (((ks + 2) + m44) + 6) + m55 ≤ ms ∧ wp_X0_init (fun X56 => ∃ (fs57 : List Value), Hs X56 v0 (.inr (9, fs57)) ∧ 5 < fs57.length ∧ ∀ X58 : Hp, X58 = hput X56 v0 (.inr (9, fs57.set 5 (.ref q48))) → ((((kc + 1) + m43) + 1) + m54) ≤ mc ∧ ((((ks + 2) + m44) + 6) + m55) ≤ ms ∧ post X58) m54 m55 X49 q48 y53) m43 m44 X42 q41) ∧ (¬ (2 : Int32) ≤ b74_2 → ∃ (fs59 : List Value) (y60 : Nat), Hs X v0 (.inr (9, fs59)) ∧ fs59[3]? = some (.ref y60) ∧ kc + 1 ≤ mc ∧ ks + 4 ≤ ms ∧ ∀ q61 : Nat, q61 ∉ X.1 → ∀ X62 : Hp, X62 = hadd X q61 (.inr (4, [.null, .null, .null, .null])) → ∃ (fs63 : List Value) (y64 : Nat), Hs X62 v0 (.inr (9, fs63)) ∧ fs63[0]? = some (.ref y64) ∧ ∃ (fs65 : List Value) (y66 : Nat), Hs X62 y64 (.inr (1, fs65)) ∧ fs65[0]? = some (.ref y66) ∧ ∃ (n67 : Nat) (f68 : Nat → Option Nat) (y69 : Nat), Hs X62 y66 (.inl (5, n67, qA f68)) ∧ vp_in b74_2 n67 ∧ f68 b74_2.toNatClampNeg = some y69 ∧ ∃ (fs70 : List Value) (y71 : Nat), Hs X62 v0 (.inr (9, fs70)) ∧ fs70[0]? = some (.ref y71) ∧ ∃ (fs72 : List Value) (y73 : Nat), Hs X62 y71 (.inr (1, fs72)) ∧ fs72[1]? = some (.ref y73) ∧ ∃ m74 m75 : Nat, (kc + 1) + m74 ≤ mc ∧ (ks + 4) + m75 ≤ ms ∧ wp_X4_init (fun X76 => ∃ (n77 : Nat) (f78 : Nat → Option Nat) (fs79 : List Value), Hs X76 y60 (.inl (3, n77, qA f78)) ∧ Hs X76 q61 (.inr (4, fs79)) ∧ vp_in b74_2 n77 ∧ ∀ X80 : Hp, X80 = hput X76 y60 (.inl (3, n77, qA (va_up f78 b74_2.toNatClampNeg (some q61)))) → ∀ x81 : Int32, x81 = b74_2 + (1 : Int32) → (bk_X9_init_74 post mc ms v0 k) X80 (((kc + 1) + m74)) (((ks + 4) + m75)) b74_1 x81) m74 m75 X62 q61 y69 y73 b74_1)
def bk_X9_init_32 (post : Hp → Prop) (mc ms : Nat) (v0 : Nat)  : Nat → Hp → Nat → Nat → Int32 → Prop
  | 0, _, _, _, _ => False
  | k + 1, X, kc, ks, b32_1 => ((2 : Int32) ≤ b32_1 → kc + 1 ≤ mc ∧ ks + 2 ≤ ms ∧ ∀ q18 : Nat, q18 ∉ X.1 → ∀ X19 : Hp, X19 = hadd X q18 (.inl (3, 2, qA (fun _ => none))) → ∃ (fs20 : List Value), Hs X19 v0 (.inr (9, fs20)) ∧ 3 < fs20.length ∧ ∀ X21 : Hp, X21 = hput X19 v0 (.inr (9, fs20.set 3 (.ref q18))) → (kc + 1) + 1 ≤ mc ∧ (ks + 2) + 3 ≤ ms ∧ ∀ q22 : Nat, q22 ∉ X21.1 → ∀ X23 : Hp, X23 = hadd X21 q22 (.inr (6, [.null, .null, .null])) → ∃ m24 m25 : Nat, ((kc + 1) + 1) + m24 ≤ mc ∧ ((ks + 2) + 3) + m25 ≤ ms ∧ wp_X6_init (fun X26 => ∃ n27 : Nat, bk_X9_init_74 post mc ms v0 n27 X26 ((((kc + 1) + 1) + m24)) ((((ks + 2) + 3) + m25)) q22 (0 : Int32)) m24 m25 X23 q22) ∧ (¬ (2 : Int32) ≤ b32_1 → ∃ (fs28 : List Value) (y29 : Nat), Hs X v0 (.inr (9, fs28)) ∧ fs28[1]? = some (.ref y29) ∧ kc + 1 ≤ mc ∧ ks + 2 ≤ ms ∧ ∀ q30 : Nat, q30 ∉ X.1 → ∀ X31 : Hp, X31 = hadd X q30 (.inr (1, [.null, .null])) → ∃ m32 m33 : Nat, (kc + 1) + m32 ≤ mc ∧ (ks + 2) + m33 ≤ ms ∧ wp_X1_init (fun X34 => ∃ (n35 : Nat) (f36 : Nat → Option Nat) (fs37 : List Value), Hs X34 y29 (.inl (2, n35, qA f36)) ∧ Hs X34 q30 (.inr (1, fs37)) ∧ vp_in b32_1 n35 ∧ ∀ X38 : Hp, X38 = hput X34 y29 (.inl (2, n35, qA (va_up f36 b32_1.toNatClampNeg (some q30)))) → ∀ x39 : Int32, x39 = b32_1 + (1 : Int32) → (bk_X9_init_32 post mc ms v0 k) X38 (((kc + 1) + m32)) (((ks + 2) + m33)) x39) m32 m33 X31 q30)
def wp_X9_init (post : Hp → Prop) (mc ms : Nat) (X : Hp) (v0 : Nat) : Prop := 0 + 1 ≤ mc ∧ 0 + 2 ≤ ms ∧ ∀ q1 : Nat, q1 ∉ X.1 → ∀ X2 : Hp, X2 = hadd X q1 (.inr (1, [.null, .null])) → ∃ m3 m4 : Nat, (0 + 1) + m3 ≤ mc ∧ (0 + 2) + m4 ≤ ms ∧ wp_X1_init (fun X5 => ∃ (fs6 : List Value), Hs X5 v0 (.inr (9, fs6)) ∧ 0 < fs6.length ∧ ∀ X7 : Hp, X7 = hput X5 v0 (.inr (9, fs6.set 0 (.ref q1))) → ((0 + 1) + m3) + 1 ≤ mc ∧ ((0 + 2) + m4) + 2 ≤ ms ∧ ∀ q8 : Nat, q8 ∉ X7.1 → ∀ X9 : Hp, X9 = hadd X7 q8 (.inl (2, 2, qA (fun _ => none))) → ∃ (fs10 : List Value), Hs X9 v0 (.inr (9, fs10)) ∧ 1 < fs10.length ∧ ∀ X11 : Hp, X11 = hput X9 v0 (.inr (9, fs10.set 1 (.ref q8))) → (((0 + 1) + m3) + 1) + 1 ≤ mc ∧ (((0 + 2) + m4) + 2) + 2 ≤ ms ∧ ∀ q12 : Nat, q12 ∉ X11.1 → ∀ X13 : Hp, X13 = hadd X11 q12 (.inl (1, 2, .inl (fun _ => 0))) → ∃ (fs14 : List Value), Hs X13 v0 (.inr (9, fs14)) ∧ 2 < fs14.length ∧ ∀ X15 : Hp, X15 = hput X13 v0 (.inr (9, fs14.set 2 (.ref q12))) → ∃ n16 : Nat, bk_X9_init_32 post mc ms v0 n16 X15 (((((0 + 1) + m3) + 1) + 1)) (((((0 + 2) + m4) + 2) + 2)) (0 : Int32)) m3 m4 X2 q1
set_option maxHeartbeats 4000000 in
set_option maxRecDepth 100000 in
theorem c_X9_init (l : Launch) (D : va_G) (kA : Nat → ClassId) (post : Hp → Prop) (mc ms : Nat) (X : Hp) (sz : Nat) (v0 : Nat) (h : wp_X9_init post mc ms X v0) : Met l yX9_init (.code yX9_init cX9_init 3 none :: gd) (rmO 3 mc ms 62) (va_Pc [Value.ref v0] (PreM D kA X sz)) (va_Qv post (PoM D kA X sz) (va_A (hw kA X) sz)) mc ms (va_A (hw kA X) sz) := by
  unfold wp_X9_init at h
  refine x_enM (by decide) (Nat.le_of_ble_eq_true rfl) ?_
  intro p e s m below meth c G hr hlk hin hsz hA S ls hl
  obtain ⟨hx, hb, hml, hown, hts, hE, hK⟩ := id G
  have hl : lv_has ls 3 [(0, .ref v0)] := hl
  obtain ⟨X0, hX0⟩ : ∃ Y : Hp, Y = X := ⟨_, rfl⟩
  subst hX0
  have J_74 : ∀ (n : Nat) (X : Hp) (kc : Nat) (ks : Nat) (b74_1 : Nat) (b74_2 : Int32), ∀ (H : Heap) (locs : List Loc) (_ : bk_X9_init_74 post mc ms v0  n X kc ks b74_1 b74_2), Sx D kA (va_A (hw kA X0) sz) s.heap H locs X → ∀ ls, lv_has ls 3 [(0, .ref v0), (1, .ref b74_1), (2, .int b74_2)] → W p l e (rmO 3 mc ms 62) s m [Value.ref v0].toArray below meth c H locs kc ks (MQ below (va_Qv post (PoM D kA X0 sz) (va_A (hw kA X0) sz)) [Value.ref v0].toArray s mc ms (va_A (hw kA X0) sz)) (F0 m 74 ls []) := by
    intro n
    induction n with
    | zero =>
      intro X kc ks b74_1 b74_2 H locs h S ls hl
      rw [bk_X9_init_74] at h
      exact h.elim
    | succ n_74 ih_74 =>
      intro X kc ks b74_1 b74_2 H locs h S ls hl
      rw [bk_X9_init_74] at h
      refine lv_iload_n hx hb dX9_init_74 rfl (lv_at hl 2 rfl) ?_
      refine lv_iconst (v := (2 : Int32)) hx hb dX9_init_75 (by decide) ?_
      refine lv_icmp_ge (tgt := 115) hx hb dX9_init_76 (by decide) (fun c40 => ?_) (fun c40 => ?_)
      · have h := h.1 c40
        refine lv_aload_n hx hb dX9_init_115 rfl (lv_at hl 0 rfl) ?_
        obtain ⟨hc1, hc2, h⟩ := h
        refine x_new G S hA nw_X9_44 hc1 hc2 dX9_init_116 (fun q41 H hq41 S => ?_)
        have h := h q41 hq41 _ rfl
        refine lv_dup hx hb dX9_init_119 rfl ?_
        obtain ⟨m43, m44, hm1, hm2, h⟩ := h
        refine x_cMIv (As := []) (rest := [.ref q41, .ref v0]) G S hA (c_X3_init l D kA _ _ _ _ _ q41 h) cd_X3_init ml_X9_46 ⟨(Nat.le_of_ble_eq_true rfl), (Nat.le_of_ble_eq_true rfl)⟩ rfl hl.1 rfl (Nat.le_of_ble_eq_true rfl) dX9_init_120 ⟨hm1, hm2⟩ (fun X H locs h S => ?_)
        obtain ⟨fs46, hfs46, hkfs46, h⟩ := h
        have h := h _ rfl
        refine x_putF G hin S hfs46 hkfs46 rfl rfl ff_X9_47 dX9_init_123 (fun H locs S => ?_)
        refine lv_aload_n hx hb dX9_init_126 rfl (lv_at hl 0 rfl) ?_
        obtain ⟨hc1, hc2, h⟩ := h
        refine x_new G S hA nw_X9_51 hc1 hc2 dX9_init_127 (fun q48 H hq48 S => ?_)
        have h := h q48 hq48 _ rfl
        refine lv_dup hx hb dX9_init_130 rfl ?_
        refine lv_aload_n hx hb dX9_init_131 rfl (lv_at hl 0 rfl) ?_
        obtain ⟨fs50, y51, hfs50, hvfs50, h⟩ := h
        refine x_get G S.1 hfs50 hvfs50 fl_X9_12 dX9_init_132 ?_
        obtain ⟨fs52, y53, hfs52, hvfs52, h⟩ := h
        refine x_get G S.1 hfs52 hvfs52 fl_X9_37 dX9_init_135 ?_
        obtain ⟨m54, m55, hm1, hm2, h⟩ := h
        refine x_cMIv (As := [.ref y53]) (rest := [.ref q48, .ref v0]) G S hA (c_X0_init l D kA _ _ _ _ _ q48 y53 h) cd_X0_init ml_X9_53 ⟨(Nat.le_of_ble_eq_true rfl), (Nat.le_of_ble_eq_true rfl)⟩ rfl hl.1 rfl (Nat.le_of_ble_eq_true rfl) dX9_init_138 ⟨hm1, hm2⟩ (fun X H locs h S => ?_)
        obtain ⟨fs57, hfs57, hkfs57, h⟩ := h
        have h := h _ rfl
        refine x_putF G hin S hfs57 hkfs57 rfl rfl ff_X9_56 dX9_init_141 (fun H locs S => ?_)
        obtain ⟨hk1, hk2, h⟩ := h
        exact x_vretM G hr hlk S hk1 hk2 h dX9_init_144
      · have h := h.2 c40
        refine lv_aload_n hx hb dX9_init_79 rfl (lv_at hl 0 rfl) ?_
        obtain ⟨fs59, y60, hfs59, hvfs59, h⟩ := h
        refine x_get G S.1 hfs59 hvfs59 fl_X9_26 dX9_init_80 ?_
        refine lv_iload_n hx hb dX9_init_83 rfl (lv_at hl 2 rfl) ?_
        obtain ⟨hc1, hc2, h⟩ := h
        refine x_new G S hA nw_X9_24 hc1 hc2 dX9_init_84 (fun q61 H hq61 S => ?_)
        have h := h q61 hq61 _ rfl
        refine lv_dup hx hb dX9_init_87 rfl ?_
        refine lv_aload_n hx hb dX9_init_88 rfl (lv_at hl 0 rfl) ?_
        obtain ⟨fs63, y64, hfs63, hvfs63, h⟩ := h
        refine x_get G S.1 hfs63 hvfs63 fl_X9_12 dX9_init_89 ?_
        obtain ⟨fs65, y66, hfs65, hvfs65, h⟩ := h
        refine x_get G S.1 hfs65 hvfs65 fl_X9_33 dX9_init_92 ?_
        refine lv_iload_n hx hb dX9_init_95 rfl (lv_at hl 2 rfl) ?_
        obtain ⟨n67, f68, y69, hf68, hif68, hqf68, h⟩ := h
        refine x_aald (C := "NapVoyage$Way") G S.1 hf68 rfl hif68 dX9_init_96 ?_
        refine x_som hqf68 ?_
        refine lv_aload_n hx hb dX9_init_97 rfl (lv_at hl 0 rfl) ?_
        obtain ⟨fs70, y71, hfs70, hvfs70, h⟩ := h
        refine x_get G S.1 hfs70 hvfs70 fl_X9_12 dX9_init_98 ?_
        obtain ⟨fs72, y73, hfs72, hvfs72, h⟩ := h
        refine x_get G S.1 hfs72 hvfs72 fl_X9_37 dX9_init_101 ?_
        refine lv_aload_n hx hb dX9_init_104 rfl (lv_at hl 1 rfl) ?_
        obtain ⟨m74, m75, hm1, hm2, h⟩ := h
        refine x_cMIv (As := [.ref y69, .ref y73, .ref b74_1]) (rest := [.ref q61, .int b74_2, .ref y60]) G S hA (c_X4_init l D kA _ _ _ _ _ q61 y69 y73 b74_1 h) cd_X4_init ml_X9_41 ⟨(Nat.le_of_ble_eq_true rfl), (Nat.le_of_ble_eq_true rfl)⟩ rfl hl.1 rfl (Nat.le_of_ble_eq_true rfl) dX9_init_105 ⟨hm1, hm2⟩ (fun X H locs h S => ?_)
        obtain ⟨n77, f78, fs79, hf78, hfs79, hif78, h⟩ := h
        have h := h _ rfl
        refine x_aast G S hf78 rfl hfs79 rfl hif78 dX9_init_108 (fun H locs S => ?_)
        obtain ⟨x81, ex81⟩ : ∃ y : Int32, y = b74_2 + (1 : Int32) := ⟨_, rfl⟩
        have h := h x81 ex81
        refine lv_iinc (v := x81) (lv' := [(2, .int x81), (0, .ref v0), (1, .ref b74_1)]) hx hb dX9_init_109 hl (k := 2) rfl (by rw [ex81]; rfl) (by decide) rfl (fun ls hl => ?_)
        refine lv_goto (tgt := 74) hx hb dX9_init_112 (by decide) ?_
        exact ih_74 _ _ _ _ _ _ _ h S ls (lv_sub hl [1, 2, 0] rfl)
  have J_32 : ∀ (n : Nat) (X : Hp) (kc : Nat) (ks : Nat) (b32_1 : Int32), ∀ (H : Heap) (locs : List Loc) (_ : bk_X9_init_32 post mc ms v0  n X kc ks b32_1), Sx D kA (va_A (hw kA X0) sz) s.heap H locs X → ∀ ls, lv_has ls 3 [(0, .ref v0), (1, .int b32_1)] → W p l e (rmO 3 mc ms 62) s m [Value.ref v0].toArray below meth c H locs kc ks (MQ below (va_Qv post (PoM D kA X0 sz) (va_A (hw kA X0) sz)) [Value.ref v0].toArray s mc ms (va_A (hw kA X0) sz)) (F0 m 32 ls []) := by
    intro n
    induction n with
    | zero =>
      intro X kc ks b32_1 H locs h S ls hl
      rw [bk_X9_init_32] at h
      exact h.elim
    | succ n_32 ih_32 =>
      intro X kc ks b32_1 H locs h S ls hl
      rw [bk_X9_init_32] at h
      refine lv_iload_n hx hb dX9_init_32 rfl (lv_at hl 1 rfl) ?_
      refine lv_iconst (v := (2 : Int32)) hx hb dX9_init_33 (by decide) ?_
      refine lv_icmp_ge (tgt := 56) hx hb dX9_init_34 (by decide) (fun c17 => ?_) (fun c17 => ?_)
      · have h := h.1 c17
        refine lv_aload_n hx hb dX9_init_56 rfl (lv_at hl 0 rfl) ?_
        refine lv_iconst (v := (2 : Int32)) hx hb dX9_init_57 (by decide) ?_
        obtain ⟨hc1, hc2, h⟩ := h
        refine x_newq (t := 3) (N' := 2) G S hA kl_X9_24 ao_X4 rfl (by decide) (by decide) (Nat.le_of_ble_eq_true rfl) hc1 hc2 dX9_init_58 (fun q18 H hq18 S => ?_)
        have h := h q18 hq18 _ rfl
        obtain ⟨fs20, hfs20, hkfs20, h⟩ := h
        have h := h _ rfl
        refine x_putF G hin S hfs20 hkfs20 rfl rfl ff_X9_26 dX9_init_61 (fun H locs S => ?_)
        obtain ⟨hc1, hc2, h⟩ := h
        refine x_new G S hA nw_X9_30 hc1 hc2 dX9_init_64 (fun q22 H hq22 S => ?_)
        have h := h q22 hq22 _ rfl
        refine lv_dup hx hb dX9_init_67 rfl ?_
        obtain ⟨m24, m25, hm1, hm2, h⟩ := h
        refine x_cMIv (As := []) (rest := [.ref q22]) G S hA (c_X6_init l D kA _ _ _ _ _ q22 h) cd_X6_init ml_X9_32 ⟨(Nat.le_of_ble_eq_true rfl), (Nat.le_of_ble_eq_true rfl)⟩ rfl hl.1 rfl (Nat.le_of_ble_eq_true rfl) dX9_init_68 ⟨hm1, hm2⟩ (fun X H locs h S => ?_)
        refine lv_astore_n (lv' := [(1, .ref q22), (0, .ref v0)]) hx hb dX9_init_71 rfl hl (by decide) rfl (fun ls hl => ?_)
        refine lv_iconst (v := (0 : Int32)) hx hb dX9_init_72 (by decide) ?_
        refine lv_istore_n (lv' := [(2, .int (0 : Int32)), (1, .ref q22), (0, .ref v0)]) hx hb dX9_init_73 rfl hl (by decide) rfl (fun ls hl => ?_)
        obtain ⟨n27, h⟩ := h
        exact J_74 n27 _ _ _ _ _ _ _ h S ls (lv_sub hl [2, 1, 0] rfl)
      · have h := h.2 c17
        refine lv_aload_n hx hb dX9_init_37 rfl (lv_at hl 0 rfl) ?_
        obtain ⟨fs28, y29, hfs28, hvfs28, h⟩ := h
        refine x_get G S.1 hfs28 hvfs28 fl_X9_16 dX9_init_38 ?_
        refine lv_iload_n hx hb dX9_init_41 rfl (lv_at hl 1 rfl) ?_
        obtain ⟨hc1, hc2, h⟩ := h
        refine x_new G S hA nw_X9_9 hc1 hc2 dX9_init_42 (fun q30 H hq30 S => ?_)
        have h := h q30 hq30 _ rfl
        refine lv_dup hx hb dX9_init_45 rfl ?_
        obtain ⟨m32, m33, hm1, hm2, h⟩ := h
        refine x_cMIv (As := []) (rest := [.ref q30, .int b32_1, .ref y29]) G S hA (c_X1_init l D kA _ _ _ _ _ q30 h) cd_X1_init ml_X9_11 ⟨(Nat.le_of_ble_eq_true rfl), (Nat.le_of_ble_eq_true rfl)⟩ rfl hl.1 rfl (Nat.le_of_ble_eq_true rfl) dX9_init_46 ⟨hm1, hm2⟩ (fun X H locs h S => ?_)
        obtain ⟨n35, f36, fs37, hf36, hfs37, hif36, h⟩ := h
        have h := h _ rfl
        refine x_aast G S hf36 rfl hfs37 rfl hif36 dX9_init_49 (fun H locs S => ?_)
        obtain ⟨x39, ex39⟩ : ∃ y : Int32, y = b32_1 + (1 : Int32) := ⟨_, rfl⟩
        have h := h x39 ex39
        refine lv_iinc (v := x39) (lv' := [(1, .int x39), (0, .ref v0)]) hx hb dX9_init_50 hl (k := 1) rfl (by rw [ex39]; rfl) (by decide) rfl (fun ls hl => ?_)
        refine lv_goto (tgt := 32) hx hb dX9_init_53 (by decide) ?_
        exact ih_32 _ _ _ _ _ _ h S ls (lv_sub hl [1, 0] rfl)
  refine lv_aload_n hx hb dX9_init_0 rfl (lv_at hl 0 rfl) ?_
  refine x_objInit G mk_X9_3 oi_ins oi_cod hl.1 dX9_init_1 (Nat.le_of_ble_eq_true rfl) (Nat.le_of_ble_eq_true rfl) ?_
  refine lv_aload_n hx hb dX9_init_4 rfl (lv_at hl 0 rfl) ?_
  obtain ⟨hc1, hc2, h⟩ := h
  refine x_new G S hA nw_X9_9 hc1 hc2 dX9_init_5 (fun q1 H hq1 S => ?_)
  have h := h q1 hq1 _ rfl
  refine lv_dup hx hb dX9_init_8 rfl ?_
  obtain ⟨m3, m4, hm1, hm2, h⟩ := h
  refine x_cMIv (As := []) (rest := [.ref q1, .ref v0]) G S hA (c_X1_init l D kA _ _ _ _ _ q1 h) cd_X1_init ml_X9_11 ⟨(Nat.le_of_ble_eq_true rfl), (Nat.le_of_ble_eq_true rfl)⟩ rfl hl.1 rfl (Nat.le_of_ble_eq_true rfl) dX9_init_9 ⟨hm1, hm2⟩ (fun X H locs h S => ?_)
  obtain ⟨fs6, hfs6, hkfs6, h⟩ := h
  have h := h _ rfl
  refine x_putF G hin S hfs6 hkfs6 rfl rfl ff_X9_12 dX9_init_12 (fun H locs S => ?_)
  refine lv_aload_n hx hb dX9_init_15 rfl (lv_at hl 0 rfl) ?_
  refine lv_iconst (v := (2 : Int32)) hx hb dX9_init_16 (by decide) ?_
  obtain ⟨hc1, hc2, h⟩ := h
  refine x_newq (t := 2) (N' := 2) G S hA kl_X9_9 ao_X1 rfl (by decide) (by decide) (Nat.le_of_ble_eq_true rfl) hc1 hc2 dX9_init_17 (fun q8 H hq8 S => ?_)
  have h := h q8 hq8 _ rfl
  obtain ⟨fs10, hfs10, hkfs10, h⟩ := h
  have h := h _ rfl
  refine x_putF G hin S hfs10 hkfs10 rfl rfl ff_X9_16 dX9_init_20 (fun H locs S => ?_)
  refine lv_aload_n hx hb dX9_init_23 rfl (lv_at hl 0 rfl) ?_
  refine lv_iconst (v := (2 : Int32)) hx hb dX9_init_24 (by decide) ?_
  obtain ⟨hc1, hc2, h⟩ := h
  refine x_newa (atype := .boolean) (t := 1) (N' := 2) G S hA ac_boo rfl rfl (fun z => z) rfl (by decide) (by decide) (Nat.le_of_ble_eq_true rfl) hc1 hc2 dX9_init_25 (fun q12 H hq12 S => ?_)
  have h := h q12 hq12 _ rfl
  obtain ⟨fs14, hfs14, hkfs14, h⟩ := h
  have h := h _ rfl
  refine x_putF G hin S hfs14 hkfs14 rfl rfl ff_X9_20 dX9_init_27 (fun H locs S => ?_)
  refine lv_iconst (v := (0 : Int32)) hx hb dX9_init_30 (by decide) ?_
  refine lv_istore_n (lv' := [(1, .int (0 : Int32)), (0, .ref v0)]) hx hb dX9_init_31 rfl hl (by decide) rfl (fun ls hl => ?_)
  obtain ⟨n16, h⟩ := h
  exact J_32 n16 _ _ _ _ _ _ h S ls (lv_sub hl [1, 0] rfl)
def wp_X9_planOf (post : Option Nat → Prop) (X : Hp) (v0 : Nat) (v1 : Int32) : Prop := wp_X9_within (fun r1 => (r1 = 0 → post none) ∧ (¬ r1 = 0 → ∃ (fs3 : List Value) (y4 : Nat), Hs X v0 (.inr (9, fs3)) ∧ fs3[3]? = some (.ref y4) ∧ ∃ (n5 : Nat) (f6 : Nat → Option Nat) (y7 : Nat), Hs X y4 (.inl (3, n5, qA f6)) ∧ vp_in v1 n5 ∧ f6 v1.toNatClampNeg = some y7 ∧ post (some y7)))  X v1 (0 : Int32) (1 : Int32)
set_option maxHeartbeats 4000000 in
set_option maxRecDepth 100000 in
theorem c_X9_planOf (l : Launch) (D : va_G) (kA : Nat → ClassId) (post : Option Nat → Prop) (X : Hp) (v0 : Nat) (v1 : Int32) (h : wp_X9_planOf post X v0 v1) : Met l yX9_planOf (.code yX9_planOf cX9_planOf 2 (some (.object "NapVoyage$Plan")) :: gd) (rmO 1 0 0 22) (va_Pc [Value.ref v0, Value.int v1] (Pre D kA X)) (va_Sq post) 0 0 (fun _ => False) := by
  unfold wp_X9_planOf at h
  refine x_enR (by decide) (Nat.le_of_ble_eq_true rfl) ?_
  intro p e s m below meth c G hr hlk hP ls hl
  obtain ⟨hx, hb, hml, hown, hts, hE, hK⟩ := id G
  have hl : lv_has ls 2 [(0, .ref v0), (1, .int v1)] := hl
  refine lv_iload_n hx hb dX9_planOf_0 rfl (lv_at hl 1 rfl) ?_
  refine lv_iconst (v := (0 : Int32)) hx hb dX9_planOf_1 (by decide) ?_
  refine lv_iconst (v := (1 : Int32)) hx hb dX9_planOf_2 (by decide) ?_
  refine x_cRSi (As := [.int v1, .int (0 : Int32), .int (1 : Int32)]) (rest := []) G hP (c_X9_within l D kA _ _ v1 (0 : Int32) (1 : Int32) h) cd_X9_within ml_X9_64 ⟨(Nat.le_of_ble_eq_true rfl), (Nat.le_of_ble_eq_true rfl)⟩ rfl hl.1 rfl (Nat.le_of_ble_eq_true rfl) dX9_planOf_3 ⟨Nat.zero_le _, Nat.zero_le _⟩ (fun r1 h => ?_)
  refine lv_if_eq (tgt := 18) hx hb dX9_planOf_6 (by decide) (fun c2 => ?_) (fun c2 => ?_)
  · have h := h.1 c2
    refine lv_null hx hb dX9_planOf_18 ?_
    exact x_aretR (r := none) G hr hlk h dX9_planOf_19
  · have h := h.2 c2
    refine lv_aload_n hx hb dX9_planOf_9 rfl (lv_at hl 0 rfl) ?_
    obtain ⟨fs3, y4, hfs3, hvfs3, h⟩ := h
    refine x_get G hP hfs3 hvfs3 fl_X9_26 dX9_planOf_10 ?_
    refine lv_iload_n hx hb dX9_planOf_13 rfl (lv_at hl 1 rfl) ?_
    obtain ⟨n5, f6, y7, hf6, hif6, hqf6, h⟩ := h
    refine x_aald (C := "NapVoyage$Plan") G hP hf6 rfl hif6 dX9_planOf_14 ?_
    refine x_som hqf6 ?_
    refine lv_goto (tgt := 19) hx hb dX9_planOf_15 (by decide) ?_
    exact x_aretR (r := (some y7)) G hr hlk h dX9_planOf_19
def wp_X9_leg (post : Int32 → Hp → Prop) (X : Hp) (v0 : Nat) (v1 : Int32) (v2 : Int32) (v3 : Int32) (v4 : Int32) : Prop := ∃ fs25 : List Value, Hs X v0 (.inr (9, fs25)) ∧ wp_X9_planOf (fun r1 => (r1 = none → post (-1 : Int32) X) ∧ (∀ y2 : Nat, r1 = some y2 → wp_X9_within (fun r4 => (r4 = 0 → post (-2 : Int32) X) ∧ (¬ r4 = 0 → wp_X9_within (fun r6 => (r6 = 0 → post (-2 : Int32) X) ∧ (¬ r6 = 0 → wp_X9_within (fun r8 => (¬ r8 = 0 → ∃ (fs10 : List Value) (y11 : Nat), Hs X y2 (.inr (4, fs10)) ∧ fs10[0]? = some (.ref y11) ∧ ∃ fs24 : List Value, Hs X y11 (.inr (8, fs24)) ∧ wp_X8_hasRoom (fun r12 => (¬ r12 = 0 → ∃ (fs14 : List Value) (y15 : Nat), Hs X y2 (.inr (4, fs14)) ∧ fs14[0]? = some (.ref y15) ∧ ∃ fs23 : List Value, Hs X y15 (.inr (8, fs23)) ∧ wp_X8_lengthen (fun X16 => ∃ fs22 : List Value, Hs X16 y2 (.inr (4, fs22)) ∧ wp_X4_forget (fun X17 => ∃ (fs18 : List Value) (y19 : Nat), Hs X17 y2 (.inr (4, fs18)) ∧ fs18[0]? = some (.ref y19) ∧ ∃ (fs20 : List Value) (y21 : Int32), Hs X17 y19 (.inr (8, fs20)) ∧ fs20[1]? = some (.int y21) ∧ post y21 X17)  X16 y2)  X y15 v2 v3 v4) ∧ (r12 = 0 → post (-4 : Int32) X))  X y11 v2) ∧ (r8 = 0 → post (-2 : Int32) X))  X v4 (0 : Int32) (1 : Int32)))  X v3 (0 : Int32) (500 : Int32)))  X v2 (1 : Int32) (24 : Int32)))  X v0 v1
set_option maxHeartbeats 4000000 in
set_option maxRecDepth 100000 in
theorem c_X9_leg (l : Launch) (D : va_G) (kA : Nat → ClassId) (post : Int32 → Hp → Prop) (X : Hp) (sz : Nat) (v0 : Nat) (v1 : Int32) (v2 : Int32) (v3 : Int32) (v4 : Int32) (h : wp_X9_leg post X v0 v1 v2 v3 v4) : Met l yX9_leg (.code yX9_leg cX9_leg 6 (some .int) :: gd) (rmO 2 0 0 45) (va_Pc [Value.ref v0, Value.int v1, Value.int v2, Value.int v3, Value.int v4] (PreM D kA X sz)) (va_Qi post (PoM D kA X sz) (va_A (hw kA X) sz)) 0 0 (va_A (hw kA X) sz) := by
  unfold wp_X9_leg at h
  refine x_enM (by decide) (Nat.le_of_ble_eq_true rfl) ?_
  intro p e s m below meth c G hr hlk hin hsz hA S ls hl
  obtain ⟨hx, hb, hml, hown, hts, hE, hK⟩ := id G
  have hl : lv_has ls 6 [(0, .ref v0), (1, .int v1), (2, .int v2), (3, .int v3), (4, .int v4)] := hl
  refine lv_aload_n hx hb dX9_leg_0 rfl (lv_at hl 0 rfl) ?_
  refine lv_iload_n hx hb dX9_leg_1 rfl (lv_at hl 1 rfl) ?_
  obtain ⟨fs25, hfs25, h⟩ := h
  refine x_cRVq (As := [.int v1]) (rest := []) G S.1 hfs25 rfl rfl (c_X9_planOf l D kA _ _ v0 v1 h) cd_X9_planOf ml_X9_60 ⟨(Nat.le_of_ble_eq_true rfl), (Nat.le_of_ble_eq_true rfl)⟩ rfl hl.1 rfl (Nat.le_of_ble_eq_true rfl) dX9_leg_2 ⟨Nat.zero_le _, Nat.zero_le _⟩ (fun r1 h => ?_)
  refine x_spl (fun c3 => ?_) (fun y2 c3 => ?_)
  · have h := h.1 c3
    refine lv_astoreN (lv' := [(5, .null), (0, .ref v0), (1, .int v1), (2, .int v2), (3, .int v3), (4, .int v4)]) hx hb dX9_leg_5 hl (by decide) rfl (fun ls hl => ?_)
    refine lv_aloadN hx hb dX9_leg_7 (lv_at hl 0 rfl) ?_
    refine lv_ifnonnullN hx hb dX9_leg_9 ?_
    refine lv_iconst (v := (-1 : Int32)) hx hb dX9_leg_12 (by decide) ?_
    exact x_iretM G hr hlk S (Nat.le_refl _) (Nat.le_refl _) h dX9_leg_13
  · have h := h.2 y2 c3
    refine lv_astore (lv' := [(5, .ref y2), (0, .ref v0), (1, .int v1), (2, .int v2), (3, .int v3), (4, .int v4)]) hx hb dX9_leg_5 hl (by decide) rfl (fun ls hl => ?_)
    refine lv_aload hx hb dX9_leg_7 (lv_at hl 0 rfl) ?_
    refine lv_ifnonnull (tgt := 14) hx hb dX9_leg_9 (by decide) ?_
    refine lv_iload_n hx hb dX9_leg_14 rfl (lv_at hl 3 rfl) ?_
    refine lv_iconst (v := (1 : Int32)) hx hb dX9_leg_15 (by decide) ?_
    refine lv_bipush (v := (24 : Int32)) hx hb dX9_leg_16 (by decide) ?_
    refine x_cRSi (As := [.int v2, .int (1 : Int32), .int (24 : Int32)]) (rest := []) G S.1 (c_X9_within l D kA _ _ v2 (1 : Int32) (24 : Int32) h) cd_X9_within ml_X9_64 ⟨(Nat.le_of_ble_eq_true rfl), (Nat.le_of_ble_eq_true rfl)⟩ rfl hl.1 rfl (Nat.le_of_ble_eq_true rfl) dX9_leg_18 ⟨Nat.zero_le _, Nat.zero_le _⟩ (fun r4 h => ?_)
    refine lv_if_eq (tgt := 45) hx hb dX9_leg_21 (by decide) (fun c5 => ?_) (fun c5 => ?_)
    · have h := h.1 c5
      refine lv_bipush (v := (-2 : Int32)) hx hb dX9_leg_45 (by decide) ?_
      exact x_iretM G hr hlk S (Nat.le_refl _) (Nat.le_refl _) h dX9_leg_47
    · have h := h.2 c5
      refine lv_iload_n hx hb dX9_leg_24 rfl (lv_at hl 4 rfl) ?_
      refine lv_iconst (v := (0 : Int32)) hx hb dX9_leg_25 (by decide) ?_
      refine lv_sipush (v := (500 : Int32)) hx hb dX9_leg_26 (by decide) ?_
      refine x_cRSi (As := [.int v3, .int (0 : Int32), .int (500 : Int32)]) (rest := []) G S.1 (c_X9_within l D kA _ _ v3 (0 : Int32) (500 : Int32) h) cd_X9_within ml_X9_64 ⟨(Nat.le_of_ble_eq_true rfl), (Nat.le_of_ble_eq_true rfl)⟩ rfl hl.1 rfl (Nat.le_of_ble_eq_true rfl) dX9_leg_29 ⟨Nat.zero_le _, Nat.zero_le _⟩ (fun r6 h => ?_)
      refine lv_if_eq (tgt := 45) hx hb dX9_leg_32 (by decide) (fun c7 => ?_) (fun c7 => ?_)
      · have h := h.1 c7
        refine lv_bipush (v := (-2 : Int32)) hx hb dX9_leg_45 (by decide) ?_
        exact x_iretM G hr hlk S (Nat.le_refl _) (Nat.le_refl _) h dX9_leg_47
      · have h := h.2 c7
        refine lv_iload hx hb dX9_leg_35 (lv_at hl 5 rfl) ?_
        refine lv_iconst (v := (0 : Int32)) hx hb dX9_leg_37 (by decide) ?_
        refine lv_iconst (v := (1 : Int32)) hx hb dX9_leg_38 (by decide) ?_
        refine x_cRSi (As := [.int v4, .int (0 : Int32), .int (1 : Int32)]) (rest := []) G S.1 (c_X9_within l D kA _ _ v4 (0 : Int32) (1 : Int32) h) cd_X9_within ml_X9_64 ⟨(Nat.le_of_ble_eq_true rfl), (Nat.le_of_ble_eq_true rfl)⟩ rfl hl.1 rfl (Nat.le_of_ble_eq_true rfl) dX9_leg_39 ⟨Nat.zero_le _, Nat.zero_le _⟩ (fun r8 h => ?_)
        refine lv_if_ne (tgt := 48) hx hb dX9_leg_42 (by decide) (fun c9 => ?_) (fun c9 => ?_)
        · have h := h.1 c9
          refine lv_aload hx hb dX9_leg_48 (lv_at hl 0 rfl) ?_
          obtain ⟨fs10, y11, hfs10, hvfs10, h⟩ := h
          refine x_get G S.1 hfs10 hvfs10 fl_X9_68 dX9_leg_50 ?_
          refine lv_iload_n hx hb dX9_leg_53 rfl (lv_at hl 3 rfl) ?_
          obtain ⟨fs24, hfs24, h⟩ := h
          refine x_cRVi (As := [.int v2]) (rest := []) G S.1 hfs24 rfl rfl (c_X8_hasRoom l D kA _ _ y11 v2 h) cd_X8_hasRoom ml_X9_72 ⟨(Nat.le_of_ble_eq_true rfl), (Nat.le_of_ble_eq_true rfl)⟩ rfl hl.1 rfl (Nat.le_of_ble_eq_true rfl) dX9_leg_54 ⟨Nat.zero_le _, Nat.zero_le _⟩ (fun r12 h => ?_)
          refine lv_if_ne (tgt := 63) hx hb dX9_leg_57 (by decide) (fun c13 => ?_) (fun c13 => ?_)
          · have h := h.1 c13
            refine lv_aload hx hb dX9_leg_63 (lv_at hl 0 rfl) ?_
            obtain ⟨fs14, y15, hfs14, hvfs14, h⟩ := h
            refine x_get G S.1 hfs14 hvfs14 fl_X9_68 dX9_leg_65 ?_
            refine lv_iload_n hx hb dX9_leg_68 rfl (lv_at hl 3 rfl) ?_
            refine lv_iload_n hx hb dX9_leg_69 rfl (lv_at hl 4 rfl) ?_
            refine lv_iload hx hb dX9_leg_70 (lv_at hl 5 rfl) ?_
            obtain ⟨fs23, hfs23, h⟩ := h
            refine x_cMVv (As := [.int v2, .int v3, .int v4]) (rest := []) G S hA hfs23 rfl rfl (c_X8_lengthen l D kA _ _ _ y15 v2 v3 v4 h) cd_X8_lengthen ml_X9_78 ⟨(Nat.le_of_ble_eq_true rfl), (Nat.le_of_ble_eq_true rfl)⟩ rfl hl.1 rfl (Nat.le_of_ble_eq_true rfl) dX9_leg_72 ⟨Nat.zero_le _, Nat.zero_le _⟩ (fun X H locs h S => ?_)
            refine lv_aload hx hb dX9_leg_75 (lv_at hl 0 rfl) ?_
            obtain ⟨fs22, hfs22, h⟩ := h
            refine x_cMVv (As := []) (rest := []) G S hA hfs22 rfl rfl (c_X4_forget l D kA _ _ _ y2 h) cd_X4_forget ml_X9_82 ⟨(Nat.le_of_ble_eq_true rfl), (Nat.le_of_ble_eq_true rfl)⟩ rfl hl.1 rfl (Nat.le_of_ble_eq_true rfl) dX9_leg_77 ⟨Nat.zero_le _, Nat.zero_le _⟩ (fun X H locs h S => ?_)
            refine lv_aload hx hb dX9_leg_80 (lv_at hl 0 rfl) ?_
            obtain ⟨fs18, y19, hfs18, hvfs18, h⟩ := h
            refine x_get G S.1 hfs18 hvfs18 fl_X9_68 dX9_leg_82 ?_
            obtain ⟨fs20, y21, hfs20, hvfs20, h⟩ := h
            refine x_get G S.1 hfs20 hvfs20 fl_X9_85 dX9_leg_85 ?_
            exact x_iretM G hr hlk S (Nat.le_refl _) (Nat.le_refl _) h dX9_leg_88
          · have h := h.2 c13
            refine lv_bipush (v := (-4 : Int32)) hx hb dX9_leg_60 (by decide) ?_
            exact x_iretM G hr hlk S (Nat.le_refl _) (Nat.le_refl _) h dX9_leg_62
        · have h := h.2 c9
          refine lv_bipush (v := (-2 : Int32)) hx hb dX9_leg_45 (by decide) ?_
          exact x_iretM G hr hlk S (Nat.le_refl _) (Nat.le_refl _) h dX9_leg_47
def wp_X9_cut (post : Int32 → Hp → Prop) (X : Hp) (v0 : Nat) (v1 : Int32) : Prop := ∃ fs19 : List Value, Hs X v0 (.inr (9, fs19)) ∧ wp_X9_planOf (fun r1 => (r1 = none → post (-1 : Int32) X) ∧ (∀ y2 : Nat, r1 = some y2 → ∃ (fs4 : List Value) (y5 : Nat), Hs X y2 (.inr (4, fs4)) ∧ fs4[0]? = some (.ref y5) ∧ ∃ (fs6 : List Value) (y7 : Int32), Hs X y5 (.inr (8, fs6)) ∧ fs6[0]? = some (.int y7) ∧ (¬ y7 = 0 → ∃ (fs9 : List Value) (y10 : Nat), Hs X y2 (.inr (4, fs9)) ∧ fs9[0]? = some (.ref y10) ∧ ∃ fs18 : List Value, Hs X y10 (.inr (8, fs18)) ∧ wp_X8_shorten (fun X11 => ∃ fs17 : List Value, Hs X11 y2 (.inr (4, fs17)) ∧ wp_X4_forget (fun X12 => ∃ (fs13 : List Value) (y14 : Nat), Hs X12 y2 (.inr (4, fs13)) ∧ fs13[0]? = some (.ref y14) ∧ ∃ (fs15 : List Value) (y16 : Int32), Hs X12 y14 (.inr (8, fs15)) ∧ fs15[0]? = some (.int y16) ∧ post y16 X12)  X11 y2)  X y10) ∧ (y7 = 0 → post (-5 : Int32) X)))  X v0 v1
set_option maxHeartbeats 4000000 in
set_option maxRecDepth 100000 in
theorem c_X9_cut (l : Launch) (D : va_G) (kA : Nat → ClassId) (post : Int32 → Hp → Prop) (X : Hp) (sz : Nat) (v0 : Nat) (v1 : Int32) (h : wp_X9_cut post X v0 v1) : Met l yX9_cut (.code yX9_cut cX9_cut 3 (some .int) :: gd) (rmO 2 0 0 43) (va_Pc [Value.ref v0, Value.int v1] (PreM D kA X sz)) (va_Qi post (PoM D kA X sz) (va_A (hw kA X) sz)) 0 0 (va_A (hw kA X) sz) := by
  unfold wp_X9_cut at h
  refine x_enM (by decide) (Nat.le_of_ble_eq_true rfl) ?_
  intro p e s m below meth c G hr hlk hin hsz hA S ls hl
  obtain ⟨hx, hb, hml, hown, hts, hE, hK⟩ := id G
  have hl : lv_has ls 3 [(0, .ref v0), (1, .int v1)] := hl
  refine lv_aload_n hx hb dX9_cut_0 rfl (lv_at hl 0 rfl) ?_
  refine lv_iload_n hx hb dX9_cut_1 rfl (lv_at hl 1 rfl) ?_
  obtain ⟨fs19, hfs19, h⟩ := h
  refine x_cRVq (As := [.int v1]) (rest := []) G S.1 hfs19 rfl rfl (c_X9_planOf l D kA _ _ v0 v1 h) cd_X9_planOf ml_X9_60 ⟨(Nat.le_of_ble_eq_true rfl), (Nat.le_of_ble_eq_true rfl)⟩ rfl hl.1 rfl (Nat.le_of_ble_eq_true rfl) dX9_cut_2 ⟨Nat.zero_le _, Nat.zero_le _⟩ (fun r1 h => ?_)
  refine x_spl (fun c3 => ?_) (fun y2 c3 => ?_)
  · have h := h.1 c3
    refine lv_astore_nN (lv' := [(2, .null), (0, .ref v0), (1, .int v1)]) hx hb dX9_cut_5 rfl hl (by decide) rfl (fun ls hl => ?_)
    refine lv_aload_nN hx hb dX9_cut_6 rfl (lv_at hl 0 rfl) ?_
    refine lv_ifnonnullN hx hb dX9_cut_7 ?_
    refine lv_iconst (v := (-1 : Int32)) hx hb dX9_cut_10 (by decide) ?_
    exact x_iretM G hr hlk S (Nat.le_refl _) (Nat.le_refl _) h dX9_cut_11
  · have h := h.2 y2 c3
    refine lv_astore_n (lv' := [(2, .ref y2), (0, .ref v0), (1, .int v1)]) hx hb dX9_cut_5 rfl hl (by decide) rfl (fun ls hl => ?_)
    refine lv_aload_n hx hb dX9_cut_6 rfl (lv_at hl 0 rfl) ?_
    refine lv_ifnonnull (tgt := 12) hx hb dX9_cut_7 (by decide) ?_
    refine lv_aload_n hx hb dX9_cut_12 rfl (lv_at hl 0 rfl) ?_
    obtain ⟨fs4, y5, hfs4, hvfs4, h⟩ := h
    refine x_get G S.1 hfs4 hvfs4 fl_X9_68 dX9_cut_13 ?_
    obtain ⟨fs6, y7, hfs6, hvfs6, h⟩ := h
    refine x_get G S.1 hfs6 hvfs6 fl_X9_89 dX9_cut_16 ?_
    refine lv_if_ne (tgt := 25) hx hb dX9_cut_19 (by decide) (fun c8 => ?_) (fun c8 => ?_)
    · have h := h.1 c8
      refine lv_aload_n hx hb dX9_cut_25 rfl (lv_at hl 0 rfl) ?_
      obtain ⟨fs9, y10, hfs9, hvfs9, h⟩ := h
      refine x_get G S.1 hfs9 hvfs9 fl_X9_68 dX9_cut_26 ?_
      obtain ⟨fs18, hfs18, h⟩ := h
      refine x_cMVv (As := []) (rest := []) G S hA hfs18 rfl rfl (c_X8_shorten l D kA _ _ _ y10 h) cd_X8_shorten ml_X9_92 ⟨(Nat.le_of_ble_eq_true rfl), (Nat.le_of_ble_eq_true rfl)⟩ rfl hl.1 rfl (Nat.le_of_ble_eq_true rfl) dX9_cut_29 ⟨Nat.zero_le _, Nat.zero_le _⟩ (fun X H locs h S => ?_)
      refine lv_aload_n hx hb dX9_cut_32 rfl (lv_at hl 0 rfl) ?_
      obtain ⟨fs17, hfs17, h⟩ := h
      refine x_cMVv (As := []) (rest := []) G S hA hfs17 rfl rfl (c_X4_forget l D kA _ _ _ y2 h) cd_X4_forget ml_X9_82 ⟨(Nat.le_of_ble_eq_true rfl), (Nat.le_of_ble_eq_true rfl)⟩ rfl hl.1 rfl (Nat.le_of_ble_eq_true rfl) dX9_cut_33 ⟨Nat.zero_le _, Nat.zero_le _⟩ (fun X H locs h S => ?_)
      refine lv_aload_n hx hb dX9_cut_36 rfl (lv_at hl 0 rfl) ?_
      obtain ⟨fs13, y14, hfs13, hvfs13, h⟩ := h
      refine x_get G S.1 hfs13 hvfs13 fl_X9_68 dX9_cut_37 ?_
      obtain ⟨fs15, y16, hfs15, hvfs15, h⟩ := h
      refine x_get G S.1 hfs15 hvfs15 fl_X9_89 dX9_cut_40 ?_
      exact x_iretM G hr hlk S (Nat.le_refl _) (Nat.le_refl _) h dX9_cut_43
    · have h := h.2 c8
      refine lv_bipush (v := (-5 : Int32)) hx hb dX9_cut_22 (by decide) ?_
      exact x_iretM G hr hlk S (Nat.le_refl _) (Nat.le_refl _) h dX9_cut_24
def wp_X9_wayOf (post : Option Nat → Prop) (X : Hp) (v0 : Nat) (v1 : Int32) : Prop := wp_X9_within (fun r1 => (r1 = 0 → post none) ∧ (¬ r1 = 0 → ∃ (fs3 : List Value) (y4 : Nat), Hs X v0 (.inr (9, fs3)) ∧ fs3[0]? = some (.ref y4) ∧ ∃ (fs5 : List Value) (y6 : Nat), Hs X y4 (.inr (1, fs5)) ∧ fs5[0]? = some (.ref y6) ∧ ∃ (n7 : Nat) (f8 : Nat → Option Nat) (y9 : Nat), Hs X y6 (.inl (5, n7, qA f8)) ∧ vp_in v1 n7 ∧ f8 v1.toNatClampNeg = some y9 ∧ post (some y9)))  X v1 (0 : Int32) (1 : Int32)
set_option maxHeartbeats 4000000 in
set_option maxRecDepth 100000 in
theorem c_X9_wayOf (l : Launch) (D : va_G) (kA : Nat → ClassId) (post : Option Nat → Prop) (X : Hp) (v0 : Nat) (v1 : Int32) (h : wp_X9_wayOf post X v0 v1) : Met l yX9_wayOf (.code yX9_wayOf cX9_wayOf 2 (some (.object "NapVoyage$Way")) :: gd) (rmO 1 0 0 22) (va_Pc [Value.ref v0, Value.int v1] (Pre D kA X)) (va_Sq post) 0 0 (fun _ => False) := by
  unfold wp_X9_wayOf at h
  refine x_enR (by decide) (Nat.le_of_ble_eq_true rfl) ?_
  intro p e s m below meth c G hr hlk hP ls hl
  obtain ⟨hx, hb, hml, hown, hts, hE, hK⟩ := id G
  have hl : lv_has ls 2 [(0, .ref v0), (1, .int v1)] := hl
  refine lv_iload_n hx hb dX9_wayOf_0 rfl (lv_at hl 1 rfl) ?_
  refine lv_iconst (v := (0 : Int32)) hx hb dX9_wayOf_1 (by decide) ?_
  refine lv_iconst (v := (1 : Int32)) hx hb dX9_wayOf_2 (by decide) ?_
  refine x_cRSi (As := [.int v1, .int (0 : Int32), .int (1 : Int32)]) (rest := []) G hP (c_X9_within l D kA _ _ v1 (0 : Int32) (1 : Int32) h) cd_X9_within ml_X9_64 ⟨(Nat.le_of_ble_eq_true rfl), (Nat.le_of_ble_eq_true rfl)⟩ rfl hl.1 rfl (Nat.le_of_ble_eq_true rfl) dX9_wayOf_3 ⟨Nat.zero_le _, Nat.zero_le _⟩ (fun r1 h => ?_)
  refine lv_if_eq (tgt := 21) hx hb dX9_wayOf_6 (by decide) (fun c2 => ?_) (fun c2 => ?_)
  · have h := h.1 c2
    refine lv_null hx hb dX9_wayOf_21 ?_
    exact x_aretR (r := none) G hr hlk h dX9_wayOf_22
  · have h := h.2 c2
    refine lv_aload_n hx hb dX9_wayOf_9 rfl (lv_at hl 0 rfl) ?_
    obtain ⟨fs3, y4, hfs3, hvfs3, h⟩ := h
    refine x_get G hP hfs3 hvfs3 fl_X9_12 dX9_wayOf_10 ?_
    obtain ⟨fs5, y6, hfs5, hvfs5, h⟩ := h
    refine x_get G hP hfs5 hvfs5 fl_X9_33 dX9_wayOf_13 ?_
    refine lv_iload_n hx hb dX9_wayOf_16 rfl (lv_at hl 1 rfl) ?_
    obtain ⟨n7, f8, y9, hf8, hif8, hqf8, h⟩ := h
    refine x_aald (C := "NapVoyage$Way") G hP hf8 rfl hif8 dX9_wayOf_17 ?_
    refine x_som hqf8 ?_
    refine lv_goto (tgt := 22) hx hb dX9_wayOf_18 (by decide) ?_
    exact x_aretR (r := (some y9)) G hr hlk h dX9_wayOf_22
def wp_X9_about (post : Int32 → Prop) (X : Hp) (v0 : Nat) (v1 : Int32) (v2 : Int32) (v3 : Int32) : Prop := ∃ fs25 : List Value, Hs X v0 (.inr (9, fs25)) ∧ wp_X9_wayOf (fun r1 => (r1 = none → post (-1 : Int32)) ∧ (∀ y2 : Nat, r1 = some y2 → ∃ fs24 : List Value, Hs X y2 (.inr (8, fs24)) ∧ wp_X8_hasLeg (fun r4 => (¬ r4 = 0 → (v3 = (0 : Int32) → ∃ (fs7 : List Value) (y8 : Nat), Hs X y2 (.inr (8, fs7)) ∧ fs7[2]? = some (.ref y8) ∧ ∃ (n9 : Nat) (f10 : Nat → Int32), Hs X y8 (.inl (0, n9, .inl f10)) ∧ vp_in v2 n9 ∧ post (f10 v2.toNatClampNeg)) ∧ (v3 = (1 : Int32) → ∃ (fs12 : List Value) (y13 : Nat), Hs X y2 (.inr (8, fs12)) ∧ fs12[3]? = some (.ref y13) ∧ ∃ (n14 : Nat) (f15 : Nat → Int32), Hs X y13 (.inl (0, n14, .inl f15)) ∧ vp_in v2 n14 ∧ post (f15 v2.toNatClampNeg)) ∧ (v3 = (2 : Int32) → ∃ (fs17 : List Value) (y18 : Nat), Hs X y2 (.inr (8, fs17)) ∧ fs17[4]? = some (.ref y18) ∧ ∃ (n19 : Nat) (f20 : Nat → Int32), Hs X y18 (.inl (0, n19, .inl f20)) ∧ vp_in v2 n19 ∧ post (f20 v2.toNatClampNeg)) ∧ (v3 = (3 : Int32) → ∃ fs23 : List Value, Hs X y2 (.inr (8, fs23)) ∧ wp_X8_firstHourOf (fun r22 => post r22)  X y2 v2) ∧ (¬ v3 = (0 : Int32) ∧ ¬ v3 = (1 : Int32) ∧ ¬ v3 = (2 : Int32) ∧ ¬ v3 = (3 : Int32) → post (-2 : Int32))) ∧ (r4 = 0 → post (-1 : Int32)))  X y2 v2))  X v0 v1
set_option maxHeartbeats 4000000 in
set_option maxRecDepth 100000 in
theorem c_X9_about (l : Launch) (D : va_G) (kA : Nat → ClassId) (post : Int32 → Prop) (X : Hp) (v0 : Nat) (v1 : Int32) (v2 : Int32) (v3 : Int32) (h : wp_X9_about post X v0 v1 v2 v3) : Met l yX9_about (.code yX9_about cX9_about 5 (some .int) :: gd) (rmO 2 0 0 43) (va_Pc [Value.ref v0, Value.int v1, Value.int v2, Value.int v3] (Pre D kA X)) (vp_Si post) 0 0 (fun _ => False) := by
  unfold wp_X9_about at h
  refine x_enR (by decide) (Nat.le_of_ble_eq_true rfl) ?_
  intro p e s m below meth c G hr hlk hP ls hl
  obtain ⟨hx, hb, hml, hown, hts, hE, hK⟩ := id G
  have hl : lv_has ls 5 [(0, .ref v0), (1, .int v1), (2, .int v2), (3, .int v3)] := hl
  refine lv_aload_n hx hb dX9_about_0 rfl (lv_at hl 0 rfl) ?_
  refine lv_iload_n hx hb dX9_about_1 rfl (lv_at hl 1 rfl) ?_
  obtain ⟨fs25, hfs25, h⟩ := h
  refine x_cRVq (As := [.int v1]) (rest := []) G hP hfs25 rfl rfl (c_X9_wayOf l D kA _ _ v0 v1 h) cd_X9_wayOf ml_X9_95 ⟨(Nat.le_of_ble_eq_true rfl), (Nat.le_of_ble_eq_true rfl)⟩ rfl hl.1 rfl (Nat.le_of_ble_eq_true rfl) dX9_about_2 ⟨Nat.zero_le _, Nat.zero_le _⟩ (fun r1 h => ?_)
  refine x_spl (fun c3 => ?_) (fun y2 c3 => ?_)
  · have h := h.1 c3
    refine lv_astoreN (lv' := [(4, .null), (0, .ref v0), (1, .int v1), (2, .int v2), (3, .int v3)]) hx hb dX9_about_5 hl (by decide) rfl (fun ls hl => ?_)
    refine lv_aloadN hx hb dX9_about_7 (lv_at hl 0 rfl) ?_
    refine lv_ifnullN (tgt := 21) hx hb dX9_about_9 (by decide) ?_
    refine lv_iconst (v := (-1 : Int32)) hx hb dX9_about_21 (by decide) ?_
    exact x_iretR G hr hlk h dX9_about_22
  · have h := h.2 y2 c3
    refine lv_astore (lv' := [(4, .ref y2), (0, .ref v0), (1, .int v1), (2, .int v2), (3, .int v3)]) hx hb dX9_about_5 hl (by decide) rfl (fun ls hl => ?_)
    refine lv_aload hx hb dX9_about_7 (lv_at hl 0 rfl) ?_
    refine lv_ifnull hx hb dX9_about_9 ?_
    refine lv_aload hx hb dX9_about_12 (lv_at hl 0 rfl) ?_
    refine lv_iload_n hx hb dX9_about_14 rfl (lv_at hl 3 rfl) ?_
    obtain ⟨fs24, hfs24, h⟩ := h
    refine x_cRVi (As := [.int v2]) (rest := []) G hP hfs24 rfl rfl (c_X8_hasLeg l D kA _ _ y2 v2 h) cd_X8_hasLeg ml_X9_99 ⟨(Nat.le_of_ble_eq_true rfl), (Nat.le_of_ble_eq_true rfl)⟩ rfl hl.1 rfl (Nat.le_of_ble_eq_true rfl) dX9_about_15 ⟨Nat.zero_le _, Nat.zero_le _⟩ (fun r4 h => ?_)
    refine lv_if_ne (tgt := 23) hx hb dX9_about_18 (by decide) (fun c5 => ?_) (fun c5 => ?_)
    · have h := h.1 c5
      refine lv_iload_n hx hb dX9_about_23 rfl (lv_at hl 4 rfl) ?_
      by_cases c6 : v3 = (0 : Int32)
      · have h := h.1 c6
        refine lv_tableIn (off := 32) (tgt := 56) hx hb dX9_about_24 (by rw [c6]; decide) (by rw [c6]; decide) (by rw [c6]; decide) (by decide) ?_
        refine lv_aload hx hb dX9_about_56 (lv_at hl 0 rfl) ?_
        obtain ⟨fs7, y8, hfs7, hvfs7, h⟩ := h
        refine x_get G hP hfs7 hvfs7 fl_X9_102 dX9_about_58 ?_
        refine lv_iload_n hx hb dX9_about_61 rfl (lv_at hl 3 rfl) ?_
        obtain ⟨n9, f10, hf10, hif10, h⟩ := h
        refine x_iald G hP hf10 hif10 dX9_about_62 ?_
        exact x_iretR G hr hlk h dX9_about_63
      have h := h.2
      by_cases c11 : v3 = (1 : Int32)
      · have h := h.1 c11
        refine lv_tableIn (off := 40) (tgt := 64) hx hb dX9_about_24 (by rw [c11]; decide) (by rw [c11]; decide) (by rw [c11]; decide) (by decide) ?_
        refine lv_aload hx hb dX9_about_64 (lv_at hl 0 rfl) ?_
        obtain ⟨fs12, y13, hfs12, hvfs12, h⟩ := h
        refine x_get G hP hfs12 hvfs12 fl_X9_106 dX9_about_66 ?_
        refine lv_iload_n hx hb dX9_about_69 rfl (lv_at hl 3 rfl) ?_
        obtain ⟨n14, f15, hf15, hif15, h⟩ := h
        refine x_iald G hP hf15 hif15 dX9_about_70 ?_
        exact x_iretR G hr hlk h dX9_about_71
      have h := h.2
      by_cases c16 : v3 = (2 : Int32)
      · have h := h.1 c16
        refine lv_tableIn (off := 48) (tgt := 72) hx hb dX9_about_24 (by rw [c16]; decide) (by rw [c16]; decide) (by rw [c16]; decide) (by decide) ?_
        refine lv_aload hx hb dX9_about_72 (lv_at hl 0 rfl) ?_
        obtain ⟨fs17, y18, hfs17, hvfs17, h⟩ := h
        refine x_get G hP hfs17 hvfs17 fl_X9_109 dX9_about_74 ?_
        refine lv_iload_n hx hb dX9_about_77 rfl (lv_at hl 3 rfl) ?_
        obtain ⟨n19, f20, hf20, hif20, h⟩ := h
        refine x_iald G hP hf20 hif20 dX9_about_78 ?_
        exact x_iretR G hr hlk h dX9_about_79
      have h := h.2
      by_cases c21 : v3 = (3 : Int32)
      · have h := h.1 c21
        refine lv_tableIn (off := 56) (tgt := 80) hx hb dX9_about_24 (by rw [c21]; decide) (by rw [c21]; decide) (by rw [c21]; decide) (by decide) ?_
        refine lv_aload hx hb dX9_about_80 (lv_at hl 0 rfl) ?_
        refine lv_iload_n hx hb dX9_about_82 rfl (lv_at hl 3 rfl) ?_
        obtain ⟨fs23, hfs23, h⟩ := h
        refine x_cRVi (As := [.int v2]) (rest := []) G hP hfs23 rfl rfl (c_X8_firstHourOf l D kA _ _ y2 v2 h) cd_X8_firstHourOf ml_X9_112 ⟨(Nat.le_of_ble_eq_true rfl), (Nat.le_of_ble_eq_true rfl)⟩ rfl hl.1 rfl (Nat.le_of_ble_eq_true rfl) dX9_about_83 ⟨Nat.zero_le _, Nat.zero_le _⟩ (fun r22 h => ?_)
        exact x_iretR G hr hlk h dX9_about_86
      have h := h.2
      have h := h ⟨c6, c11, c16, c21⟩
      refine lv_tableOut (tgt := 87) hx hb dX9_about_24 (by have := lv_neT c6 (show (0 : Int32).toInt = 0 by decide); have := lv_neT c11 (show (1 : Int32).toInt = 1 by decide); have := lv_neT c16 (show (2 : Int32).toInt = 2 by decide); have := lv_neT c21 (show (3 : Int32).toInt = 3 by decide); omega) (by decide) ?_
      refine lv_bipush (v := (-2 : Int32)) hx hb dX9_about_87 (by decide) ?_
      exact x_iretR G hr hlk h dX9_about_89
    · have h := h.2 c5
      refine lv_iconst (v := (-1 : Int32)) hx hb dX9_about_21 (by decide) ?_
      exact x_iretR G hr hlk h dX9_about_22
def bk_X9_forgetPlans_2 (post : Hp → Prop) (v0 : Nat)  : Nat → Hp → Int32 → Prop
  | 0, _, _ => False
  | k + 1, X, b2_1 => ((2 : Int32) ≤ b2_1 → post X) ∧ (¬ (2 : Int32) ≤ b2_1 → ∃ (fs3 : List Value) (y4 : Nat), Hs X v0 (.inr (9, fs3)) ∧ fs3[3]? = some (.ref y4) ∧ ∃ (n5 : Nat) (f6 : Nat → Option Nat) (y7 : Nat), Hs X y4 (.inl (3, n5, qA f6)) ∧ vp_in b2_1 n5 ∧ f6 b2_1.toNatClampNeg = some y7 ∧ ∃ fs10 : List Value, Hs X y7 (.inr (4, fs10)) ∧ wp_X4_forget (fun X8 => ∀ x9 : Int32, x9 = b2_1 + (1 : Int32) → (bk_X9_forgetPlans_2 post v0 k) X8 x9) X y7)
def wp_X9_forgetPlans (post : Hp → Prop) (X : Hp) (v0 : Nat) : Prop := ∃ n1 : Nat, bk_X9_forgetPlans_2 post v0 n1 X (0 : Int32)
set_option maxHeartbeats 4000000 in
set_option maxRecDepth 100000 in
theorem c_X9_forgetPlans (l : Launch) (D : va_G) (kA : Nat → ClassId) (post : Hp → Prop) (X : Hp) (sz : Nat) (v0 : Nat) (h : wp_X9_forgetPlans post X v0) : Met l yX9_forgetPlans (.code yX9_forgetPlans cX9_forgetPlans 2 none :: gd) (rmO 1 0 0 21) (va_Pc [Value.ref v0] (PreM D kA X sz)) (va_Qv post (PoM D kA X sz) (va_A (hw kA X) sz)) 0 0 (va_A (hw kA X) sz) := by
  unfold wp_X9_forgetPlans at h
  refine x_enM (by decide) (Nat.le_of_ble_eq_true rfl) ?_
  intro p e s m below meth c G hr hlk hin hsz hA S ls hl
  obtain ⟨hx, hb, hml, hown, hts, hE, hK⟩ := id G
  have hl : lv_has ls 2 [(0, .ref v0)] := hl
  obtain ⟨X0, hX0⟩ : ∃ Y : Hp, Y = X := ⟨_, rfl⟩
  subst hX0
  have J_2 : ∀ (n : Nat) (X : Hp) (b2_1 : Int32), ∀ (H : Heap) (locs : List Loc) (_ : bk_X9_forgetPlans_2 post v0  n X b2_1), Sx D kA (va_A (hw kA X0) sz) s.heap H locs X → ∀ ls, lv_has ls 2 [(0, .ref v0), (1, .int b2_1)] → W p l e (rmO 1 0 0 21) s m [Value.ref v0].toArray below meth c H locs 0 0 (MQ below (va_Qv post (PoM D kA X0 sz) (va_A (hw kA X0) sz)) [Value.ref v0].toArray s 0 0 (va_A (hw kA X0) sz)) (F0 m 2 ls []) := by
    intro n
    induction n with
    | zero =>
      intro X b2_1 H locs h S ls hl
      rw [bk_X9_forgetPlans_2] at h
      exact h.elim
    | succ n_2 ih_2 =>
      intro X b2_1 H locs h S ls hl
      rw [bk_X9_forgetPlans_2] at h
      refine lv_iload_n hx hb dX9_forgetPlans_2 rfl (lv_at hl 1 rfl) ?_
      refine lv_iconst (v := (2 : Int32)) hx hb dX9_forgetPlans_3 (by decide) ?_
      refine lv_icmp_ge (tgt := 22) hx hb dX9_forgetPlans_4 (by decide) (fun c2 => ?_) (fun c2 => ?_)
      · have h := h.1 c2
        exact x_vretM G hr hlk S (Nat.le_refl _) (Nat.le_refl _) h dX9_forgetPlans_22
      · have h := h.2 c2
        refine lv_aload_n hx hb dX9_forgetPlans_7 rfl (lv_at hl 0 rfl) ?_
        obtain ⟨fs3, y4, hfs3, hvfs3, h⟩ := h
        refine x_get G S.1 hfs3 hvfs3 fl_X9_26 dX9_forgetPlans_8 ?_
        refine lv_iload_n hx hb dX9_forgetPlans_11 rfl (lv_at hl 1 rfl) ?_
        obtain ⟨n5, f6, y7, hf6, hif6, hqf6, h⟩ := h
        refine x_aald (C := "NapVoyage$Plan") G S.1 hf6 rfl hif6 dX9_forgetPlans_12 ?_
        refine x_som hqf6 ?_
        obtain ⟨fs10, hfs10, h⟩ := h
        refine x_cMVv (As := []) (rest := []) G S hA hfs10 rfl rfl (c_X4_forget l D kA _ _ _ y7 h) cd_X4_forget ml_X9_82 ⟨(Nat.le_of_ble_eq_true rfl), (Nat.le_of_ble_eq_true rfl)⟩ rfl hl.1 rfl (Nat.le_of_ble_eq_true rfl) dX9_forgetPlans_13 ⟨Nat.zero_le _, Nat.zero_le _⟩ (fun X H locs h S => ?_)
        obtain ⟨x9, ex9⟩ : ∃ y : Int32, y = b2_1 + (1 : Int32) := ⟨_, rfl⟩
        have h := h x9 ex9
        refine lv_iinc (v := x9) (lv' := [(1, .int x9), (0, .ref v0)]) hx hb dX9_forgetPlans_16 hl (k := 1) rfl (by rw [ex9]; rfl) (by decide) rfl (fun ls hl => ?_)
        refine lv_goto (tgt := 2) hx hb dX9_forgetPlans_19 (by decide) ?_
        exact ih_2 _ _ _ _ h S ls (lv_sub hl [1, 0] rfl)
  refine lv_iconst (v := (0 : Int32)) hx hb dX9_forgetPlans_0 (by decide) ?_
  refine lv_istore_n (lv' := [(1, .int (0 : Int32)), (0, .ref v0)]) hx hb dX9_forgetPlans_1 rfl hl (by decide) rfl (fun ls hl => ?_)
  obtain ⟨n1, h⟩ := h
  exact J_2 n1 _ _ _ _ h S ls (lv_sub hl [1, 0] rfl)
def bk_X9_nap_75 (post : Int32 → Hp → Prop) (v0 : Nat) (v1 : Int32) (v2 : Int32) (v3 : Int32)  (X : Hp) (b75_s0 : Int32) : Prop := ∃ fs24 : List Value, Hs X v0 (.inr (9, fs24)) ∧ wp_X9_forgetPlans (fun X23 => post b75_s0 X23)  X v0
def bk_X9_nap_35 (post : Int32 → Hp → Prop) (v0 : Nat) (v1 : Int32) (v2 : Int32) (v3 : Int32)  (X : Hp) (b35_s0 : Int32) (b35_s1 : Int32) (b35_s2 : Int32) : Prop := wp_X9_within (fun r6 => (¬ r6 = 0 → (¬ v2 = 0 → ∃ (fs9 : List Value) (y10 : Nat), Hs X v0 (.inr (9, fs9)) ∧ fs9[0]? = some (.ref y10) ∧ ∃ (fs11 : List Value) (y12 : Nat), Hs X y10 (.inr (1, fs11)) ∧ fs11[1]? = some (.ref y12) ∧ ∃ fs15 : List Value, Hs X y12 (.inr (2, fs15)) ∧ wp_X2_changeDeep (fun r14 X13 => bk_X9_nap_75 post v0 v1 v2 v3 X13 r14)  X y12 v1 v3) ∧ (v2 = 0 → ∃ (fs16 : List Value) (y17 : Nat), Hs X v0 (.inr (9, fs16)) ∧ fs16[0]? = some (.ref y17) ∧ ∃ (fs18 : List Value) (y19 : Nat), Hs X y17 (.inr (1, fs18)) ∧ fs18[1]? = some (.ref y19) ∧ ∃ fs22 : List Value, Hs X y19 (.inr (2, fs22)) ∧ wp_X2_changeGive (fun r21 X20 => bk_X9_nap_75 post v0 v1 v2 v3 X20 r21)  X y19 v1 v3)) ∧ (r6 = 0 → post (-2 : Int32) X))  X b35_s2 b35_s1 b35_s0
def wp_X9_nap (post : Int32 → Hp → Prop) (X : Hp) (v0 : Nat) (v1 : Int32) (v2 : Int32) (v3 : Int32) : Prop := wp_X9_within (fun r1 => (r1 = 0 → post (-2 : Int32) X) ∧ (¬ r1 = 0 → wp_X9_within (fun r3 => (¬ r3 = 0 → (¬ v2 = 0 → bk_X9_nap_35 post v0 v1 v2 v3 X (1000 : Int32) (0 : Int32) v3) ∧ (v2 = 0 → bk_X9_nap_35 post v0 v1 v2 v3 X (9 : Int32) (0 : Int32) v3)) ∧ (r3 = 0 → post (-2 : Int32) X))  X v2 (0 : Int32) (1 : Int32)))  X v1 (1 : Int32) (3 : Int32)
set_option maxHeartbeats 4000000 in
set_option maxRecDepth 100000 in
theorem c_X9_nap (l : Launch) (D : va_G) (kA : Nat → ClassId) (post : Int32 → Hp → Prop) (X : Hp) (sz : Nat) (v0 : Nat) (v1 : Int32) (v2 : Int32) (v3 : Int32) (h : wp_X9_nap post X v0 v1 v2 v3) : Met l yX9_nap (.code yX9_nap cX9_nap 5 (some .int) :: gd) (rmO 2 0 0 45) (va_Pc [Value.ref v0, Value.int v1, Value.int v2, Value.int v3] (PreM D kA X sz)) (va_Qi post (PoM D kA X sz) (va_A (hw kA X) sz)) 0 0 (va_A (hw kA X) sz) := by
  unfold wp_X9_nap at h
  refine x_enM (by decide) (Nat.le_of_ble_eq_true rfl) ?_
  intro p e s m below meth c G hr hlk hin hsz hA S ls hl
  obtain ⟨hx, hb, hml, hown, hts, hE, hK⟩ := id G
  have hl : lv_has ls 5 [(0, .ref v0), (1, .int v1), (2, .int v2), (3, .int v3)] := hl
  obtain ⟨X0, hX0⟩ : ∃ Y : Hp, Y = X := ⟨_, rfl⟩
  subst hX0
  have J_75 : ∀ (X : Hp) (b75_s0 : Int32), ∀ (H : Heap) (locs : List Loc) (_ : bk_X9_nap_75 post v0 v1 v2 v3  X b75_s0), Sx D kA (va_A (hw kA X0) sz) s.heap H locs X → ∀ ls, lv_has ls 5 [(0, .ref v0)] → W p l e (rmO 2 0 0 45) s m [Value.ref v0, Value.int v1, Value.int v2, Value.int v3].toArray below meth c H locs 0 0 (MQ below (va_Qi post (PoM D kA X0 sz) (va_A (hw kA X0) sz)) [Value.ref v0, Value.int v1, Value.int v2, Value.int v3].toArray s 0 0 (va_A (hw kA X0) sz)) (F0 m 75 ls [.int b75_s0]) := by
    intro X b75_s0 H locs h S ls hl
    unfold bk_X9_nap_75 at h
    refine lv_istore (lv' := [(4, .int b75_s0), (0, .ref v0)]) hx hb dX9_nap_75 hl (by decide) rfl (fun ls hl => ?_)
    refine lv_aload_n hx hb dX9_nap_77 rfl (lv_at hl 1 rfl) ?_
    obtain ⟨fs24, hfs24, h⟩ := h
    refine x_cMVv (As := []) (rest := []) G S hA hfs24 rfl rfl (c_X9_forgetPlans l D kA _ _ _ v0 h) cd_X9_forgetPlans ml_X9_125 ⟨(Nat.le_of_ble_eq_true rfl), (Nat.le_of_ble_eq_true rfl)⟩ rfl hl.1 rfl (Nat.le_of_ble_eq_true rfl) dX9_nap_78 ⟨Nat.zero_le _, Nat.zero_le _⟩ (fun X H locs h S => ?_)
    refine lv_iload hx hb dX9_nap_81 (lv_at hl 0 rfl) ?_
    exact x_iretM G hr hlk S (Nat.le_refl _) (Nat.le_refl _) h dX9_nap_83
  have J_35 : ∀ (X : Hp) (b35_s0 : Int32) (b35_s1 : Int32) (b35_s2 : Int32), ∀ (H : Heap) (locs : List Loc) (_ : bk_X9_nap_35 post v0 v1 v2 v3  X b35_s0 b35_s1 b35_s2), Sx D kA (va_A (hw kA X0) sz) s.heap H locs X → ∀ ls, lv_has ls 5 [(0, .ref v0), (1, .int v1), (2, .int v2), (3, .int v3)] → W p l e (rmO 2 0 0 45) s m [Value.ref v0, Value.int v1, Value.int v2, Value.int v3].toArray below meth c H locs 0 0 (MQ below (va_Qi post (PoM D kA X0 sz) (va_A (hw kA X0) sz)) [Value.ref v0, Value.int v1, Value.int v2, Value.int v3].toArray s 0 0 (va_A (hw kA X0) sz)) (F0 m 35 ls [.int b35_s0, .int b35_s1, .int b35_s2]) := by
    intro X b35_s0 b35_s1 b35_s2 H locs h S ls hl
    unfold bk_X9_nap_35 at h
    refine x_cRSi (As := [.int b35_s2, .int b35_s1, .int b35_s0]) (rest := []) G S.1 (c_X9_within l D kA _ _ b35_s2 b35_s1 b35_s0 h) cd_X9_within ml_X9_64 ⟨(Nat.le_of_ble_eq_true rfl), (Nat.le_of_ble_eq_true rfl)⟩ rfl hl.1 rfl (Nat.le_of_ble_eq_true rfl) dX9_nap_35 ⟨Nat.zero_le _, Nat.zero_le _⟩ (fun r6 h => ?_)
    refine lv_if_ne (tgt := 44) hx hb dX9_nap_38 (by decide) (fun c7 => ?_) (fun c7 => ?_)
    · have h := h.1 c7
      refine lv_iload_n hx hb dX9_nap_44 rfl (lv_at hl 2 rfl) ?_
      refine lv_if_ne (tgt := 63) hx hb dX9_nap_45 (by decide) (fun c8 => ?_) (fun c8 => ?_)
      · have h := h.1 c8
        refine lv_aload_n hx hb dX9_nap_63 rfl (lv_at hl 0 rfl) ?_
        obtain ⟨fs9, y10, hfs9, hvfs9, h⟩ := h
        refine x_get G S.1 hfs9 hvfs9 fl_X9_12 dX9_nap_64 ?_
        obtain ⟨fs11, y12, hfs11, hvfs11, h⟩ := h
        refine x_get G S.1 hfs11 hvfs11 fl_X9_37 dX9_nap_67 ?_
        refine lv_iload_n hx hb dX9_nap_70 rfl (lv_at hl 1 rfl) ?_
        refine lv_iload_n hx hb dX9_nap_71 rfl (lv_at hl 3 rfl) ?_
        obtain ⟨fs15, hfs15, h⟩ := h
        refine x_cMVi (As := [.int v1, .int v3]) (rest := []) G S hA hfs15 rfl rfl (c_X2_changeDeep l D kA _ _ _ y12 v1 v3 h) cd_X2_changeDeep ml_X9_122 ⟨(Nat.le_of_ble_eq_true rfl), (Nat.le_of_ble_eq_true rfl)⟩ rfl hl.1 rfl (Nat.le_of_ble_eq_true rfl) dX9_nap_72 ⟨Nat.zero_le _, Nat.zero_le _⟩ (fun r14 X H locs h S => ?_)
        exact J_75 _ _ _ _ h S ls (lv_sub hl [0] rfl)
      · have h := h.2 c8
        refine lv_aload_n hx hb dX9_nap_48 rfl (lv_at hl 0 rfl) ?_
        obtain ⟨fs16, y17, hfs16, hvfs16, h⟩ := h
        refine x_get G S.1 hfs16 hvfs16 fl_X9_12 dX9_nap_49 ?_
        obtain ⟨fs18, y19, hfs18, hvfs18, h⟩ := h
        refine x_get G S.1 hfs18 hvfs18 fl_X9_37 dX9_nap_52 ?_
        refine lv_iload_n hx hb dX9_nap_55 rfl (lv_at hl 1 rfl) ?_
        refine lv_iload_n hx hb dX9_nap_56 rfl (lv_at hl 3 rfl) ?_
        obtain ⟨fs22, hfs22, h⟩ := h
        refine x_cMVi (As := [.int v1, .int v3]) (rest := []) G S hA hfs22 rfl rfl (c_X2_changeGive l D kA _ _ _ y19 v1 v3 h) cd_X2_changeGive ml_X9_116 ⟨(Nat.le_of_ble_eq_true rfl), (Nat.le_of_ble_eq_true rfl)⟩ rfl hl.1 rfl (Nat.le_of_ble_eq_true rfl) dX9_nap_57 ⟨Nat.zero_le _, Nat.zero_le _⟩ (fun r21 X H locs h S => ?_)
        refine lv_goto (tgt := 75) hx hb dX9_nap_60 (by decide) ?_
        exact J_75 _ _ _ _ h S ls (lv_sub hl [0] rfl)
    · have h := h.2 c7
      refine lv_bipush (v := (-2 : Int32)) hx hb dX9_nap_41 (by decide) ?_
      exact x_iretM G hr hlk S (Nat.le_refl _) (Nat.le_refl _) h dX9_nap_43
  refine lv_iload_n hx hb dX9_nap_0 rfl (lv_at hl 1 rfl) ?_
  refine lv_iconst (v := (1 : Int32)) hx hb dX9_nap_1 (by decide) ?_
  refine lv_iconst (v := (3 : Int32)) hx hb dX9_nap_2 (by decide) ?_
  refine x_cRSi (As := [.int v1, .int (1 : Int32), .int (3 : Int32)]) (rest := []) G S.1 (c_X9_within l D kA _ _ v1 (1 : Int32) (3 : Int32) h) cd_X9_within ml_X9_64 ⟨(Nat.le_of_ble_eq_true rfl), (Nat.le_of_ble_eq_true rfl)⟩ rfl hl.1 rfl (Nat.le_of_ble_eq_true rfl) dX9_nap_3 ⟨Nat.zero_le _, Nat.zero_le _⟩ (fun r1 h => ?_)
  refine lv_if_eq (tgt := 18) hx hb dX9_nap_6 (by decide) (fun c2 => ?_) (fun c2 => ?_)
  · have h := h.1 c2
    refine lv_bipush (v := (-2 : Int32)) hx hb dX9_nap_18 (by decide) ?_
    exact x_iretM G hr hlk S (Nat.le_refl _) (Nat.le_refl _) h dX9_nap_20
  · have h := h.2 c2
    refine lv_iload_n hx hb dX9_nap_9 rfl (lv_at hl 2 rfl) ?_
    refine lv_iconst (v := (0 : Int32)) hx hb dX9_nap_10 (by decide) ?_
    refine lv_iconst (v := (1 : Int32)) hx hb dX9_nap_11 (by decide) ?_
    refine x_cRSi (As := [.int v2, .int (0 : Int32), .int (1 : Int32)]) (rest := []) G S.1 (c_X9_within l D kA _ _ v2 (0 : Int32) (1 : Int32) h) cd_X9_within ml_X9_64 ⟨(Nat.le_of_ble_eq_true rfl), (Nat.le_of_ble_eq_true rfl)⟩ rfl hl.1 rfl (Nat.le_of_ble_eq_true rfl) dX9_nap_12 ⟨Nat.zero_le _, Nat.zero_le _⟩ (fun r3 h => ?_)
    refine lv_if_ne (tgt := 21) hx hb dX9_nap_15 (by decide) (fun c4 => ?_) (fun c4 => ?_)
    · have h := h.1 c4
      refine lv_iload_n hx hb dX9_nap_21 rfl (lv_at hl 3 rfl) ?_
      refine lv_iconst (v := (0 : Int32)) hx hb dX9_nap_22 (by decide) ?_
      refine lv_iload_n hx hb dX9_nap_23 rfl (lv_at hl 2 rfl) ?_
      refine lv_if_ne (tgt := 32) hx hb dX9_nap_24 (by decide) (fun c5 => ?_) (fun c5 => ?_)
      · have h := h.1 c5
        refine lv_sipush (v := (1000 : Int32)) hx hb dX9_nap_32 (by decide) ?_
        exact J_35 _ _ _ _ _ _ h S ls (lv_sub hl [0, 1, 2, 3] rfl)
      · have h := h.2 c5
        refine lv_bipush (v := (9 : Int32)) hx hb dX9_nap_27 (by decide) ?_
        refine lv_goto (tgt := 35) hx hb dX9_nap_29 (by decide) ?_
        exact J_35 _ _ _ _ _ _ h S ls (lv_sub hl [0, 1, 2, 3] rfl)
    · have h := h.2 c4
      refine lv_bipush (v := (-2 : Int32)) hx hb dX9_nap_18 (by decide) ?_
      exact x_iretM G hr hlk S (Nat.le_refl _) (Nat.le_refl _) h dX9_nap_20
def wp_X9_isThing (post : Int32 → Prop) (X : Hp) (v0 : Int32) : Prop := wp_X9_within (fun r1 => (r1 = 0 ∨ r1 = 1) ∧ post r1)  X v0 (0 : Int32) (4 : Int32)
set_option maxHeartbeats 4000000 in
set_option maxRecDepth 100000 in
theorem c_X9_isThing (l : Launch) (D : va_G) (kA : Nat → ClassId) (post : Int32 → Prop) (X : Hp) (v0 : Int32) (h : wp_X9_isThing post X v0) : Met l yX9_isThing (.code yX9_isThing cX9_isThing 1 (some .boolean) :: gd) (rmO 1 0 0 22) (va_Pc [Value.int v0] (Pre D kA X)) (vp_Si post) 0 0 (fun _ => False) := by
  unfold wp_X9_isThing at h
  refine x_enR (by decide) (Nat.le_of_ble_eq_true rfl) ?_
  intro p e s m below meth c G hr hlk hP ls hl
  obtain ⟨hx, hb, hml, hown, hts, hE, hK⟩ := id G
  have hl : lv_has ls 1 [(0, .int v0)] := hl
  refine lv_iload_n hx hb dX9_isThing_0 rfl (lv_at hl 0 rfl) ?_
  refine lv_iconst (v := (0 : Int32)) hx hb dX9_isThing_1 (by decide) ?_
  refine lv_iconst (v := (4 : Int32)) hx hb dX9_isThing_2 (by decide) ?_
  refine x_cRSi (As := [.int v0, .int (0 : Int32), .int (4 : Int32)]) (rest := []) G hP (c_X9_within l D kA _ _ v0 (0 : Int32) (4 : Int32) h) cd_X9_within ml_X9_64 ⟨(Nat.le_of_ble_eq_true rfl), (Nat.le_of_ble_eq_true rfl)⟩ rfl hl.1 rfl (Nat.le_of_ble_eq_true rfl) dX9_isThing_3 ⟨Nat.zero_le _, Nat.zero_le _⟩ (fun r1 h => ?_)
  obtain ⟨hz, h⟩ := h
  exact x_zretR G hr hlk hz h dX9_isThing_6
def wp_X9_owed (post : Int32 → Prop) (X : Hp) (v0 : Nat) (v1 : Int32) (v2 : Int32) (v3 : Int32) (v4 : Int32) : Prop := ∃ fs20 : List Value, Hs X v0 (.inr (9, fs20)) ∧ wp_X9_wayOf (fun r1 => (r1 = none → post (-1 : Int32)) ∧ (∀ y2 : Nat, r1 = some y2 → ∃ fs19 : List Value, Hs X y2 (.inr (8, fs19)) ∧ wp_X8_hasHour (fun r4 => (r4 = 0 → post (-2 : Int32)) ∧ (¬ r4 = 0 → wp_X9_isOwed (fun r6 => (r6 = 0 → post (-2 : Int32)) ∧ (¬ r6 = 0 → wp_X9_isThing (fun r8 => (¬ r8 = 0 → ∃ fs18 : List Value, Hs X y2 (.inr (8, fs18)) ∧ wp_X8_lets (fun r10 => (¬ r10 = 0 → ∃ (fs12 : List Value) (y13 : Nat), Hs X v0 (.inr (9, fs12)) ∧ fs12[0]? = some (.ref y13) ∧ ∃ (fs14 : List Value) (y15 : Nat), Hs X y13 (.inr (1, fs14)) ∧ fs14[1]? = some (.ref y15) ∧ ∃ fs17 : List Value, Hs X y15 (.inr (2, fs17)) ∧ wp_X2_owedBehind (fun r16 => post r16)  X y15 y2 v2 v3 v4) ∧ (r10 = 0 → post (-5 : Int32)))  X y2 v2 v4) ∧ (r8 = 0 → post (-2 : Int32)))  X v4))  X v3))  X y2 v2))  X v0 v1
set_option maxHeartbeats 4000000 in
set_option maxRecDepth 100000 in
theorem c_X9_owed (l : Launch) (D : va_G) (kA : Nat → ClassId) (post : Int32 → Prop) (X : Hp) (v0 : Nat) (v1 : Int32) (v2 : Int32) (v3 : Int32) (v4 : Int32) (h : wp_X9_owed post X v0 v1 v2 v3 v4) : Met l yX9_owed (.code yX9_owed cX9_owed 6 (some .int) :: gd) (rmO 2 0 0 46) (va_Pc [Value.ref v0, Value.int v1, Value.int v2, Value.int v3, Value.int v4] (Pre D kA X)) (vp_Si post) 0 0 (fun _ => False) := by
  unfold wp_X9_owed at h
  refine x_enR (by decide) (Nat.le_of_ble_eq_true rfl) ?_
  intro p e s m below meth c G hr hlk hP ls hl
  obtain ⟨hx, hb, hml, hown, hts, hE, hK⟩ := id G
  have hl : lv_has ls 6 [(0, .ref v0), (1, .int v1), (2, .int v2), (3, .int v3), (4, .int v4)] := hl
  refine lv_aload_n hx hb dX9_owed_0 rfl (lv_at hl 0 rfl) ?_
  refine lv_iload_n hx hb dX9_owed_1 rfl (lv_at hl 1 rfl) ?_
  obtain ⟨fs20, hfs20, h⟩ := h
  refine x_cRVq (As := [.int v1]) (rest := []) G hP hfs20 rfl rfl (c_X9_wayOf l D kA _ _ v0 v1 h) cd_X9_wayOf ml_X9_95 ⟨(Nat.le_of_ble_eq_true rfl), (Nat.le_of_ble_eq_true rfl)⟩ rfl hl.1 rfl (Nat.le_of_ble_eq_true rfl) dX9_owed_2 ⟨Nat.zero_le _, Nat.zero_le _⟩ (fun r1 h => ?_)
  refine x_spl (fun c3 => ?_) (fun y2 c3 => ?_)
  · have h := h.1 c3
    refine lv_astoreN (lv' := [(5, .null), (0, .ref v0), (1, .int v1), (2, .int v2), (3, .int v3), (4, .int v4)]) hx hb dX9_owed_5 hl (by decide) rfl (fun ls hl => ?_)
    refine lv_aloadN hx hb dX9_owed_7 (lv_at hl 0 rfl) ?_
    refine lv_ifnonnullN hx hb dX9_owed_9 ?_
    refine lv_iconst (v := (-1 : Int32)) hx hb dX9_owed_12 (by decide) ?_
    exact x_iretR G hr hlk h dX9_owed_13
  · have h := h.2 y2 c3
    refine lv_astore (lv' := [(5, .ref y2), (0, .ref v0), (1, .int v1), (2, .int v2), (3, .int v3), (4, .int v4)]) hx hb dX9_owed_5 hl (by decide) rfl (fun ls hl => ?_)
    refine lv_aload hx hb dX9_owed_7 (lv_at hl 0 rfl) ?_
    refine lv_ifnonnull (tgt := 14) hx hb dX9_owed_9 (by decide) ?_
    refine lv_aload hx hb dX9_owed_14 (lv_at hl 0 rfl) ?_
    refine lv_iload_n hx hb dX9_owed_16 rfl (lv_at hl 3 rfl) ?_
    obtain ⟨fs19, hfs19, h⟩ := h
    refine x_cRVi (As := [.int v2]) (rest := []) G hP hfs19 rfl rfl (c_X8_hasHour l D kA _ _ y2 v2 h) cd_X8_hasHour ml_X9_128 ⟨(Nat.le_of_ble_eq_true rfl), (Nat.le_of_ble_eq_true rfl)⟩ rfl hl.1 rfl (Nat.le_of_ble_eq_true rfl) dX9_owed_17 ⟨Nat.zero_le _, Nat.zero_le _⟩ (fun r4 h => ?_)
    refine lv_if_eq (tgt := 38) hx hb dX9_owed_20 (by decide) (fun c5 => ?_) (fun c5 => ?_)
    · have h := h.1 c5
      refine lv_bipush (v := (-2 : Int32)) hx hb dX9_owed_38 (by decide) ?_
      exact x_iretR G hr hlk h dX9_owed_40
    · have h := h.2 c5
      refine lv_iload_n hx hb dX9_owed_23 rfl (lv_at hl 4 rfl) ?_
      refine x_cRSi (As := [.int v3]) (rest := []) G hP (c_X9_isOwed l D kA _ _ v3 h) cd_X9_isOwed ml_X9_131 ⟨(Nat.le_of_ble_eq_true rfl), (Nat.le_of_ble_eq_true rfl)⟩ rfl hl.1 rfl (Nat.le_of_ble_eq_true rfl) dX9_owed_24 ⟨Nat.zero_le _, Nat.zero_le _⟩ (fun r6 h => ?_)
      refine lv_if_eq (tgt := 38) hx hb dX9_owed_27 (by decide) (fun c7 => ?_) (fun c7 => ?_)
      · have h := h.1 c7
        refine lv_bipush (v := (-2 : Int32)) hx hb dX9_owed_38 (by decide) ?_
        exact x_iretR G hr hlk h dX9_owed_40
      · have h := h.2 c7
        refine lv_iload hx hb dX9_owed_30 (lv_at hl 5 rfl) ?_
        refine x_cRSi (As := [.int v4]) (rest := []) G hP (c_X9_isThing l D kA _ _ v4 h) cd_X9_isThing ml_X9_134 ⟨(Nat.le_of_ble_eq_true rfl), (Nat.le_of_ble_eq_true rfl)⟩ rfl hl.1 rfl (Nat.le_of_ble_eq_true rfl) dX9_owed_32 ⟨Nat.zero_le _, Nat.zero_le _⟩ (fun r8 h => ?_)
        refine lv_if_ne (tgt := 41) hx hb dX9_owed_35 (by decide) (fun c9 => ?_) (fun c9 => ?_)
        · have h := h.1 c9
          refine lv_aload hx hb dX9_owed_41 (lv_at hl 0 rfl) ?_
          refine lv_iload_n hx hb dX9_owed_43 rfl (lv_at hl 3 rfl) ?_
          refine lv_iload hx hb dX9_owed_44 (lv_at hl 5 rfl) ?_
          obtain ⟨fs18, hfs18, h⟩ := h
          refine x_cRVi (As := [.int v2, .int v4]) (rest := []) G hP hfs18 rfl rfl (c_X8_lets l D kA _ _ y2 v2 v4 h) cd_X8_lets ml_X9_137 ⟨(Nat.le_of_ble_eq_true rfl), (Nat.le_of_ble_eq_true rfl)⟩ rfl hl.1 rfl (Nat.le_of_ble_eq_true rfl) dX9_owed_46 ⟨Nat.zero_le _, Nat.zero_le _⟩ (fun r10 h => ?_)
          refine lv_if_ne (tgt := 55) hx hb dX9_owed_49 (by decide) (fun c11 => ?_) (fun c11 => ?_)
          · have h := h.1 c11
            refine lv_aload_n hx hb dX9_owed_55 rfl (lv_at hl 1 rfl) ?_
            obtain ⟨fs12, y13, hfs12, hvfs12, h⟩ := h
            refine x_get G hP hfs12 hvfs12 fl_X9_12 dX9_owed_56 ?_
            obtain ⟨fs14, y15, hfs14, hvfs14, h⟩ := h
            refine x_get G hP hfs14 hvfs14 fl_X9_37 dX9_owed_59 ?_
            refine lv_aload hx hb dX9_owed_62 (lv_at hl 0 rfl) ?_
            refine lv_iload_n hx hb dX9_owed_64 rfl (lv_at hl 3 rfl) ?_
            refine lv_iload_n hx hb dX9_owed_65 rfl (lv_at hl 4 rfl) ?_
            refine lv_iload hx hb dX9_owed_66 (lv_at hl 5 rfl) ?_
            obtain ⟨fs17, hfs17, h⟩ := h
            refine x_cRVi (As := [.ref y2, .int v2, .int v3, .int v4]) (rest := []) G hP hfs17 rfl rfl (c_X2_owedBehind l D kA _ _ y15 y2 v2 v3 v4 h) cd_X2_owedBehind ml_X9_141 ⟨(Nat.le_of_ble_eq_true rfl), (Nat.le_of_ble_eq_true rfl)⟩ rfl hl.1 rfl (Nat.le_of_ble_eq_true rfl) dX9_owed_68 ⟨Nat.zero_le _, Nat.zero_le _⟩ (fun r16 h => ?_)
            exact x_iretR G hr hlk h dX9_owed_71
          · have h := h.2 c11
            refine lv_bipush (v := (-5 : Int32)) hx hb dX9_owed_52 (by decide) ?_
            exact x_iretR G hr hlk h dX9_owed_54
        · have h := h.2 c9
          refine lv_bipush (v := (-2 : Int32)) hx hb dX9_owed_38 (by decide) ?_
          exact x_iretR G hr hlk h dX9_owed_40
def wp_X9_risk (post : Int32 → Prop) (X : Hp) (v0 : Nat) (v1 : Int32) (v2 : Int32) (v3 : Int32) (v4 : Int32) (v5 : Int32) : Prop := ∃ fs26 : List Value, Hs X v0 (.inr (9, fs26)) ∧ wp_X9_wayOf (fun r1 => (r1 = none → post (-1 : Int32)) ∧ (∀ y2 : Nat, r1 = some y2 → ∃ fs25 : List Value, Hs X y2 (.inr (8, fs25)) ∧ wp_X8_hasHour (fun r4 => (r4 = 0 → post (-2 : Int32)) ∧ (¬ r4 = 0 → wp_X9_isOwed (fun r6 => (r6 = 0 → post (-2 : Int32)) ∧ (¬ r6 = 0 → wp_X9_isThing (fun r8 => (r8 = 0 → post (-2 : Int32)) ∧ (¬ r8 = 0 → wp_X9_within (fun r10 => (¬ r10 = 0 → ∀ x12 : Int32, x12 = (((2 : Int32) * v4) + v5) → (x12 = (1 : Int32) → post (-5 : Int32)) ∧ (¬ x12 = (1 : Int32) → ∃ fs24 : List Value, Hs X y2 (.inr (8, fs24)) ∧ wp_X8_lets (fun r14 => (¬ r14 = 0 → ∃ fs23 : List Value, Hs X y2 (.inr (8, fs23)) ∧ wp_X8_shipsAt (fun r16 => ∃ (fs17 : List Value) (y18 : Nat), Hs X v0 (.inr (9, fs17)) ∧ fs17[0]? = some (.ref y18) ∧ ∃ (fs19 : List Value) (y20 : Nat), Hs X y18 (.inr (1, fs19)) ∧ fs19[1]? = some (.ref y20) ∧ ∃ fs22 : List Value, Hs X y20 (.inr (2, fs22)) ∧ wp_X2_blindOf (fun r21 => post (r16 * r21))  X y20 x12 v3)  X y2 v2) ∧ (r14 = 0 → post (-5 : Int32)))  X y2 v2 v4)) ∧ (r10 = 0 → post (-2 : Int32)))  X v5 (0 : Int32) (1 : Int32)))  X v4))  X v3))  X y2 v2))  X v0 v1
set_option maxHeartbeats 4000000 in
set_option maxRecDepth 100000 in
theorem c_X9_risk (l : Launch) (D : va_G) (kA : Nat → ClassId) (post : Int32 → Prop) (X : Hp) (v0 : Nat) (v1 : Int32) (v2 : Int32) (v3 : Int32) (v4 : Int32) (v5 : Int32) (h : wp_X9_risk post X v0 v1 v2 v3 v4 v5) : Met l yX9_risk (.code yX9_risk cX9_risk 8 (some .int) :: gd) (rmO 3 0 0 69) (va_Pc [Value.ref v0, Value.int v1, Value.int v2, Value.int v3, Value.int v4, Value.int v5] (Pre D kA X)) (vp_Si post) 0 0 (fun _ => False) := by
  unfold wp_X9_risk at h
  refine x_enR (by decide) (Nat.le_of_ble_eq_true rfl) ?_
  intro p e s m below meth c G hr hlk hP ls hl
  obtain ⟨hx, hb, hml, hown, hts, hE, hK⟩ := id G
  have hl : lv_has ls 8 [(0, .ref v0), (1, .int v1), (2, .int v2), (3, .int v3), (4, .int v4), (5, .int v5)] := hl
  refine lv_aload_n hx hb dX9_risk_0 rfl (lv_at hl 0 rfl) ?_
  refine lv_iload_n hx hb dX9_risk_1 rfl (lv_at hl 1 rfl) ?_
  obtain ⟨fs26, hfs26, h⟩ := h
  refine x_cRVq (As := [.int v1]) (rest := []) G hP hfs26 rfl rfl (c_X9_wayOf l D kA _ _ v0 v1 h) cd_X9_wayOf ml_X9_95 ⟨(Nat.le_of_ble_eq_true rfl), (Nat.le_of_ble_eq_true rfl)⟩ rfl hl.1 rfl (Nat.le_of_ble_eq_true rfl) dX9_risk_2 ⟨Nat.zero_le _, Nat.zero_le _⟩ (fun r1 h => ?_)
  refine x_spl (fun c3 => ?_) (fun y2 c3 => ?_)
  · have h := h.1 c3
    refine lv_astoreN (lv' := [(6, .null), (0, .ref v0), (1, .int v1), (2, .int v2), (3, .int v3), (4, .int v4), (5, .int v5)]) hx hb dX9_risk_5 hl (by decide) rfl (fun ls hl => ?_)
    refine lv_aloadN hx hb dX9_risk_7 (lv_at hl 0 rfl) ?_
    refine lv_ifnonnullN hx hb dX9_risk_9 ?_
    refine lv_iconst (v := (-1 : Int32)) hx hb dX9_risk_12 (by decide) ?_
    exact x_iretR G hr hlk h dX9_risk_13
  · have h := h.2 y2 c3
    refine lv_astore (lv' := [(6, .ref y2), (0, .ref v0), (1, .int v1), (2, .int v2), (3, .int v3), (4, .int v4), (5, .int v5)]) hx hb dX9_risk_5 hl (by decide) rfl (fun ls hl => ?_)
    refine lv_aload hx hb dX9_risk_7 (lv_at hl 0 rfl) ?_
    refine lv_ifnonnull (tgt := 14) hx hb dX9_risk_9 (by decide) ?_
    refine lv_aload hx hb dX9_risk_14 (lv_at hl 0 rfl) ?_
    refine lv_iload_n hx hb dX9_risk_16 rfl (lv_at hl 3 rfl) ?_
    obtain ⟨fs25, hfs25, h⟩ := h
    refine x_cRVi (As := [.int v2]) (rest := []) G hP hfs25 rfl rfl (c_X8_hasHour l D kA _ _ y2 v2 h) cd_X8_hasHour ml_X9_128 ⟨(Nat.le_of_ble_eq_true rfl), (Nat.le_of_ble_eq_true rfl)⟩ rfl hl.1 rfl (Nat.le_of_ble_eq_true rfl) dX9_risk_17 ⟨Nat.zero_le _, Nat.zero_le _⟩ (fun r4 h => ?_)
    refine lv_if_eq (tgt := 48) hx hb dX9_risk_20 (by decide) (fun c5 => ?_) (fun c5 => ?_)
    · have h := h.1 c5
      refine lv_bipush (v := (-2 : Int32)) hx hb dX9_risk_48 (by decide) ?_
      exact x_iretR G hr hlk h dX9_risk_50
    · have h := h.2 c5
      refine lv_iload_n hx hb dX9_risk_23 rfl (lv_at hl 4 rfl) ?_
      refine x_cRSi (As := [.int v3]) (rest := []) G hP (c_X9_isOwed l D kA _ _ v3 h) cd_X9_isOwed ml_X9_131 ⟨(Nat.le_of_ble_eq_true rfl), (Nat.le_of_ble_eq_true rfl)⟩ rfl hl.1 rfl (Nat.le_of_ble_eq_true rfl) dX9_risk_24 ⟨Nat.zero_le _, Nat.zero_le _⟩ (fun r6 h => ?_)
      refine lv_if_eq (tgt := 48) hx hb dX9_risk_27 (by decide) (fun c7 => ?_) (fun c7 => ?_)
      · have h := h.1 c7
        refine lv_bipush (v := (-2 : Int32)) hx hb dX9_risk_48 (by decide) ?_
        exact x_iretR G hr hlk h dX9_risk_50
      · have h := h.2 c7
        refine lv_iload hx hb dX9_risk_30 (lv_at hl 5 rfl) ?_
        refine x_cRSi (As := [.int v4]) (rest := []) G hP (c_X9_isThing l D kA _ _ v4 h) cd_X9_isThing ml_X9_134 ⟨(Nat.le_of_ble_eq_true rfl), (Nat.le_of_ble_eq_true rfl)⟩ rfl hl.1 rfl (Nat.le_of_ble_eq_true rfl) dX9_risk_32 ⟨Nat.zero_le _, Nat.zero_le _⟩ (fun r8 h => ?_)
        refine lv_if_eq (tgt := 48) hx hb dX9_risk_35 (by decide) (fun c9 => ?_) (fun c9 => ?_)
        · have h := h.1 c9
          refine lv_bipush (v := (-2 : Int32)) hx hb dX9_risk_48 (by decide) ?_
          exact x_iretR G hr hlk h dX9_risk_50
        · have h := h.2 c9
          refine lv_iload hx hb dX9_risk_38 (lv_at hl 6 rfl) ?_
          refine lv_iconst (v := (0 : Int32)) hx hb dX9_risk_40 (by decide) ?_
          refine lv_iconst (v := (1 : Int32)) hx hb dX9_risk_41 (by decide) ?_
          refine x_cRSi (As := [.int v5, .int (0 : Int32), .int (1 : Int32)]) (rest := []) G hP (c_X9_within l D kA _ _ v5 (0 : Int32) (1 : Int32) h) cd_X9_within ml_X9_64 ⟨(Nat.le_of_ble_eq_true rfl), (Nat.le_of_ble_eq_true rfl)⟩ rfl hl.1 rfl (Nat.le_of_ble_eq_true rfl) dX9_risk_42 ⟨Nat.zero_le _, Nat.zero_le _⟩ (fun r10 h => ?_)
          refine lv_if_ne (tgt := 51) hx hb dX9_risk_45 (by decide) (fun c11 => ?_) (fun c11 => ?_)
          · have h := h.1 c11
            refine lv_iconst (v := (2 : Int32)) hx hb dX9_risk_51 (by decide) ?_
            refine lv_iload hx hb dX9_risk_52 (lv_at hl 5 rfl) ?_
            refine lv_imul hx hb dX9_risk_54 ?_
            refine lv_iload hx hb dX9_risk_55 (lv_at hl 6 rfl) ?_
            refine lv_iadd hx hb dX9_risk_57 ?_
            refine lv_topi (fun x12 ex12 => ?_)
            have h := h x12 ex12
            refine lv_istore (lv' := [(7, .int x12), (6, .ref y2), (0, .ref v0), (1, .int v1), (2, .int v2), (3, .int v3), (4, .int v4), (5, .int v5)]) hx hb dX9_risk_58 hl (by decide) rfl (fun ls hl => ?_)
            refine lv_iload hx hb dX9_risk_60 (lv_at hl 0 rfl) ?_
            refine lv_iconst (v := (1 : Int32)) hx hb dX9_risk_62 (by decide) ?_
            refine lv_icmp_eq (tgt := 77) hx hb dX9_risk_63 (by decide) (fun c13 => ?_) (fun c13 => ?_)
            · have h := h.1 c13
              refine lv_bipush (v := (-5 : Int32)) hx hb dX9_risk_77 (by decide) ?_
              exact x_iretR G hr hlk h dX9_risk_79
            · have h := h.2 c13
              refine lv_aload hx hb dX9_risk_66 (lv_at hl 1 rfl) ?_
              refine lv_iload_n hx hb dX9_risk_68 rfl (lv_at hl 4 rfl) ?_
              refine lv_iload hx hb dX9_risk_69 (lv_at hl 6 rfl) ?_
              obtain ⟨fs24, hfs24, h⟩ := h
              refine x_cRVi (As := [.int v2, .int v4]) (rest := []) G hP hfs24 rfl rfl (c_X8_lets l D kA _ _ y2 v2 v4 h) cd_X8_lets ml_X9_137 ⟨(Nat.le_of_ble_eq_true rfl), (Nat.le_of_ble_eq_true rfl)⟩ rfl hl.1 rfl (Nat.le_of_ble_eq_true rfl) dX9_risk_71 ⟨Nat.zero_le _, Nat.zero_le _⟩ (fun r14 h => ?_)
              refine lv_if_ne (tgt := 80) hx hb dX9_risk_74 (by decide) (fun c15 => ?_) (fun c15 => ?_)
              · have h := h.1 c15
                refine lv_aload hx hb dX9_risk_80 (lv_at hl 1 rfl) ?_
                refine lv_iload_n hx hb dX9_risk_82 rfl (lv_at hl 4 rfl) ?_
                obtain ⟨fs23, hfs23, h⟩ := h
                refine x_cRVi (As := [.int v2]) (rest := []) G hP hfs23 rfl rfl (c_X8_shipsAt l D kA _ _ y2 v2 h) cd_X8_shipsAt ml_X9_145 ⟨(Nat.le_of_ble_eq_true rfl), (Nat.le_of_ble_eq_true rfl)⟩ rfl hl.1 rfl (Nat.le_of_ble_eq_true rfl) dX9_risk_83 ⟨Nat.zero_le _, Nat.zero_le _⟩ (fun r16 h => ?_)
                refine lv_aload_n hx hb dX9_risk_86 rfl (lv_at hl 2 rfl) ?_
                obtain ⟨fs17, y18, hfs17, hvfs17, h⟩ := h
                refine x_get G hP hfs17 hvfs17 fl_X9_12 dX9_risk_87 ?_
                obtain ⟨fs19, y20, hfs19, hvfs19, h⟩ := h
                refine x_get G hP hfs19 hvfs19 fl_X9_37 dX9_risk_90 ?_
                refine lv_iload hx hb dX9_risk_93 (lv_at hl 0 rfl) ?_
                refine lv_iload_n hx hb dX9_risk_95 rfl (lv_at hl 5 rfl) ?_
                obtain ⟨fs22, hfs22, h⟩ := h
                refine x_cRVi (As := [.int x12, .int v3]) (rest := [.int r16]) G hP hfs22 rfl rfl (c_X2_blindOf l D kA _ _ y20 x12 v3 h) cd_X2_blindOf ml_X9_148 ⟨(Nat.le_of_ble_eq_true rfl), (Nat.le_of_ble_eq_true rfl)⟩ rfl hl.1 rfl (Nat.le_of_ble_eq_true rfl) dX9_risk_96 ⟨Nat.zero_le _, Nat.zero_le _⟩ (fun r21 h => ?_)
                refine lv_imul hx hb dX9_risk_99 ?_
                exact x_iretR G hr hlk h dX9_risk_100
              · have h := h.2 c15
                refine lv_bipush (v := (-5 : Int32)) hx hb dX9_risk_77 (by decide) ?_
                exact x_iretR G hr hlk h dX9_risk_79
          · have h := h.2 c11
            refine lv_bipush (v := (-2 : Int32)) hx hb dX9_risk_48 (by decide) ?_
            exact x_iretR G hr hlk h dX9_risk_50
def wp_X9_say (post : Int32 → Hp → Prop) (X : Hp) (v0 : Nat) (v1 : Int32) : Prop := wp_X9_within (fun r1 => (¬ r1 = 0 → ∃ (fs3 : List Value) (y4 : Nat), Hs X v0 (.inr (9, fs3)) ∧ fs3[4]? = some (.ref y4) ∧ ∃ fs12 : List Value, Hs X y4 (.inr (3, fs12)) ∧ wp_X3_write (fun r6 X5 => (r6 = 0 → post (-4 : Int32) X5) ∧ (¬ r6 = 0 → ∃ (fs8 : List Value) (y9 : Nat), Hs X5 v0 (.inr (9, fs8)) ∧ fs8[4]? = some (.ref y9) ∧ ∃ (fs10 : List Value) (y11 : Int32), Hs X5 y9 (.inr (3, fs10)) ∧ fs10[0]? = some (.int y11) ∧ post y11 X5))  X y4 v1) ∧ (r1 = 0 → post (-2 : Int32) X))  X v1 (33 : Int32) (126 : Int32)
set_option maxHeartbeats 4000000 in
set_option maxRecDepth 100000 in
theorem c_X9_say (l : Launch) (D : va_G) (kA : Nat → ClassId) (post : Int32 → Hp → Prop) (X : Hp) (sz : Nat) (v0 : Nat) (v1 : Int32) (h : wp_X9_say post X v0 v1) : Met l yX9_say (.code yX9_say cX9_say 2 (some .int) :: gd) (rmO 1 0 0 22) (va_Pc [Value.ref v0, Value.int v1] (PreM D kA X sz)) (va_Qi post (PoM D kA X sz) (va_A (hw kA X) sz)) 0 0 (va_A (hw kA X) sz) := by
  unfold wp_X9_say at h
  refine x_enM (by decide) (Nat.le_of_ble_eq_true rfl) ?_
  intro p e s m below meth c G hr hlk hin hsz hA S ls hl
  obtain ⟨hx, hb, hml, hown, hts, hE, hK⟩ := id G
  have hl : lv_has ls 2 [(0, .ref v0), (1, .int v1)] := hl
  refine lv_iload_n hx hb dX9_say_0 rfl (lv_at hl 1 rfl) ?_
  refine lv_bipush (v := (33 : Int32)) hx hb dX9_say_1 (by decide) ?_
  refine lv_bipush (v := (126 : Int32)) hx hb dX9_say_3 (by decide) ?_
  refine x_cRSi (As := [.int v1, .int (33 : Int32), .int (126 : Int32)]) (rest := []) G S.1 (c_X9_within l D kA _ _ v1 (33 : Int32) (126 : Int32) h) cd_X9_within ml_X9_64 ⟨(Nat.le_of_ble_eq_true rfl), (Nat.le_of_ble_eq_true rfl)⟩ rfl hl.1 rfl (Nat.le_of_ble_eq_true rfl) dX9_say_5 ⟨Nat.zero_le _, Nat.zero_le _⟩ (fun r1 h => ?_)
  refine lv_if_ne (tgt := 14) hx hb dX9_say_8 (by decide) (fun c2 => ?_) (fun c2 => ?_)
  · have h := h.1 c2
    refine lv_aload_n hx hb dX9_say_14 rfl (lv_at hl 0 rfl) ?_
    obtain ⟨fs3, y4, hfs3, hvfs3, h⟩ := h
    refine x_get G S.1 hfs3 hvfs3 fl_X9_47 dX9_say_15 ?_
    refine lv_iload_n hx hb dX9_say_18 rfl (lv_at hl 1 rfl) ?_
    obtain ⟨fs12, hfs12, h⟩ := h
    refine x_cMVi (As := [.int v1]) (rest := []) G S hA hfs12 rfl rfl (c_X3_write l D kA _ _ _ y4 v1 h) cd_X3_write ml_X9_151 ⟨(Nat.le_of_ble_eq_true rfl), (Nat.le_of_ble_eq_true rfl)⟩ rfl hl.1 rfl (Nat.le_of_ble_eq_true rfl) dX9_say_19 ⟨Nat.zero_le _, Nat.zero_le _⟩ (fun r6 X H locs h S => ?_)
    refine lv_if_eq (tgt := 35) hx hb dX9_say_22 (by decide) (fun c7 => ?_) (fun c7 => ?_)
    · have h := h.1 c7
      refine lv_bipush (v := (-4 : Int32)) hx hb dX9_say_35 (by decide) ?_
      exact x_iretM G hr hlk S (Nat.le_refl _) (Nat.le_refl _) h dX9_say_37
    · have h := h.2 c7
      refine lv_aload_n hx hb dX9_say_25 rfl (lv_at hl 0 rfl) ?_
      obtain ⟨fs8, y9, hfs8, hvfs8, h⟩ := h
      refine x_get G S.1 hfs8 hvfs8 fl_X9_47 dX9_say_26 ?_
      obtain ⟨fs10, y11, hfs10, hvfs10, h⟩ := h
      refine x_get G S.1 hfs10 hvfs10 fl_X9_154 dX9_say_29 ?_
      refine lv_goto (tgt := 37) hx hb dX9_say_32 (by decide) ?_
      exact x_iretM G hr hlk S (Nat.le_refl _) (Nat.le_refl _) h dX9_say_37
  · have h := h.2 c2
    refine lv_bipush (v := (-2 : Int32)) hx hb dX9_say_11 (by decide) ?_
    exact x_iretM G hr hlk S (Nat.le_refl _) (Nat.le_refl _) h dX9_say_13
def wp_X9_wipe (post : Int32 → Hp → Prop) (X : Hp) (v0 : Nat) : Prop := ∃ (fs1 : List Value) (y2 : Nat), Hs X v0 (.inr (9, fs1)) ∧ fs1[4]? = some (.ref y2) ∧ ∃ (fs3 : List Value) (y4 : Int32), Hs X y2 (.inr (3, fs3)) ∧ fs3[0]? = some (.int y4) ∧ ∃ (fs5 : List Value) (y6 : Nat), Hs X v0 (.inr (9, fs5)) ∧ fs5[4]? = some (.ref y6) ∧ ∃ (fs7 : List Value), Hs X y6 (.inr (3, fs7)) ∧ 0 < fs7.length ∧ ∀ X8 : Hp, X8 = hput X y6 (.inr (3, fs7.set 0 (.int (0 : Int32)))) → post y4 X8
set_option maxHeartbeats 4000000 in
set_option maxRecDepth 100000 in
theorem c_X9_wipe (l : Launch) (D : va_G) (kA : Nat → ClassId) (post : Int32 → Hp → Prop) (X : Hp) (sz : Nat) (v0 : Nat) (h : wp_X9_wipe post X v0) : Met l yX9_wipe (.code yX9_wipe cX9_wipe 2 (some .int) :: gd) (rmO 0 0 0 0) (va_Pc [Value.ref v0] (PreM D kA X sz)) (va_Qi post (PoM D kA X sz) (va_A (hw kA X) sz)) 0 0 (va_A (hw kA X) sz) := by
  unfold wp_X9_wipe at h
  refine x_enM (by decide) (Nat.le_of_ble_eq_true rfl) ?_
  intro p e s m below meth c G hr hlk hin hsz hA S ls hl
  obtain ⟨hx, hb, hml, hown, hts, hE, hK⟩ := id G
  have hl : lv_has ls 2 [(0, .ref v0)] := hl
  refine lv_aload_n hx hb dX9_wipe_0 rfl (lv_at hl 0 rfl) ?_
  obtain ⟨fs1, y2, hfs1, hvfs1, h⟩ := h
  refine x_get G S.1 hfs1 hvfs1 fl_X9_47 dX9_wipe_1 ?_
  obtain ⟨fs3, y4, hfs3, hvfs3, h⟩ := h
  refine x_get G S.1 hfs3 hvfs3 fl_X9_154 dX9_wipe_4 ?_
  refine lv_istore_n (lv' := [(1, .int y4), (0, .ref v0)]) hx hb dX9_wipe_7 rfl hl (by decide) rfl (fun ls hl => ?_)
  refine lv_aload_n hx hb dX9_wipe_8 rfl (lv_at hl 1 rfl) ?_
  obtain ⟨fs5, y6, hfs5, hvfs5, h⟩ := h
  refine x_get G S.1 hfs5 hvfs5 fl_X9_47 dX9_wipe_9 ?_
  refine lv_iconst (v := (0 : Int32)) hx hb dX9_wipe_12 (by decide) ?_
  obtain ⟨fs7, hfs7, hkfs7, h⟩ := h
  have h := h _ rfl
  refine x_put G S hfs7 hkfs7 rfl rfl fw_X9_154 dX9_wipe_13 (fun H locs S => ?_)
  refine lv_iload_n hx hb dX9_wipe_16 rfl (lv_at hl 0 rfl) ?_
  exact x_iretM G hr hlk S (Nat.le_refl _) (Nat.le_refl _) h dX9_wipe_17
def wp_X9_fault (post : Int32 → Prop) (X : Hp) (v0 : Nat) : Prop := ∃ (fs1 : List Value) (y2 : Nat), Hs X v0 (.inr (9, fs1)) ∧ fs1[4]? = some (.ref y2) ∧ ∃ fs4 : List Value, Hs X y2 (.inr (3, fs4)) ∧ wp_X3_faultPlace (fun r3 => post r3)  X y2
set_option maxHeartbeats 4000000 in
set_option maxRecDepth 100000 in
theorem c_X9_fault (l : Launch) (D : va_G) (kA : Nat → ClassId) (post : Int32 → Prop) (X : Hp) (v0 : Nat) (h : wp_X9_fault post X v0) : Met l yX9_fault (.code yX9_fault cX9_fault 1 (some .int) :: gd) (rmO 3 0 0 64) (va_Pc [Value.ref v0] (Pre D kA X)) (vp_Si post) 0 0 (fun _ => False) := by
  unfold wp_X9_fault at h
  refine x_enR (by decide) (Nat.le_of_ble_eq_true rfl) ?_
  intro p e s m below meth c G hr hlk hP ls hl
  obtain ⟨hx, hb, hml, hown, hts, hE, hK⟩ := id G
  have hl : lv_has ls 1 [(0, .ref v0)] := hl
  refine lv_aload_n hx hb dX9_fault_0 rfl (lv_at hl 0 rfl) ?_
  obtain ⟨fs1, y2, hfs1, hvfs1, h⟩ := h
  refine x_get G hP hfs1 hvfs1 fl_X9_47 dX9_fault_1 ?_
  obtain ⟨fs4, hfs4, h⟩ := h
  refine x_cRVi (As := []) (rest := []) G hP hfs4 rfl rfl (c_X3_faultPlace l D kA _ _ y2 h) cd_X3_faultPlace ml_X9_157 ⟨(Nat.le_of_ble_eq_true rfl), (Nat.le_of_ble_eq_true rfl)⟩ rfl hl.1 rfl (Nat.le_of_ble_eq_true rfl) dX9_fault_4 ⟨Nat.zero_le _, Nat.zero_le _⟩ (fun r3 h => ?_)
  exact x_iretR G hr hlk h dX9_fault_7
def wp_X9_isBattery (post : Int32 → Prop) (X : Hp) (v0 : Int32) : Prop := wp_X9_within (fun r1 => (r1 = 0 ∨ r1 = 1) ∧ post r1)  X v0 (0 : Int32) (24 : Int32)
set_option maxHeartbeats 4000000 in
set_option maxRecDepth 100000 in
theorem c_X9_isBattery (l : Launch) (D : va_G) (kA : Nat → ClassId) (post : Int32 → Prop) (X : Hp) (v0 : Int32) (h : wp_X9_isBattery post X v0) : Met l yX9_isBattery (.code yX9_isBattery cX9_isBattery 1 (some .boolean) :: gd) (rmO 1 0 0 22) (va_Pc [Value.int v0] (Pre D kA X)) (vp_Si post) 0 0 (fun _ => False) := by
  unfold wp_X9_isBattery at h
  refine x_enR (by decide) (Nat.le_of_ble_eq_true rfl) ?_
  intro p e s m below meth c G hr hlk hP ls hl
  obtain ⟨hx, hb, hml, hown, hts, hE, hK⟩ := id G
  have hl : lv_has ls 1 [(0, .int v0)] := hl
  refine lv_iload_n hx hb dX9_isBattery_0 rfl (lv_at hl 0 rfl) ?_
  refine lv_iconst (v := (0 : Int32)) hx hb dX9_isBattery_1 (by decide) ?_
  refine lv_bipush (v := (24 : Int32)) hx hb dX9_isBattery_2 (by decide) ?_
  refine x_cRSi (As := [.int v0, .int (0 : Int32), .int (24 : Int32)]) (rest := []) G hP (c_X9_within l D kA _ _ v0 (0 : Int32) (24 : Int32) h) cd_X9_within ml_X9_64 ⟨(Nat.le_of_ble_eq_true rfl), (Nat.le_of_ble_eq_true rfl)⟩ rfl hl.1 rfl (Nat.le_of_ble_eq_true rfl) dX9_isBattery_4 ⟨Nat.zero_le _, Nat.zero_le _⟩ (fun r1 h => ?_)
  obtain ⟨hz, h⟩ := h
  exact x_zretR G hr hlk hz h dX9_isBattery_7
def wp_X9_judge (post : Int32 → Hp → Prop) (X : Hp) (v0 : Nat) (v1 : Int32) (v2 : Int32) (v3 : Int32) (v4 : Int32) : Prop := ∃ fs62 : List Value, Hs X v0 (.inr (9, fs62)) ∧ wp_X9_wayOf (fun r1 => (r1 = none → post (-1 : Int32) X) ∧ (∀ y2 : Nat, r1 = some y2 → wp_X9_isOwed (fun r4 => (r4 = 0 → post (-2 : Int32) X) ∧ (¬ r4 = 0 → wp_X9_isBattery (fun r6 => (r6 = 0 → post (-2 : Int32) X) ∧ (¬ r6 = 0 → wp_X9_within (fun r8 => (¬ r8 = 0 → ∃ (fs10 : List Value) (y11 : Nat), Hs X v0 (.inr (9, fs10)) ∧ fs10[4]? = some (.ref y11) ∧ ∃ fs61 : List Value, Hs X y11 (.inr (3, fs61)) ∧ wp_X3_faultPlace (fun r12 => (r12 = (-6 : Int32) → ∃ (fs14 : List Value) (y15 : Nat), Hs X v0 (.inr (9, fs14)) ∧ fs14[5]? = some (.ref y15) ∧ ∃ fs60 : List Value, Hs X y15 (.inr (0, fs60)) ∧ wp_X0_setOut (fun X16 => ∃ (fs17 : List Value) (y18 : Nat), Hs X16 v0 (.inr (9, fs17)) ∧ fs17[5]? = some (.ref y18) ∧ ∃ (fs19 : List Value) (y20 : Nat), Hs X16 v0 (.inr (9, fs19)) ∧ fs19[4]? = some (.ref y20) ∧ ∃ fs59 : List Value, Hs X16 y18 (.inr (0, fs59)) ∧ wp_X0_sailBy (fun r22 X21 => (v4 = (0 : Int32) → post r22 X21) ∧ (v4 = (1 : Int32) → ∃ (fs25 : List Value) (y26 : Nat), Hs X21 v0 (.inr (9, fs25)) ∧ fs25[5]? = some (.ref y26) ∧ ∃ (fs27 : List Value) (y28 : Nat), Hs X21 y26 (.inr (0, fs27)) ∧ fs27[1]? = some (.ref y28) ∧ ∃ (fs29 : List Value) (y30 : Int32), Hs X21 y28 (.inr (7, fs29)) ∧ fs29[0]? = some (.int y30) ∧ post y30 X21) ∧ (v4 = (2 : Int32) → ∃ (fs32 : List Value) (y33 : Nat), Hs X21 v0 (.inr (9, fs32)) ∧ fs32[5]? = some (.ref y33) ∧ ∃ (fs34 : List Value) (y35 : Int32), Hs X21 y33 (.inr (0, fs34)) ∧ fs34[4]? = some (.int y35) ∧ post y35 X21) ∧ (v4 = (3 : Int32) → ∃ (fs37 : List Value) (y38 : Nat), Hs X21 v0 (.inr (9, fs37)) ∧ fs37[5]? = some (.ref y38) ∧ ∃ (fs39 : List Value) (y40 : Nat), Hs X21 y38 (.inr (0, fs39)) ∧ fs39[1]? = some (.ref y40) ∧ ∃ fs42 : List Value, Hs X21 y40 (.inr (7, fs42)) ∧ wp_X7_safe (fun r41 => post r41 X21)  X21 y40) ∧ (v4 = (4 : Int32) → ∃ (fs44 : List Value) (y45 : Nat), Hs X21 v0 (.inr (9, fs44)) ∧ fs44[5]? = some (.ref y45) ∧ ∃ (fs46 : List Value) (y47 : Nat), Hs X21 y45 (.inr (0, fs46)) ∧ fs46[1]? = some (.ref y47) ∧ ∃ fs49 : List Value, Hs X21 y47 (.inr (7, fs49)) ∧ wp_X7_riskiest (fun r48 => post r48 X21)  X21 y47) ∧ (v4 = (5 : Int32) → ∃ (fs51 : List Value) (y52 : Nat), Hs X21 v0 (.inr (9, fs51)) ∧ fs51[5]? = some (.ref y52) ∧ ∃ (fs53 : List Value) (y54 : Int32), Hs X21 y52 (.inr (0, fs53)) ∧ fs53[3]? = some (.int y54) ∧ post y54 X21) ∧ (¬ v4 = (0 : Int32) ∧ ¬ v4 = (1 : Int32) ∧ ¬ v4 = (2 : Int32) ∧ ¬ v4 = (3 : Int32) ∧ ¬ v4 = (4 : Int32) ∧ ¬ v4 = (5 : Int32) → ∃ (fs55 : List Value) (y56 : Nat), Hs X21 v0 (.inr (9, fs55)) ∧ fs55[5]? = some (.ref y56) ∧ ∃ (fs57 : List Value) (y58 : Int32), Hs X21 y56 (.inr (0, fs57)) ∧ fs57[5]? = some (.int y58) ∧ post y58 X21))  X16 y18 y20)  X y15 y2 v2 v3) ∧ (¬ r12 = (-6 : Int32) → post (-5 : Int32) X))  X y11) ∧ (r8 = 0 → post (-2 : Int32) X))  X v4 (0 : Int32) (6 : Int32)))  X v3))  X v2))  X v0 v1
set_option maxHeartbeats 4000000 in
set_option maxRecDepth 100000 in
theorem c_X9_judge (l : Launch) (D : va_G) (kA : Nat → ClassId) (post : Int32 → Hp → Prop) (X : Hp) (sz : Nat) (v0 : Nat) (v1 : Int32) (v2 : Int32) (v3 : Int32) (v4 : Int32) (h : wp_X9_judge post X v0 v1 v2 v3 v4) : Met l yX9_judge (.code yX9_judge cX9_judge 7 (some .int) :: gd) (rmO 5 0 0 117) (va_Pc [Value.ref v0, Value.int v1, Value.int v2, Value.int v3, Value.int v4] (PreM D kA X sz)) (va_Qi post (PoM D kA X sz) (va_A (hw kA X) sz)) 0 0 (va_A (hw kA X) sz) := by
  unfold wp_X9_judge at h
  refine x_enM (by decide) (Nat.le_of_ble_eq_true rfl) ?_
  intro p e s m below meth c G hr hlk hin hsz hA S ls hl
  obtain ⟨hx, hb, hml, hown, hts, hE, hK⟩ := id G
  have hl : lv_has ls 7 [(0, .ref v0), (1, .int v1), (2, .int v2), (3, .int v3), (4, .int v4)] := hl
  refine lv_aload_n hx hb dX9_judge_0 rfl (lv_at hl 0 rfl) ?_
  refine lv_iload_n hx hb dX9_judge_1 rfl (lv_at hl 1 rfl) ?_
  obtain ⟨fs62, hfs62, h⟩ := h
  refine x_cRVq (As := [.int v1]) (rest := []) G S.1 hfs62 rfl rfl (c_X9_wayOf l D kA _ _ v0 v1 h) cd_X9_wayOf ml_X9_95 ⟨(Nat.le_of_ble_eq_true rfl), (Nat.le_of_ble_eq_true rfl)⟩ rfl hl.1 rfl (Nat.le_of_ble_eq_true rfl) dX9_judge_2 ⟨Nat.zero_le _, Nat.zero_le _⟩ (fun r1 h => ?_)
  refine x_spl (fun c3 => ?_) (fun y2 c3 => ?_)
  · have h := h.1 c3
    refine lv_astoreN (lv' := [(5, .null), (0, .ref v0), (1, .int v1), (2, .int v2), (3, .int v3), (4, .int v4)]) hx hb dX9_judge_5 hl (by decide) rfl (fun ls hl => ?_)
    refine lv_aloadN hx hb dX9_judge_7 (lv_at hl 0 rfl) ?_
    refine lv_ifnonnullN hx hb dX9_judge_9 ?_
    refine lv_iconst (v := (-1 : Int32)) hx hb dX9_judge_12 (by decide) ?_
    exact x_iretM G hr hlk S (Nat.le_refl _) (Nat.le_refl _) h dX9_judge_13
  · have h := h.2 y2 c3
    refine lv_astore (lv' := [(5, .ref y2), (0, .ref v0), (1, .int v1), (2, .int v2), (3, .int v3), (4, .int v4)]) hx hb dX9_judge_5 hl (by decide) rfl (fun ls hl => ?_)
    refine lv_aload hx hb dX9_judge_7 (lv_at hl 0 rfl) ?_
    refine lv_ifnonnull (tgt := 14) hx hb dX9_judge_9 (by decide) ?_
    refine lv_iload_n hx hb dX9_judge_14 rfl (lv_at hl 3 rfl) ?_
    refine x_cRSi (As := [.int v2]) (rest := []) G S.1 (c_X9_isOwed l D kA _ _ v2 h) cd_X9_isOwed ml_X9_131 ⟨(Nat.le_of_ble_eq_true rfl), (Nat.le_of_ble_eq_true rfl)⟩ rfl hl.1 rfl (Nat.le_of_ble_eq_true rfl) dX9_judge_15 ⟨Nat.zero_le _, Nat.zero_le _⟩ (fun r4 h => ?_)
    refine lv_if_eq (tgt := 39) hx hb dX9_judge_18 (by decide) (fun c5 => ?_) (fun c5 => ?_)
    · have h := h.1 c5
      refine lv_bipush (v := (-2 : Int32)) hx hb dX9_judge_39 (by decide) ?_
      exact x_iretM G hr hlk S (Nat.le_refl _) (Nat.le_refl _) h dX9_judge_41
    · have h := h.2 c5
      refine lv_iload_n hx hb dX9_judge_21 rfl (lv_at hl 4 rfl) ?_
      refine x_cRSi (As := [.int v3]) (rest := []) G S.1 (c_X9_isBattery l D kA _ _ v3 h) cd_X9_isBattery ml_X9_161 ⟨(Nat.le_of_ble_eq_true rfl), (Nat.le_of_ble_eq_true rfl)⟩ rfl hl.1 rfl (Nat.le_of_ble_eq_true rfl) dX9_judge_22 ⟨Nat.zero_le _, Nat.zero_le _⟩ (fun r6 h => ?_)
      refine lv_if_eq (tgt := 39) hx hb dX9_judge_25 (by decide) (fun c7 => ?_) (fun c7 => ?_)
      · have h := h.1 c7
        refine lv_bipush (v := (-2 : Int32)) hx hb dX9_judge_39 (by decide) ?_
        exact x_iretM G hr hlk S (Nat.le_refl _) (Nat.le_refl _) h dX9_judge_41
      · have h := h.2 c7
        refine lv_iload hx hb dX9_judge_28 (lv_at hl 5 rfl) ?_
        refine lv_iconst (v := (0 : Int32)) hx hb dX9_judge_30 (by decide) ?_
        refine lv_bipush (v := (6 : Int32)) hx hb dX9_judge_31 (by decide) ?_
        refine x_cRSi (As := [.int v4, .int (0 : Int32), .int (6 : Int32)]) (rest := []) G S.1 (c_X9_within l D kA _ _ v4 (0 : Int32) (6 : Int32) h) cd_X9_within ml_X9_64 ⟨(Nat.le_of_ble_eq_true rfl), (Nat.le_of_ble_eq_true rfl)⟩ rfl hl.1 rfl (Nat.le_of_ble_eq_true rfl) dX9_judge_33 ⟨Nat.zero_le _, Nat.zero_le _⟩ (fun r8 h => ?_)
        refine lv_if_ne (tgt := 42) hx hb dX9_judge_36 (by decide) (fun c9 => ?_) (fun c9 => ?_)
        · have h := h.1 c9
          refine lv_aload_n hx hb dX9_judge_42 rfl (lv_at hl 1 rfl) ?_
          obtain ⟨fs10, y11, hfs10, hvfs10, h⟩ := h
          refine x_get G S.1 hfs10 hvfs10 fl_X9_47 dX9_judge_43 ?_
          obtain ⟨fs61, hfs61, h⟩ := h
          refine x_cRVi (As := []) (rest := []) G S.1 hfs61 rfl rfl (c_X3_faultPlace l D kA _ _ y11 h) cd_X3_faultPlace ml_X9_157 ⟨(Nat.le_of_ble_eq_true rfl), (Nat.le_of_ble_eq_true rfl)⟩ rfl hl.1 rfl (Nat.le_of_ble_eq_true rfl) dX9_judge_46 ⟨Nat.zero_le _, Nat.zero_le _⟩ (fun r12 h => ?_)
          refine lv_bipush (v := (-6 : Int32)) hx hb dX9_judge_49 (by decide) ?_
          refine lv_icmp_eq (tgt := 57) hx hb dX9_judge_51 (by decide) (fun c13 => ?_) (fun c13 => ?_)
          · have h := h.1 c13
            refine lv_aload_n hx hb dX9_judge_57 rfl (lv_at hl 1 rfl) ?_
            obtain ⟨fs14, y15, hfs14, hvfs14, h⟩ := h
            refine x_get G S.1 hfs14 hvfs14 fl_X9_56 dX9_judge_58 ?_
            refine lv_aload hx hb dX9_judge_61 (lv_at hl 0 rfl) ?_
            refine lv_iload_n hx hb dX9_judge_63 rfl (lv_at hl 3 rfl) ?_
            refine lv_iload_n hx hb dX9_judge_64 rfl (lv_at hl 4 rfl) ?_
            obtain ⟨fs60, hfs60, h⟩ := h
            refine x_cMVv (As := [.ref y2, .int v2, .int v3]) (rest := []) G S hA hfs60 rfl rfl (c_X0_setOut l D kA _ _ _ y15 y2 v2 v3 h) cd_X0_setOut ml_X9_164 ⟨(Nat.le_of_ble_eq_true rfl), (Nat.le_of_ble_eq_true rfl)⟩ rfl hl.1 rfl (Nat.le_of_ble_eq_true rfl) dX9_judge_65 ⟨Nat.zero_le _, Nat.zero_le _⟩ (fun X H locs h S => ?_)
            refine lv_aload_n hx hb dX9_judge_68 rfl (lv_at hl 1 rfl) ?_
            obtain ⟨fs17, y18, hfs17, hvfs17, h⟩ := h
            refine x_get G S.1 hfs17 hvfs17 fl_X9_56 dX9_judge_69 ?_
            refine lv_aload_n hx hb dX9_judge_72 rfl (lv_at hl 1 rfl) ?_
            obtain ⟨fs19, y20, hfs19, hvfs19, h⟩ := h
            refine x_get G S.1 hfs19 hvfs19 fl_X9_47 dX9_judge_73 ?_
            obtain ⟨fs59, hfs59, h⟩ := h
            refine x_cMVi (As := [.ref y20]) (rest := []) G S hA hfs59 rfl rfl (c_X0_sailBy l D kA _ _ _ y18 y20 h) cd_X0_sailBy ml_X9_168 ⟨(Nat.le_of_ble_eq_true rfl), (Nat.le_of_ble_eq_true rfl)⟩ rfl hl.1 rfl (Nat.le_of_ble_eq_true rfl) dX9_judge_76 ⟨Nat.zero_le _, Nat.zero_le _⟩ (fun r22 X H locs h S => ?_)
            refine lv_istore (lv' := [(6, .int r22), (5, .ref y2), (0, .ref v0), (1, .int v1), (2, .int v2), (3, .int v3), (4, .int v4)]) hx hb dX9_judge_79 hl (by decide) rfl (fun ls hl => ?_)
            refine lv_iload hx hb dX9_judge_81 (lv_at hl 6 rfl) ?_
            by_cases c23 : v4 = (0 : Int32)
            · have h := h.1 c23
              refine lv_tableIn (off := 37) (tgt := 120) hx hb dX9_judge_83 (by rw [c23]; decide) (by rw [c23]; decide) (by rw [c23]; decide) (by decide) ?_
              refine lv_iload hx hb dX9_judge_120 (lv_at hl 0 rfl) ?_
              exact x_iretM G hr hlk S (Nat.le_refl _) (Nat.le_refl _) h dX9_judge_122
            have h := h.2
            by_cases c24 : v4 = (1 : Int32)
            · have h := h.1 c24
              refine lv_tableIn (off := 40) (tgt := 123) hx hb dX9_judge_83 (by rw [c24]; decide) (by rw [c24]; decide) (by rw [c24]; decide) (by decide) ?_
              refine lv_aload_n hx hb dX9_judge_123 rfl (lv_at hl 2 rfl) ?_
              obtain ⟨fs25, y26, hfs25, hvfs25, h⟩ := h
              refine x_get G S.1 hfs25 hvfs25 fl_X9_56 dX9_judge_124 ?_
              obtain ⟨fs27, y28, hfs27, hvfs27, h⟩ := h
              refine x_get G S.1 hfs27 hvfs27 fl_X9_172 dX9_judge_127 ?_
              obtain ⟨fs29, y30, hfs29, hvfs29, h⟩ := h
              refine x_get G S.1 hfs29 hvfs29 fl_X9_176 dX9_judge_130 ?_
              exact x_iretM G hr hlk S (Nat.le_refl _) (Nat.le_refl _) h dX9_judge_133
            have h := h.2
            by_cases c31 : v4 = (2 : Int32)
            · have h := h.1 c31
              refine lv_tableIn (off := 51) (tgt := 134) hx hb dX9_judge_83 (by rw [c31]; decide) (by rw [c31]; decide) (by rw [c31]; decide) (by decide) ?_
              refine lv_aload_n hx hb dX9_judge_134 rfl (lv_at hl 2 rfl) ?_
              obtain ⟨fs32, y33, hfs32, hvfs32, h⟩ := h
              refine x_get G S.1 hfs32 hvfs32 fl_X9_56 dX9_judge_135 ?_
              obtain ⟨fs34, y35, hfs34, hvfs34, h⟩ := h
              refine x_get G S.1 hfs34 hvfs34 fl_X9_181 dX9_judge_138 ?_
              exact x_iretM G hr hlk S (Nat.le_refl _) (Nat.le_refl _) h dX9_judge_141
            have h := h.2
            by_cases c36 : v4 = (3 : Int32)
            · have h := h.1 c36
              refine lv_tableIn (off := 59) (tgt := 142) hx hb dX9_judge_83 (by rw [c36]; decide) (by rw [c36]; decide) (by rw [c36]; decide) (by decide) ?_
              refine lv_aload_n hx hb dX9_judge_142 rfl (lv_at hl 2 rfl) ?_
              obtain ⟨fs37, y38, hfs37, hvfs37, h⟩ := h
              refine x_get G S.1 hfs37 hvfs37 fl_X9_56 dX9_judge_143 ?_
              obtain ⟨fs39, y40, hfs39, hvfs39, h⟩ := h
              refine x_get G S.1 hfs39 hvfs39 fl_X9_172 dX9_judge_146 ?_
              obtain ⟨fs42, hfs42, h⟩ := h
              refine x_cRVi (As := []) (rest := []) G S.1 hfs42 rfl rfl (c_X7_safe l D kA _ _ y40 h) cd_X7_safe ml_X9_184 ⟨(Nat.le_of_ble_eq_true rfl), (Nat.le_of_ble_eq_true rfl)⟩ rfl hl.1 rfl (Nat.le_of_ble_eq_true rfl) dX9_judge_149 ⟨Nat.zero_le _, Nat.zero_le _⟩ (fun r41 h => ?_)
              exact x_iretM G hr hlk S (Nat.le_refl _) (Nat.le_refl _) h dX9_judge_152
            have h := h.2
            by_cases c43 : v4 = (4 : Int32)
            · have h := h.1 c43
              refine lv_tableIn (off := 70) (tgt := 153) hx hb dX9_judge_83 (by rw [c43]; decide) (by rw [c43]; decide) (by rw [c43]; decide) (by decide) ?_
              refine lv_aload_n hx hb dX9_judge_153 rfl (lv_at hl 2 rfl) ?_
              obtain ⟨fs44, y45, hfs44, hvfs44, h⟩ := h
              refine x_get G S.1 hfs44 hvfs44 fl_X9_56 dX9_judge_154 ?_
              obtain ⟨fs46, y47, hfs46, hvfs46, h⟩ := h
              refine x_get G S.1 hfs46 hvfs46 fl_X9_172 dX9_judge_157 ?_
              obtain ⟨fs49, hfs49, h⟩ := h
              refine x_cRVi (As := []) (rest := []) G S.1 hfs49 rfl rfl (c_X7_riskiest l D kA _ _ y47 h) cd_X7_riskiest ml_X9_187 ⟨(Nat.le_of_ble_eq_true rfl), (Nat.le_of_ble_eq_true rfl)⟩ rfl hl.1 rfl (Nat.le_of_ble_eq_true rfl) dX9_judge_160 ⟨Nat.zero_le _, Nat.zero_le _⟩ (fun r48 h => ?_)
              exact x_iretM G hr hlk S (Nat.le_refl _) (Nat.le_refl _) h dX9_judge_163
            have h := h.2
            by_cases c50 : v4 = (5 : Int32)
            · have h := h.1 c50
              refine lv_tableIn (off := 81) (tgt := 164) hx hb dX9_judge_83 (by rw [c50]; decide) (by rw [c50]; decide) (by rw [c50]; decide) (by decide) ?_
              refine lv_aload_n hx hb dX9_judge_164 rfl (lv_at hl 2 rfl) ?_
              obtain ⟨fs51, y52, hfs51, hvfs51, h⟩ := h
              refine x_get G S.1 hfs51 hvfs51 fl_X9_56 dX9_judge_165 ?_
              obtain ⟨fs53, y54, hfs53, hvfs53, h⟩ := h
              refine x_get G S.1 hfs53 hvfs53 fl_X9_190 dX9_judge_168 ?_
              exact x_iretM G hr hlk S (Nat.le_refl _) (Nat.le_refl _) h dX9_judge_171
            have h := h.2
            have h := h ⟨c23, c24, c31, c36, c43, c50⟩
            refine lv_tableOut (tgt := 172) hx hb dX9_judge_83 (by have := lv_neT c23 (show (0 : Int32).toInt = 0 by decide); have := lv_neT c24 (show (1 : Int32).toInt = 1 by decide); have := lv_neT c31 (show (2 : Int32).toInt = 2 by decide); have := lv_neT c36 (show (3 : Int32).toInt = 3 by decide); have := lv_neT c43 (show (4 : Int32).toInt = 4 by decide); have := lv_neT c50 (show (5 : Int32).toInt = 5 by decide); omega) (by decide) ?_
            refine lv_aload_n hx hb dX9_judge_172 rfl (lv_at hl 2 rfl) ?_
            obtain ⟨fs55, y56, hfs55, hvfs55, h⟩ := h
            refine x_get G S.1 hfs55 hvfs55 fl_X9_56 dX9_judge_173 ?_
            obtain ⟨fs57, y58, hfs57, hvfs57, h⟩ := h
            refine x_get G S.1 hfs57 hvfs57 fl_X9_193 dX9_judge_176 ?_
            exact x_iretM G hr hlk S (Nat.le_refl _) (Nat.le_refl _) h dX9_judge_179
          · have h := h.2 c13
            refine lv_bipush (v := (-5 : Int32)) hx hb dX9_judge_54 (by decide) ?_
            exact x_iretM G hr hlk S (Nat.le_refl _) (Nat.le_refl _) h dX9_judge_56
        · have h := h.2 c9
          refine lv_bipush (v := (-2 : Int32)) hx hb dX9_judge_39 (by decide) ?_
          exact x_iretM G hr hlk S (Nat.le_refl _) (Nat.le_refl _) h dX9_judge_41
def wp_X9_best (post : Int32 → Hp → Prop) (mc ms : Nat) (X : Hp) (v0 : Nat) (v1 : Int32) (v2 : Int32) (v3 : Int32) (v4 : Int32) (v5 : Int32) : Prop := ∃ fs16 : List Value, Hs X v0 (.inr (9, fs16)) ∧ 0 ≤ mc ∧ 0 ≤ ms ∧ wp_X9_planOf (fun r1 => (r1 = none → 0 ≤ mc ∧ 0 ≤ ms ∧ post (-1 : Int32) X) ∧ (∀ y2 : Nat, r1 = some y2 → ∃ fs15 : List Value, Hs X y2 (.inr (4, fs15)) ∧ 0 ≤ mc ∧ 0 ≤ ms ∧ wp_X4_reaches (fun r4 => (r4 = 0 → 0 ≤ mc ∧ 0 ≤ ms ∧ post (-2 : Int32) X) ∧ (¬ r4 = 0 → 0 ≤ mc ∧ 0 ≤ ms ∧ wp_X9_isOwed (fun r6 => (r6 = 0 → 0 ≤ mc ∧ 0 ≤ ms ∧ post (-2 : Int32) X) ∧ (¬ r6 = 0 → 0 ≤ mc ∧ 0 ≤ ms ∧ wp_X9_isBattery (fun r8 => (¬ r8 = 0 → ∃ fs14 : List Value, Hs X y2 (.inr (4, fs14)) ∧ ∃ m10 m11 : Nat, 0 + m10 ≤ mc ∧ 0 + m11 ≤ ms ∧ wp_X4_bestFrom (fun r13 X12 => (0 + m10) ≤ mc ∧ (0 + m11) ≤ ms ∧ post r13 X12) m10 m11 X y2 v2 v3 v4 v5) ∧ (r8 = 0 → 0 ≤ mc ∧ 0 ≤ ms ∧ post (-2 : Int32) X))  X v4))  X v3))  X y2 v2 v5))  X v0 v1
set_option maxHeartbeats 4000000 in
set_option maxRecDepth 100000 in
theorem c_X9_best (l : Launch) (D : va_G) (kA : Nat → ClassId) (post : Int32 → Hp → Prop) (mc ms : Nat) (X : Hp) (sz : Nat) (v0 : Nat) (v1 : Int32) (v2 : Int32) (v3 : Int32) (v4 : Int32) (v5 : Int32) (h : wp_X9_best post mc ms X v0 v1 v2 v3 v4 v5) : Met l yX9_best (.code yX9_best cX9_best 7 (some .int) :: gd) (rmO 7 mc ms 174) (va_Pc [Value.ref v0, Value.int v1, Value.int v2, Value.int v3, Value.int v4, Value.int v5] (PreM D kA X sz)) (va_Qi post (PoM D kA X sz) (va_A (hw kA X) sz)) mc ms (va_A (hw kA X) sz) := by
  unfold wp_X9_best at h
  refine x_enM (by decide) (Nat.le_of_ble_eq_true rfl) ?_
  intro p e s m below meth c G hr hlk hin hsz hA S ls hl
  obtain ⟨hx, hb, hml, hown, hts, hE, hK⟩ := id G
  have hl : lv_has ls 7 [(0, .ref v0), (1, .int v1), (2, .int v2), (3, .int v3), (4, .int v4), (5, .int v5)] := hl
  refine lv_aload_n hx hb dX9_best_0 rfl (lv_at hl 0 rfl) ?_
  refine lv_iload_n hx hb dX9_best_1 rfl (lv_at hl 1 rfl) ?_
  obtain ⟨fs16, hfs16, h⟩ := h
  obtain ⟨hkc, hks, h⟩ := h
  refine x_cRVq (As := [.int v1]) (rest := []) G S.1 hfs16 rfl rfl (c_X9_planOf l D kA _ _ v0 v1 h) cd_X9_planOf ml_X9_60 ⟨(Nat.le_of_ble_eq_true rfl), (Nat.le_of_ble_eq_true rfl)⟩ rfl hl.1 rfl (Nat.le_of_ble_eq_true rfl) dX9_best_2 ⟨hkc, hks⟩ (fun r1 h => ?_)
  refine x_spl (fun c3 => ?_) (fun y2 c3 => ?_)
  · have h := h.1 c3
    refine lv_astoreN (lv' := [(6, .null), (0, .ref v0), (1, .int v1), (2, .int v2), (3, .int v3), (4, .int v4), (5, .int v5)]) hx hb dX9_best_5 hl (by decide) rfl (fun ls hl => ?_)
    refine lv_aloadN hx hb dX9_best_7 (lv_at hl 0 rfl) ?_
    refine lv_ifnonnullN hx hb dX9_best_9 ?_
    refine lv_iconst (v := (-1 : Int32)) hx hb dX9_best_12 (by decide) ?_
    obtain ⟨hk1, hk2, h⟩ := h
    exact x_iretM G hr hlk S hk1 hk2 h dX9_best_13
  · have h := h.2 y2 c3
    refine lv_astore (lv' := [(6, .ref y2), (0, .ref v0), (1, .int v1), (2, .int v2), (3, .int v3), (4, .int v4), (5, .int v5)]) hx hb dX9_best_5 hl (by decide) rfl (fun ls hl => ?_)
    refine lv_aload hx hb dX9_best_7 (lv_at hl 0 rfl) ?_
    refine lv_ifnonnull (tgt := 14) hx hb dX9_best_9 (by decide) ?_
    refine lv_aload hx hb dX9_best_14 (lv_at hl 0 rfl) ?_
    refine lv_iload_n hx hb dX9_best_16 rfl (lv_at hl 3 rfl) ?_
    refine lv_iload hx hb dX9_best_17 (lv_at hl 6 rfl) ?_
    obtain ⟨fs15, hfs15, h⟩ := h
    obtain ⟨hkc, hks, h⟩ := h
    refine x_cRVi (As := [.int v2, .int v5]) (rest := []) G S.1 hfs15 rfl rfl (c_X4_reaches l D kA _ _ y2 v2 v5 h) cd_X4_reaches ml_X9_196 ⟨(Nat.le_of_ble_eq_true rfl), (Nat.le_of_ble_eq_true rfl)⟩ rfl hl.1 rfl (Nat.le_of_ble_eq_true rfl) dX9_best_19 ⟨hkc, hks⟩ (fun r4 h => ?_)
    refine lv_if_eq (tgt := 40) hx hb dX9_best_22 (by decide) (fun c5 => ?_) (fun c5 => ?_)
    · have h := h.1 c5
      refine lv_bipush (v := (-2 : Int32)) hx hb dX9_best_40 (by decide) ?_
      obtain ⟨hk1, hk2, h⟩ := h
      exact x_iretM G hr hlk S hk1 hk2 h dX9_best_42
    · have h := h.2 c5
      refine lv_iload_n hx hb dX9_best_25 rfl (lv_at hl 4 rfl) ?_
      obtain ⟨hkc, hks, h⟩ := h
      refine x_cRSi (As := [.int v3]) (rest := []) G S.1 (c_X9_isOwed l D kA _ _ v3 h) cd_X9_isOwed ml_X9_131 ⟨(Nat.le_of_ble_eq_true rfl), (Nat.le_of_ble_eq_true rfl)⟩ rfl hl.1 rfl (Nat.le_of_ble_eq_true rfl) dX9_best_26 ⟨hkc, hks⟩ (fun r6 h => ?_)
      refine lv_if_eq (tgt := 40) hx hb dX9_best_29 (by decide) (fun c7 => ?_) (fun c7 => ?_)
      · have h := h.1 c7
        refine lv_bipush (v := (-2 : Int32)) hx hb dX9_best_40 (by decide) ?_
        obtain ⟨hk1, hk2, h⟩ := h
        exact x_iretM G hr hlk S hk1 hk2 h dX9_best_42
      · have h := h.2 c7
        refine lv_iload hx hb dX9_best_32 (lv_at hl 5 rfl) ?_
        obtain ⟨hkc, hks, h⟩ := h
        refine x_cRSi (As := [.int v4]) (rest := []) G S.1 (c_X9_isBattery l D kA _ _ v4 h) cd_X9_isBattery ml_X9_161 ⟨(Nat.le_of_ble_eq_true rfl), (Nat.le_of_ble_eq_true rfl)⟩ rfl hl.1 rfl (Nat.le_of_ble_eq_true rfl) dX9_best_34 ⟨hkc, hks⟩ (fun r8 h => ?_)
        refine lv_if_ne (tgt := 43) hx hb dX9_best_37 (by decide) (fun c9 => ?_) (fun c9 => ?_)
        · have h := h.1 c9
          refine lv_aload hx hb dX9_best_43 (lv_at hl 0 rfl) ?_
          refine lv_iload_n hx hb dX9_best_45 rfl (lv_at hl 3 rfl) ?_
          refine lv_iload_n hx hb dX9_best_46 rfl (lv_at hl 4 rfl) ?_
          refine lv_iload hx hb dX9_best_47 (lv_at hl 5 rfl) ?_
          refine lv_iload hx hb dX9_best_49 (lv_at hl 6 rfl) ?_
          obtain ⟨fs14, hfs14, h⟩ := h
          obtain ⟨m10, m11, hm1, hm2, h⟩ := h
          refine x_cMVi (As := [.int v2, .int v3, .int v4, .int v5]) (rest := []) G S hA hfs14 rfl rfl (c_X4_bestFrom l D kA _ _ _ _ _ y2 v2 v3 v4 v5 h) cd_X4_bestFrom ml_X9_199 ⟨(Nat.le_of_ble_eq_true rfl), (Nat.le_of_ble_eq_true rfl)⟩ rfl hl.1 rfl (Nat.le_of_ble_eq_true rfl) dX9_best_51 ⟨hm1, hm2⟩ (fun r13 X H locs h S => ?_)
          obtain ⟨hk1, hk2, h⟩ := h
          exact x_iretM G hr hlk S hk1 hk2 h dX9_best_54
        · have h := h.2 c9
          refine lv_bipush (v := (-2 : Int32)) hx hb dX9_best_40 (by decide) ?_
          obtain ⟨hk1, hk2, h⟩ := h
          exact x_iretM G hr hlk S hk1 hk2 h dX9_best_42
def wp_X9_does (post : Int32 → Hp → Prop) (mc ms : Nat) (X : Hp) (v0 : Nat) (v1 : Int32) (v2 : Int32) (v3 : Int32) (v4 : Int32) (v5 : Int32) : Prop := ∃ fs17 : List Value, Hs X v0 (.inr (9, fs17)) ∧ 0 ≤ mc ∧ 0 ≤ ms ∧ wp_X9_planOf (fun r1 => (r1 = none → 0 ≤ mc ∧ 0 ≤ ms ∧ post (-1 : Int32) X) ∧ (∀ y2 : Nat, r1 = some y2 → ∃ fs16 : List Value, Hs X y2 (.inr (4, fs16)) ∧ 0 ≤ mc ∧ 0 ≤ ms ∧ wp_X4_reaches (fun r4 => (r4 = 0 → 0 ≤ mc ∧ 0 ≤ ms ∧ post (-2 : Int32) X) ∧ (¬ r4 = 0 → 0 ≤ mc ∧ 0 ≤ ms ∧ wp_X9_isOwed (fun r6 => (r6 = 0 → 0 ≤ mc ∧ 0 ≤ ms ∧ post (-2 : Int32) X) ∧ (¬ r6 = 0 → 0 ≤ mc ∧ 0 ≤ ms ∧ wp_X9_isBattery (fun r8 => (¬ r8 = 0 → ∃ fs15 : List Value, Hs X y2 (.inr (4, fs15)) ∧ ∃ m10 m11 : Nat, 0 + m10 ≤ mc ∧ 0 + m11 ≤ ms ∧ wp_X4_firstDeed (fun r13 X12 => (0 + m10) ≤ mc ∧ (0 + m11) ≤ ms ∧ wp_X9_codeOf (fun r14 => (0 + m10) ≤ mc ∧ (0 + m11) ≤ ms ∧ post r14 X12)  X12 r13) m10 m11 X y2 v2 v3 v4 v5) ∧ (r8 = 0 → 0 ≤ mc ∧ 0 ≤ ms ∧ post (-2 : Int32) X))  X v4))  X v3))  X y2 v2 v5))  X v0 v1
set_option maxHeartbeats 4000000 in
set_option maxRecDepth 100000 in
theorem c_X9_does (l : Launch) (D : va_G) (kA : Nat → ClassId) (post : Int32 → Hp → Prop) (mc ms : Nat) (X : Hp) (sz : Nat) (v0 : Nat) (v1 : Int32) (v2 : Int32) (v3 : Int32) (v4 : Int32) (v5 : Int32) (h : wp_X9_does post mc ms X v0 v1 v2 v3 v4 v5) : Met l yX9_does (.code yX9_does cX9_does 7 (some .int) :: gd) (rmO 7 mc ms 173) (va_Pc [Value.ref v0, Value.int v1, Value.int v2, Value.int v3, Value.int v4, Value.int v5] (PreM D kA X sz)) (va_Qi post (PoM D kA X sz) (va_A (hw kA X) sz)) mc ms (va_A (hw kA X) sz) := by
  unfold wp_X9_does at h
  refine x_enM (by decide) (Nat.le_of_ble_eq_true rfl) ?_
  intro p e s m below meth c G hr hlk hin hsz hA S ls hl
  obtain ⟨hx, hb, hml, hown, hts, hE, hK⟩ := id G
  have hl : lv_has ls 7 [(0, .ref v0), (1, .int v1), (2, .int v2), (3, .int v3), (4, .int v4), (5, .int v5)] := hl
  refine lv_aload_n hx hb dX9_does_0 rfl (lv_at hl 0 rfl) ?_
  refine lv_iload_n hx hb dX9_does_1 rfl (lv_at hl 1 rfl) ?_
  obtain ⟨fs17, hfs17, h⟩ := h
  obtain ⟨hkc, hks, h⟩ := h
  refine x_cRVq (As := [.int v1]) (rest := []) G S.1 hfs17 rfl rfl (c_X9_planOf l D kA _ _ v0 v1 h) cd_X9_planOf ml_X9_60 ⟨(Nat.le_of_ble_eq_true rfl), (Nat.le_of_ble_eq_true rfl)⟩ rfl hl.1 rfl (Nat.le_of_ble_eq_true rfl) dX9_does_2 ⟨hkc, hks⟩ (fun r1 h => ?_)
  refine x_spl (fun c3 => ?_) (fun y2 c3 => ?_)
  · have h := h.1 c3
    refine lv_astoreN (lv' := [(6, .null), (0, .ref v0), (1, .int v1), (2, .int v2), (3, .int v3), (4, .int v4), (5, .int v5)]) hx hb dX9_does_5 hl (by decide) rfl (fun ls hl => ?_)
    refine lv_aloadN hx hb dX9_does_7 (lv_at hl 0 rfl) ?_
    refine lv_ifnonnullN hx hb dX9_does_9 ?_
    refine lv_iconst (v := (-1 : Int32)) hx hb dX9_does_12 (by decide) ?_
    obtain ⟨hk1, hk2, h⟩ := h
    exact x_iretM G hr hlk S hk1 hk2 h dX9_does_13
  · have h := h.2 y2 c3
    refine lv_astore (lv' := [(6, .ref y2), (0, .ref v0), (1, .int v1), (2, .int v2), (3, .int v3), (4, .int v4), (5, .int v5)]) hx hb dX9_does_5 hl (by decide) rfl (fun ls hl => ?_)
    refine lv_aload hx hb dX9_does_7 (lv_at hl 0 rfl) ?_
    refine lv_ifnonnull (tgt := 14) hx hb dX9_does_9 (by decide) ?_
    refine lv_aload hx hb dX9_does_14 (lv_at hl 0 rfl) ?_
    refine lv_iload_n hx hb dX9_does_16 rfl (lv_at hl 3 rfl) ?_
    refine lv_iload hx hb dX9_does_17 (lv_at hl 6 rfl) ?_
    obtain ⟨fs16, hfs16, h⟩ := h
    obtain ⟨hkc, hks, h⟩ := h
    refine x_cRVi (As := [.int v2, .int v5]) (rest := []) G S.1 hfs16 rfl rfl (c_X4_reaches l D kA _ _ y2 v2 v5 h) cd_X4_reaches ml_X9_196 ⟨(Nat.le_of_ble_eq_true rfl), (Nat.le_of_ble_eq_true rfl)⟩ rfl hl.1 rfl (Nat.le_of_ble_eq_true rfl) dX9_does_19 ⟨hkc, hks⟩ (fun r4 h => ?_)
    refine lv_if_eq (tgt := 40) hx hb dX9_does_22 (by decide) (fun c5 => ?_) (fun c5 => ?_)
    · have h := h.1 c5
      refine lv_bipush (v := (-2 : Int32)) hx hb dX9_does_40 (by decide) ?_
      obtain ⟨hk1, hk2, h⟩ := h
      exact x_iretM G hr hlk S hk1 hk2 h dX9_does_42
    · have h := h.2 c5
      refine lv_iload_n hx hb dX9_does_25 rfl (lv_at hl 4 rfl) ?_
      obtain ⟨hkc, hks, h⟩ := h
      refine x_cRSi (As := [.int v3]) (rest := []) G S.1 (c_X9_isOwed l D kA _ _ v3 h) cd_X9_isOwed ml_X9_131 ⟨(Nat.le_of_ble_eq_true rfl), (Nat.le_of_ble_eq_true rfl)⟩ rfl hl.1 rfl (Nat.le_of_ble_eq_true rfl) dX9_does_26 ⟨hkc, hks⟩ (fun r6 h => ?_)
      refine lv_if_eq (tgt := 40) hx hb dX9_does_29 (by decide) (fun c7 => ?_) (fun c7 => ?_)
      · have h := h.1 c7
        refine lv_bipush (v := (-2 : Int32)) hx hb dX9_does_40 (by decide) ?_
        obtain ⟨hk1, hk2, h⟩ := h
        exact x_iretM G hr hlk S hk1 hk2 h dX9_does_42
      · have h := h.2 c7
        refine lv_iload hx hb dX9_does_32 (lv_at hl 5 rfl) ?_
        obtain ⟨hkc, hks, h⟩ := h
        refine x_cRSi (As := [.int v4]) (rest := []) G S.1 (c_X9_isBattery l D kA _ _ v4 h) cd_X9_isBattery ml_X9_161 ⟨(Nat.le_of_ble_eq_true rfl), (Nat.le_of_ble_eq_true rfl)⟩ rfl hl.1 rfl (Nat.le_of_ble_eq_true rfl) dX9_does_34 ⟨hkc, hks⟩ (fun r8 h => ?_)
        refine lv_if_ne (tgt := 43) hx hb dX9_does_37 (by decide) (fun c9 => ?_) (fun c9 => ?_)
        · have h := h.1 c9
          refine lv_aload hx hb dX9_does_43 (lv_at hl 0 rfl) ?_
          refine lv_iload_n hx hb dX9_does_45 rfl (lv_at hl 3 rfl) ?_
          refine lv_iload_n hx hb dX9_does_46 rfl (lv_at hl 4 rfl) ?_
          refine lv_iload hx hb dX9_does_47 (lv_at hl 5 rfl) ?_
          refine lv_iload hx hb dX9_does_49 (lv_at hl 6 rfl) ?_
          obtain ⟨fs15, hfs15, h⟩ := h
          obtain ⟨m10, m11, hm1, hm2, h⟩ := h
          refine x_cMVi (As := [.int v2, .int v3, .int v4, .int v5]) (rest := []) G S hA hfs15 rfl rfl (c_X4_firstDeed l D kA _ _ _ _ _ y2 v2 v3 v4 v5 h) cd_X4_firstDeed ml_X9_203 ⟨(Nat.le_of_ble_eq_true rfl), (Nat.le_of_ble_eq_true rfl)⟩ rfl hl.1 rfl (Nat.le_of_ble_eq_true rfl) dX9_does_51 ⟨hm1, hm2⟩ (fun r13 X H locs h S => ?_)
          obtain ⟨hkc, hks, h⟩ := h
          refine x_cRSi (As := [.int r13]) (rest := []) G S.1 (c_X9_codeOf l D kA _ _ r13 h) cd_X9_codeOf ml_X9_206 ⟨(Nat.le_of_ble_eq_true rfl), (Nat.le_of_ble_eq_true rfl)⟩ rfl hl.1 rfl (Nat.le_of_ble_eq_true rfl) dX9_does_54 ⟨hkc, hks⟩ (fun r14 h => ?_)
          obtain ⟨hk1, hk2, h⟩ := h
          exact x_iretM G hr hlk S hk1 hk2 h dX9_does_57
        · have h := h.2 c9
          refine lv_bipush (v := (-2 : Int32)) hx hb dX9_does_40 (by decide) ?_
          obtain ⟨hk1, hk2, h⟩ := h
          exact x_iretM G hr hlk S hk1 hk2 h dX9_does_42
def wp_X9_logged (post : Int32 → Hp → Prop) (mc ms : Nat) (X : Hp) (v0 : Nat) (v1 : Int32) (v2 : Int32) (v3 : Int32) (v4 : Int32) : Prop := ∃ fs13 : List Value, Hs X v0 (.inr (9, fs13)) ∧ 0 ≤ mc ∧ 0 ≤ ms ∧ wp_X9_planOf (fun r1 => (r1 = none → 0 ≤ mc ∧ 0 ≤ ms ∧ post (-1 : Int32) X) ∧ (∀ y2 : Nat, r1 = some y2 → 0 ≤ mc ∧ 0 ≤ ms ∧ wp_X9_isOwed (fun r4 => (r4 = 0 → 0 ≤ mc ∧ 0 ≤ ms ∧ post (-2 : Int32) X) ∧ (¬ r4 = 0 → 0 ≤ mc ∧ 0 ≤ ms ∧ wp_X9_isBattery (fun r6 => (¬ r6 = 0 → ∃ fs12 : List Value, Hs X y2 (.inr (4, fs12)) ∧ ∃ m8 m9 : Nat, 0 + m8 ≤ mc ∧ 0 + m9 ≤ ms ∧ wp_X4_follow (fun r11 X10 => (0 + m8) ≤ mc ∧ (0 + m9) ≤ ms ∧ post r11 X10) m8 m9 X y2 v2 v3 v4) ∧ (r6 = 0 → 0 ≤ mc ∧ 0 ≤ ms ∧ post (-2 : Int32) X))  X v3))  X v2))  X v0 v1
set_option maxHeartbeats 4000000 in
set_option maxRecDepth 100000 in
theorem c_X9_logged (l : Launch) (D : va_G) (kA : Nat → ClassId) (post : Int32 → Hp → Prop) (mc ms : Nat) (X : Hp) (sz : Nat) (v0 : Nat) (v1 : Int32) (v2 : Int32) (v3 : Int32) (v4 : Int32) (h : wp_X9_logged post mc ms X v0 v1 v2 v3 v4) : Met l yX9_logged (.code yX9_logged cX9_logged 6 (some .int) :: gd) (rmO 7 mc ms 178) (va_Pc [Value.ref v0, Value.int v1, Value.int v2, Value.int v3, Value.int v4] (PreM D kA X sz)) (va_Qi post (PoM D kA X sz) (va_A (hw kA X) sz)) mc ms (va_A (hw kA X) sz) := by
  unfold wp_X9_logged at h
  refine x_enM (by decide) (Nat.le_of_ble_eq_true rfl) ?_
  intro p e s m below meth c G hr hlk hin hsz hA S ls hl
  obtain ⟨hx, hb, hml, hown, hts, hE, hK⟩ := id G
  have hl : lv_has ls 6 [(0, .ref v0), (1, .int v1), (2, .int v2), (3, .int v3), (4, .int v4)] := hl
  refine lv_aload_n hx hb dX9_logged_0 rfl (lv_at hl 0 rfl) ?_
  refine lv_iload_n hx hb dX9_logged_1 rfl (lv_at hl 1 rfl) ?_
  obtain ⟨fs13, hfs13, h⟩ := h
  obtain ⟨hkc, hks, h⟩ := h
  refine x_cRVq (As := [.int v1]) (rest := []) G S.1 hfs13 rfl rfl (c_X9_planOf l D kA _ _ v0 v1 h) cd_X9_planOf ml_X9_60 ⟨(Nat.le_of_ble_eq_true rfl), (Nat.le_of_ble_eq_true rfl)⟩ rfl hl.1 rfl (Nat.le_of_ble_eq_true rfl) dX9_logged_2 ⟨hkc, hks⟩ (fun r1 h => ?_)
  refine x_spl (fun c3 => ?_) (fun y2 c3 => ?_)
  · have h := h.1 c3
    refine lv_astoreN (lv' := [(5, .null), (0, .ref v0), (1, .int v1), (2, .int v2), (3, .int v3), (4, .int v4)]) hx hb dX9_logged_5 hl (by decide) rfl (fun ls hl => ?_)
    refine lv_aloadN hx hb dX9_logged_7 (lv_at hl 0 rfl) ?_
    refine lv_ifnonnullN hx hb dX9_logged_9 ?_
    refine lv_iconst (v := (-1 : Int32)) hx hb dX9_logged_12 (by decide) ?_
    obtain ⟨hk1, hk2, h⟩ := h
    exact x_iretM G hr hlk S hk1 hk2 h dX9_logged_13
  · have h := h.2 y2 c3
    refine lv_astore (lv' := [(5, .ref y2), (0, .ref v0), (1, .int v1), (2, .int v2), (3, .int v3), (4, .int v4)]) hx hb dX9_logged_5 hl (by decide) rfl (fun ls hl => ?_)
    refine lv_aload hx hb dX9_logged_7 (lv_at hl 0 rfl) ?_
    refine lv_ifnonnull (tgt := 14) hx hb dX9_logged_9 (by decide) ?_
    refine lv_iload_n hx hb dX9_logged_14 rfl (lv_at hl 3 rfl) ?_
    obtain ⟨hkc, hks, h⟩ := h
    refine x_cRSi (As := [.int v2]) (rest := []) G S.1 (c_X9_isOwed l D kA _ _ v2 h) cd_X9_isOwed ml_X9_131 ⟨(Nat.le_of_ble_eq_true rfl), (Nat.le_of_ble_eq_true rfl)⟩ rfl hl.1 rfl (Nat.le_of_ble_eq_true rfl) dX9_logged_15 ⟨hkc, hks⟩ (fun r4 h => ?_)
    refine lv_if_eq (tgt := 28) hx hb dX9_logged_18 (by decide) (fun c5 => ?_) (fun c5 => ?_)
    · have h := h.1 c5
      refine lv_bipush (v := (-2 : Int32)) hx hb dX9_logged_28 (by decide) ?_
      obtain ⟨hk1, hk2, h⟩ := h
      exact x_iretM G hr hlk S hk1 hk2 h dX9_logged_30
    · have h := h.2 c5
      refine lv_iload_n hx hb dX9_logged_21 rfl (lv_at hl 4 rfl) ?_
      obtain ⟨hkc, hks, h⟩ := h
      refine x_cRSi (As := [.int v3]) (rest := []) G S.1 (c_X9_isBattery l D kA _ _ v3 h) cd_X9_isBattery ml_X9_161 ⟨(Nat.le_of_ble_eq_true rfl), (Nat.le_of_ble_eq_true rfl)⟩ rfl hl.1 rfl (Nat.le_of_ble_eq_true rfl) dX9_logged_22 ⟨hkc, hks⟩ (fun r6 h => ?_)
      refine lv_if_ne (tgt := 31) hx hb dX9_logged_25 (by decide) (fun c7 => ?_) (fun c7 => ?_)
      · have h := h.1 c7
        refine lv_aload hx hb dX9_logged_31 (lv_at hl 0 rfl) ?_
        refine lv_iload_n hx hb dX9_logged_33 rfl (lv_at hl 3 rfl) ?_
        refine lv_iload_n hx hb dX9_logged_34 rfl (lv_at hl 4 rfl) ?_
        refine lv_iload hx hb dX9_logged_35 (lv_at hl 5 rfl) ?_
        obtain ⟨fs12, hfs12, h⟩ := h
        obtain ⟨m8, m9, hm1, hm2, h⟩ := h
        refine x_cMVi (As := [.int v2, .int v3, .int v4]) (rest := []) G S hA hfs12 rfl rfl (c_X4_follow l D kA _ _ _ _ _ y2 v2 v3 v4 h) cd_X4_follow ml_X9_209 ⟨(Nat.le_of_ble_eq_true rfl), (Nat.le_of_ble_eq_true rfl)⟩ rfl hl.1 rfl (Nat.le_of_ble_eq_true rfl) dX9_logged_37 ⟨hm1, hm2⟩ (fun r11 X H locs h S => ?_)
        obtain ⟨hk1, hk2, h⟩ := h
        exact x_iretM G hr hlk S hk1 hk2 h dX9_logged_40
      · have h := h.2 c7
        refine lv_bipush (v := (-2 : Int32)) hx hb dX9_logged_28 (by decide) ?_
        obtain ⟨hk1, hk2, h⟩ := h
        exact x_iretM G hr hlk S hk1 hk2 h dX9_logged_30
def wp_X9_thumb (post : Int32 → Hp → Prop) (mc ms : Nat) (X : Hp) (v0 : Nat) (v1 : Int32) (v2 : Int32) (v3 : Int32) (v4 : Int32) : Prop := ∃ fs43 : List Value, Hs X v0 (.inr (9, fs43)) ∧ 0 ≤ mc ∧ 0 ≤ ms ∧ wp_X9_planOf (fun r1 => (r1 = none → 0 ≤ mc ∧ 0 ≤ ms ∧ post (-1 : Int32) X) ∧ (∀ y2 : Nat, r1 = some y2 → 0 ≤ mc ∧ 0 ≤ ms ∧ wp_X9_within (fun r4 => (r4 = 0 → 0 ≤ mc ∧ 0 ≤ ms ∧ post (-2 : Int32) X) ∧ (¬ r4 = 0 → 0 ≤ mc ∧ 0 ≤ ms ∧ wp_X9_isOwed (fun r6 => (r6 = 0 → 0 ≤ mc ∧ 0 ≤ ms ∧ post (-2 : Int32) X) ∧ (¬ r6 = 0 → 0 ≤ mc ∧ 0 ≤ ms ∧ wp_X9_within (fun r8 => (¬ r8 = 0 → ∃ (fs10 : List Value) (y11 : Nat), Hs X v0 (.inr (9, fs10)) ∧ fs10[5]? = some (.ref y11) ∧ ∃ (fs12 : List Value) (y13 : Nat), Hs X y2 (.inr (4, fs12)) ∧ fs12[0]? = some (.ref y13) ∧ ∃ fs42 : List Value, Hs X y11 (.inr (0, fs42)) ∧ 0 ≤ mc ∧ 0 ≤ ms ∧ wp_X0_setOut (fun X14 => ∃ (fs15 : List Value) (y16 : Nat), Hs X14 v0 (.inr (9, fs15)) ∧ fs15[5]? = some (.ref y16) ∧ ∃ fs41 : List Value, Hs X14 y16 (.inr (0, fs41)) ∧ 0 ≤ mc ∧ 0 ≤ ms ∧ wp_X0_sailByThumb (fun X17 => (v4 = (0 : Int32) → ∃ (fs19 : List Value) (y20 : Nat), Hs X17 v0 (.inr (9, fs19)) ∧ fs19[5]? = some (.ref y20) ∧ ∃ (fs21 : List Value) (y22 : Nat), Hs X17 y20 (.inr (0, fs21)) ∧ fs21[1]? = some (.ref y22) ∧ ∃ fs24 : List Value, Hs X17 y22 (.inr (7, fs24)) ∧ 0 ≤ mc ∧ 0 ≤ ms ∧ wp_X7_safe (fun r23 => 0 ≤ mc ∧ 0 ≤ ms ∧ post r23 X17)  X17 y22) ∧ (v4 = (1 : Int32) → ∃ fs36 : List Value, Hs X17 y2 (.inr (4, fs36)) ∧ ∃ m26 m27 : Nat, 0 + m26 ≤ mc ∧ 0 + m27 ≤ ms ∧ wp_X4_bestFrom (fun r29 X28 => ∃ (fs30 : List Value) (y31 : Nat), Hs X28 v0 (.inr (9, fs30)) ∧ fs30[5]? = some (.ref y31) ∧ ∃ (fs32 : List Value) (y33 : Nat), Hs X28 y31 (.inr (0, fs32)) ∧ fs32[1]? = some (.ref y33) ∧ ∃ fs35 : List Value, Hs X28 y33 (.inr (7, fs35)) ∧ (0 + m26) ≤ mc ∧ (0 + m27) ≤ ms ∧ wp_X7_safe (fun r34 => (0 + m26) ≤ mc ∧ (0 + m27) ≤ ms ∧ post (r29 - r34) X28)  X28 y33) m26 m27 X17 y2 (0 : Int32) v3 (0 : Int32) (4 : Int32)) ∧ (¬ v4 = (0 : Int32) ∧ ¬ v4 = (1 : Int32) → ∃ (fs37 : List Value) (y38 : Nat), Hs X17 v0 (.inr (9, fs37)) ∧ fs37[5]? = some (.ref y38) ∧ ∃ (fs39 : List Value) (y40 : Int32), Hs X17 y38 (.inr (0, fs39)) ∧ fs39[4]? = some (.int y40) ∧ 0 ≤ mc ∧ 0 ≤ ms ∧ post y40 X17))  X14 y16 v2)  X y11 y13 v3 (0 : Int32)) ∧ (r8 = 0 → 0 ≤ mc ∧ 0 ≤ ms ∧ post (-2 : Int32) X))  X v4 (0 : Int32) (2 : Int32)))  X v3))  X v2 (0 : Int32) (3 : Int32)))  X v0 v1
set_option maxHeartbeats 4000000 in
set_option maxRecDepth 100000 in
theorem c_X9_thumb (l : Launch) (D : va_G) (kA : Nat → ClassId) (post : Int32 → Hp → Prop) (mc ms : Nat) (X : Hp) (sz : Nat) (v0 : Nat) (v1 : Int32) (v2 : Int32) (v3 : Int32) (v4 : Int32) (h : wp_X9_thumb post mc ms X v0 v1 v2 v3 v4) : Met l yX9_thumb (.code yX9_thumb cX9_thumb 6 (some .int) :: gd) (rmO 7 mc ms 174) (va_Pc [Value.ref v0, Value.int v1, Value.int v2, Value.int v3, Value.int v4] (PreM D kA X sz)) (va_Qi post (PoM D kA X sz) (va_A (hw kA X) sz)) mc ms (va_A (hw kA X) sz) := by
  unfold wp_X9_thumb at h
  refine x_enM (by decide) (Nat.le_of_ble_eq_true rfl) ?_
  intro p e s m below meth c G hr hlk hin hsz hA S ls hl
  obtain ⟨hx, hb, hml, hown, hts, hE, hK⟩ := id G
  have hl : lv_has ls 6 [(0, .ref v0), (1, .int v1), (2, .int v2), (3, .int v3), (4, .int v4)] := hl
  refine lv_aload_n hx hb dX9_thumb_0 rfl (lv_at hl 0 rfl) ?_
  refine lv_iload_n hx hb dX9_thumb_1 rfl (lv_at hl 1 rfl) ?_
  obtain ⟨fs43, hfs43, h⟩ := h
  obtain ⟨hkc, hks, h⟩ := h
  refine x_cRVq (As := [.int v1]) (rest := []) G S.1 hfs43 rfl rfl (c_X9_planOf l D kA _ _ v0 v1 h) cd_X9_planOf ml_X9_60 ⟨(Nat.le_of_ble_eq_true rfl), (Nat.le_of_ble_eq_true rfl)⟩ rfl hl.1 rfl (Nat.le_of_ble_eq_true rfl) dX9_thumb_2 ⟨hkc, hks⟩ (fun r1 h => ?_)
  refine x_spl (fun c3 => ?_) (fun y2 c3 => ?_)
  · have h := h.1 c3
    refine lv_astoreN (lv' := [(5, .null), (0, .ref v0), (1, .int v1), (2, .int v2), (3, .int v3), (4, .int v4)]) hx hb dX9_thumb_5 hl (by decide) rfl (fun ls hl => ?_)
    refine lv_aloadN hx hb dX9_thumb_7 (lv_at hl 0 rfl) ?_
    refine lv_ifnonnullN hx hb dX9_thumb_9 ?_
    refine lv_iconst (v := (-1 : Int32)) hx hb dX9_thumb_12 (by decide) ?_
    obtain ⟨hk1, hk2, h⟩ := h
    exact x_iretM G hr hlk S hk1 hk2 h dX9_thumb_13
  · have h := h.2 y2 c3
    refine lv_astore (lv' := [(5, .ref y2), (0, .ref v0), (1, .int v1), (2, .int v2), (3, .int v3), (4, .int v4)]) hx hb dX9_thumb_5 hl (by decide) rfl (fun ls hl => ?_)
    refine lv_aload hx hb dX9_thumb_7 (lv_at hl 0 rfl) ?_
    refine lv_ifnonnull (tgt := 14) hx hb dX9_thumb_9 (by decide) ?_
    refine lv_iload_n hx hb dX9_thumb_14 rfl (lv_at hl 3 rfl) ?_
    refine lv_iconst (v := (0 : Int32)) hx hb dX9_thumb_15 (by decide) ?_
    refine lv_iconst (v := (3 : Int32)) hx hb dX9_thumb_16 (by decide) ?_
    obtain ⟨hkc, hks, h⟩ := h
    refine x_cRSi (As := [.int v2, .int (0 : Int32), .int (3 : Int32)]) (rest := []) G S.1 (c_X9_within l D kA _ _ v2 (0 : Int32) (3 : Int32) h) cd_X9_within ml_X9_64 ⟨(Nat.le_of_ble_eq_true rfl), (Nat.le_of_ble_eq_true rfl)⟩ rfl hl.1 rfl (Nat.le_of_ble_eq_true rfl) dX9_thumb_17 ⟨hkc, hks⟩ (fun r4 h => ?_)
    refine lv_if_eq (tgt := 40) hx hb dX9_thumb_20 (by decide) (fun c5 => ?_) (fun c5 => ?_)
    · have h := h.1 c5
      refine lv_bipush (v := (-2 : Int32)) hx hb dX9_thumb_40 (by decide) ?_
      obtain ⟨hk1, hk2, h⟩ := h
      exact x_iretM G hr hlk S hk1 hk2 h dX9_thumb_42
    · have h := h.2 c5
      refine lv_iload_n hx hb dX9_thumb_23 rfl (lv_at hl 4 rfl) ?_
      obtain ⟨hkc, hks, h⟩ := h
      refine x_cRSi (As := [.int v3]) (rest := []) G S.1 (c_X9_isOwed l D kA _ _ v3 h) cd_X9_isOwed ml_X9_131 ⟨(Nat.le_of_ble_eq_true rfl), (Nat.le_of_ble_eq_true rfl)⟩ rfl hl.1 rfl (Nat.le_of_ble_eq_true rfl) dX9_thumb_24 ⟨hkc, hks⟩ (fun r6 h => ?_)
      refine lv_if_eq (tgt := 40) hx hb dX9_thumb_27 (by decide) (fun c7 => ?_) (fun c7 => ?_)
      · have h := h.1 c7
        refine lv_bipush (v := (-2 : Int32)) hx hb dX9_thumb_40 (by decide) ?_
        obtain ⟨hk1, hk2, h⟩ := h
        exact x_iretM G hr hlk S hk1 hk2 h dX9_thumb_42
      · have h := h.2 c7
        refine lv_iload hx hb dX9_thumb_30 (lv_at hl 5 rfl) ?_
        refine lv_iconst (v := (0 : Int32)) hx hb dX9_thumb_32 (by decide) ?_
        refine lv_iconst (v := (2 : Int32)) hx hb dX9_thumb_33 (by decide) ?_
        obtain ⟨hkc, hks, h⟩ := h
        refine x_cRSi (As := [.int v4, .int (0 : Int32), .int (2 : Int32)]) (rest := []) G S.1 (c_X9_within l D kA _ _ v4 (0 : Int32) (2 : Int32) h) cd_X9_within ml_X9_64 ⟨(Nat.le_of_ble_eq_true rfl), (Nat.le_of_ble_eq_true rfl)⟩ rfl hl.1 rfl (Nat.le_of_ble_eq_true rfl) dX9_thumb_34 ⟨hkc, hks⟩ (fun r8 h => ?_)
        refine lv_if_ne (tgt := 43) hx hb dX9_thumb_37 (by decide) (fun c9 => ?_) (fun c9 => ?_)
        · have h := h.1 c9
          refine lv_aload_n hx hb dX9_thumb_43 rfl (lv_at hl 1 rfl) ?_
          obtain ⟨fs10, y11, hfs10, hvfs10, h⟩ := h
          refine x_get G S.1 hfs10 hvfs10 fl_X9_56 dX9_thumb_44 ?_
          refine lv_aload hx hb dX9_thumb_47 (lv_at hl 0 rfl) ?_
          obtain ⟨fs12, y13, hfs12, hvfs12, h⟩ := h
          refine x_get G S.1 hfs12 hvfs12 fl_X9_68 dX9_thumb_49 ?_
          refine lv_iload_n hx hb dX9_thumb_52 rfl (lv_at hl 4 rfl) ?_
          refine lv_iconst (v := (0 : Int32)) hx hb dX9_thumb_53 (by decide) ?_
          obtain ⟨fs42, hfs42, h⟩ := h
          obtain ⟨hkc, hks, h⟩ := h
          refine x_cMVv (As := [.ref y13, .int v3, .int (0 : Int32)]) (rest := []) G S hA hfs42 rfl rfl (c_X0_setOut l D kA _ _ _ y11 y13 v3 (0 : Int32) h) cd_X0_setOut ml_X9_164 ⟨(Nat.le_of_ble_eq_true rfl), (Nat.le_of_ble_eq_true rfl)⟩ rfl hl.1 rfl (Nat.le_of_ble_eq_true rfl) dX9_thumb_54 ⟨hkc, hks⟩ (fun X H locs h S => ?_)
          refine lv_aload_n hx hb dX9_thumb_57 rfl (lv_at hl 1 rfl) ?_
          obtain ⟨fs15, y16, hfs15, hvfs15, h⟩ := h
          refine x_get G S.1 hfs15 hvfs15 fl_X9_56 dX9_thumb_58 ?_
          refine lv_iload_n hx hb dX9_thumb_61 rfl (lv_at hl 3 rfl) ?_
          obtain ⟨fs41, hfs41, h⟩ := h
          obtain ⟨hkc, hks, h⟩ := h
          refine x_cMVv (As := [.int v2]) (rest := []) G S hA hfs41 rfl rfl (c_X0_sailByThumb l D kA _ _ _ y16 v2 h) cd_X0_sailByThumb ml_X9_213 ⟨(Nat.le_of_ble_eq_true rfl), (Nat.le_of_ble_eq_true rfl)⟩ rfl hl.1 rfl (Nat.le_of_ble_eq_true rfl) dX9_thumb_62 ⟨hkc, hks⟩ (fun X H locs h S => ?_)
          refine lv_iload hx hb dX9_thumb_65 (lv_at hl 5 rfl) ?_
          by_cases c18 : v4 = (0 : Int32)
          · have h := h.1 c18
            refine lv_lookup (off := 25) (tgt := 92) hx hb dX9_thumb_67 (by decide) (by rw [c18]; decide) (by decide) ?_
            refine lv_aload_n hx hb dX9_thumb_92 rfl (lv_at hl 1 rfl) ?_
            obtain ⟨fs19, y20, hfs19, hvfs19, h⟩ := h
            refine x_get G S.1 hfs19 hvfs19 fl_X9_56 dX9_thumb_93 ?_
            obtain ⟨fs21, y22, hfs21, hvfs21, h⟩ := h
            refine x_get G S.1 hfs21 hvfs21 fl_X9_172 dX9_thumb_96 ?_
            obtain ⟨fs24, hfs24, h⟩ := h
            obtain ⟨hkc, hks, h⟩ := h
            refine x_cRVi (As := []) (rest := []) G S.1 hfs24 rfl rfl (c_X7_safe l D kA _ _ y22 h) cd_X7_safe ml_X9_184 ⟨(Nat.le_of_ble_eq_true rfl), (Nat.le_of_ble_eq_true rfl)⟩ rfl hl.1 rfl (Nat.le_of_ble_eq_true rfl) dX9_thumb_99 ⟨hkc, hks⟩ (fun r23 h => ?_)
            obtain ⟨hk1, hk2, h⟩ := h
            exact x_iretM G hr hlk S hk1 hk2 h dX9_thumb_102
          have h := h.2
          by_cases c25 : v4 = (1 : Int32)
          · have h := h.1 c25
            refine lv_lookup (off := 36) (tgt := 103) hx hb dX9_thumb_67 (by decide) (by rw [c25]; decide) (by decide) ?_
            refine lv_aload hx hb dX9_thumb_103 (lv_at hl 0 rfl) ?_
            refine lv_iconst (v := (0 : Int32)) hx hb dX9_thumb_105 (by decide) ?_
            refine lv_iload_n hx hb dX9_thumb_106 rfl (lv_at hl 4 rfl) ?_
            refine lv_iconst (v := (0 : Int32)) hx hb dX9_thumb_107 (by decide) ?_
            refine lv_iconst (v := (4 : Int32)) hx hb dX9_thumb_108 (by decide) ?_
            obtain ⟨fs36, hfs36, h⟩ := h
            obtain ⟨m26, m27, hm1, hm2, h⟩ := h
            refine x_cMVi (As := [.int (0 : Int32), .int v3, .int (0 : Int32), .int (4 : Int32)]) (rest := []) G S hA hfs36 rfl rfl (c_X4_bestFrom l D kA _ _ _ _ _ y2 (0 : Int32) v3 (0 : Int32) (4 : Int32) h) cd_X4_bestFrom ml_X9_199 ⟨(Nat.le_of_ble_eq_true rfl), (Nat.le_of_ble_eq_true rfl)⟩ rfl hl.1 rfl (Nat.le_of_ble_eq_true rfl) dX9_thumb_109 ⟨hm1, hm2⟩ (fun r29 X H locs h S => ?_)
            refine lv_aload_n hx hb dX9_thumb_112 rfl (lv_at hl 1 rfl) ?_
            obtain ⟨fs30, y31, hfs30, hvfs30, h⟩ := h
            refine x_get G S.1 hfs30 hvfs30 fl_X9_56 dX9_thumb_113 ?_
            obtain ⟨fs32, y33, hfs32, hvfs32, h⟩ := h
            refine x_get G S.1 hfs32 hvfs32 fl_X9_172 dX9_thumb_116 ?_
            obtain ⟨fs35, hfs35, h⟩ := h
            obtain ⟨hkc, hks, h⟩ := h
            refine x_cRVi (As := []) (rest := [.int r29]) G S.1 hfs35 rfl rfl (c_X7_safe l D kA _ _ y33 h) cd_X7_safe ml_X9_184 ⟨(Nat.le_of_ble_eq_true rfl), (Nat.le_of_ble_eq_true rfl)⟩ rfl hl.1 rfl (Nat.le_of_ble_eq_true rfl) dX9_thumb_119 ⟨hkc, hks⟩ (fun r34 h => ?_)
            refine lv_isub hx hb dX9_thumb_122 ?_
            obtain ⟨hk1, hk2, h⟩ := h
            exact x_iretM G hr hlk S hk1 hk2 h dX9_thumb_123
          have h := h.2
          have h := h ⟨c18, c25⟩
          refine lv_lookup (off := 57) (tgt := 124) hx hb dX9_thumb_67 (by decide) (by show Op.lookupswitch.offset [(0, 25), (1, 36)] 57 _ = _; rw [lv_osw c18 (by decide), lv_osw c25 (by decide)]; rfl) (by decide) ?_
          refine lv_aload_n hx hb dX9_thumb_124 rfl (lv_at hl 1 rfl) ?_
          obtain ⟨fs37, y38, hfs37, hvfs37, h⟩ := h
          refine x_get G S.1 hfs37 hvfs37 fl_X9_56 dX9_thumb_125 ?_
          obtain ⟨fs39, y40, hfs39, hvfs39, h⟩ := h
          refine x_get G S.1 hfs39 hvfs39 fl_X9_181 dX9_thumb_128 ?_
          obtain ⟨hk1, hk2, h⟩ := h
          exact x_iretM G hr hlk S hk1 hk2 h dX9_thumb_131
        · have h := h.2 c9
          refine lv_bipush (v := (-2 : Int32)) hx hb dX9_thumb_40 (by decide) ?_
          obtain ⟨hk1, hk2, h⟩ := h
          exact x_iretM G hr hlk S hk1 hk2 h dX9_thumb_42
def wp_X9_worth (post : Int32 → Hp → Prop) (mc ms : Nat) (X : Hp) (v0 : Nat) (v1 : Int32) (v2 : Int32) (v3 : Int32) (v4 : Int32) : Prop := ∃ fs20 : List Value, Hs X v0 (.inr (9, fs20)) ∧ 0 ≤ mc ∧ 0 ≤ ms ∧ wp_X9_planOf (fun r1 => (r1 = none → 0 ≤ mc ∧ 0 ≤ ms ∧ post (-1 : Int32) X) ∧ (∀ y2 : Nat, r1 = some y2 → 0 ≤ mc ∧ 0 ≤ ms ∧ wp_X9_isOwed (fun r4 => (r4 = 0 → 0 ≤ mc ∧ 0 ≤ ms ∧ post (-2 : Int32) X) ∧ (¬ r4 = 0 → 0 ≤ mc ∧ 0 ≤ ms ∧ wp_X9_isBattery (fun r6 => (r6 = 0 → 0 ≤ mc ∧ 0 ≤ ms ∧ post (-2 : Int32) X) ∧ (¬ r6 = 0 → 0 ≤ mc ∧ 0 ≤ ms ∧ wp_X9_within (fun r8 => (¬ r8 = 0 → ∃ fs19 : List Value, Hs X y2 (.inr (4, fs19)) ∧ ∃ m10 m11 : Nat, 0 + m10 ≤ mc ∧ 0 + m11 ≤ ms ∧ wp_X4_bestFrom (fun r13 X12 => ∃ fs18 : List Value, Hs X12 y2 (.inr (4, fs18)) ∧ ∃ m14 m15 : Nat, (0 + m10) + m14 ≤ mc ∧ (0 + m11) + m15 ≤ ms ∧ wp_X4_bestFrom (fun r17 X16 => ((0 + m10) + m14) ≤ mc ∧ ((0 + m11) + m15) ≤ ms ∧ post (r13 - r17) X16) m14 m15 X12 y2 (0 : Int32) v2 v3 (4 : Int32)) m10 m11 X y2 (0 : Int32) v2 (v3 + v4) (4 : Int32)) ∧ (r8 = 0 → 0 ≤ mc ∧ 0 ≤ ms ∧ post (-2 : Int32) X))  X v4 (0 : Int32) ((24 : Int32) - v3)))  X v3))  X v2))  X v0 v1
set_option maxHeartbeats 4000000 in
set_option maxRecDepth 100000 in
theorem c_X9_worth (l : Launch) (D : va_G) (kA : Nat → ClassId) (post : Int32 → Hp → Prop) (mc ms : Nat) (X : Hp) (sz : Nat) (v0 : Nat) (v1 : Int32) (v2 : Int32) (v3 : Int32) (v4 : Int32) (h : wp_X9_worth post mc ms X v0 v1 v2 v3 v4) : Met l yX9_worth (.code yX9_worth cX9_worth 6 (some .int) :: gd) (rmO 7 mc ms 174) (va_Pc [Value.ref v0, Value.int v1, Value.int v2, Value.int v3, Value.int v4] (PreM D kA X sz)) (va_Qi post (PoM D kA X sz) (va_A (hw kA X) sz)) mc ms (va_A (hw kA X) sz) := by
  unfold wp_X9_worth at h
  refine x_enM (by decide) (Nat.le_of_ble_eq_true rfl) ?_
  intro p e s m below meth c G hr hlk hin hsz hA S ls hl
  obtain ⟨hx, hb, hml, hown, hts, hE, hK⟩ := id G
  have hl : lv_has ls 6 [(0, .ref v0), (1, .int v1), (2, .int v2), (3, .int v3), (4, .int v4)] := hl
  refine lv_aload_n hx hb dX9_worth_0 rfl (lv_at hl 0 rfl) ?_
  refine lv_iload_n hx hb dX9_worth_1 rfl (lv_at hl 1 rfl) ?_
  obtain ⟨fs20, hfs20, h⟩ := h
  obtain ⟨hkc, hks, h⟩ := h
  refine x_cRVq (As := [.int v1]) (rest := []) G S.1 hfs20 rfl rfl (c_X9_planOf l D kA _ _ v0 v1 h) cd_X9_planOf ml_X9_60 ⟨(Nat.le_of_ble_eq_true rfl), (Nat.le_of_ble_eq_true rfl)⟩ rfl hl.1 rfl (Nat.le_of_ble_eq_true rfl) dX9_worth_2 ⟨hkc, hks⟩ (fun r1 h => ?_)
  refine x_spl (fun c3 => ?_) (fun y2 c3 => ?_)
  · have h := h.1 c3
    refine lv_astoreN (lv' := [(5, .null), (0, .ref v0), (1, .int v1), (2, .int v2), (3, .int v3), (4, .int v4)]) hx hb dX9_worth_5 hl (by decide) rfl (fun ls hl => ?_)
    refine lv_aloadN hx hb dX9_worth_7 (lv_at hl 0 rfl) ?_
    refine lv_ifnonnullN hx hb dX9_worth_9 ?_
    refine lv_iconst (v := (-1 : Int32)) hx hb dX9_worth_12 (by decide) ?_
    obtain ⟨hk1, hk2, h⟩ := h
    exact x_iretM G hr hlk S hk1 hk2 h dX9_worth_13
  · have h := h.2 y2 c3
    refine lv_astore (lv' := [(5, .ref y2), (0, .ref v0), (1, .int v1), (2, .int v2), (3, .int v3), (4, .int v4)]) hx hb dX9_worth_5 hl (by decide) rfl (fun ls hl => ?_)
    refine lv_aload hx hb dX9_worth_7 (lv_at hl 0 rfl) ?_
    refine lv_ifnonnull (tgt := 14) hx hb dX9_worth_9 (by decide) ?_
    refine lv_iload_n hx hb dX9_worth_14 rfl (lv_at hl 3 rfl) ?_
    obtain ⟨hkc, hks, h⟩ := h
    refine x_cRSi (As := [.int v2]) (rest := []) G S.1 (c_X9_isOwed l D kA _ _ v2 h) cd_X9_isOwed ml_X9_131 ⟨(Nat.le_of_ble_eq_true rfl), (Nat.le_of_ble_eq_true rfl)⟩ rfl hl.1 rfl (Nat.le_of_ble_eq_true rfl) dX9_worth_15 ⟨hkc, hks⟩ (fun r4 h => ?_)
    refine lv_if_eq (tgt := 41) hx hb dX9_worth_18 (by decide) (fun c5 => ?_) (fun c5 => ?_)
    · have h := h.1 c5
      refine lv_bipush (v := (-2 : Int32)) hx hb dX9_worth_41 (by decide) ?_
      obtain ⟨hk1, hk2, h⟩ := h
      exact x_iretM G hr hlk S hk1 hk2 h dX9_worth_43
    · have h := h.2 c5
      refine lv_iload_n hx hb dX9_worth_21 rfl (lv_at hl 4 rfl) ?_
      obtain ⟨hkc, hks, h⟩ := h
      refine x_cRSi (As := [.int v3]) (rest := []) G S.1 (c_X9_isBattery l D kA _ _ v3 h) cd_X9_isBattery ml_X9_161 ⟨(Nat.le_of_ble_eq_true rfl), (Nat.le_of_ble_eq_true rfl)⟩ rfl hl.1 rfl (Nat.le_of_ble_eq_true rfl) dX9_worth_22 ⟨hkc, hks⟩ (fun r6 h => ?_)
      refine lv_if_eq (tgt := 41) hx hb dX9_worth_25 (by decide) (fun c7 => ?_) (fun c7 => ?_)
      · have h := h.1 c7
        refine lv_bipush (v := (-2 : Int32)) hx hb dX9_worth_41 (by decide) ?_
        obtain ⟨hk1, hk2, h⟩ := h
        exact x_iretM G hr hlk S hk1 hk2 h dX9_worth_43
      · have h := h.2 c7
        refine lv_iload hx hb dX9_worth_28 (lv_at hl 5 rfl) ?_
        refine lv_iconst (v := (0 : Int32)) hx hb dX9_worth_30 (by decide) ?_
        refine lv_bipush (v := (24 : Int32)) hx hb dX9_worth_31 (by decide) ?_
        refine lv_iload_n hx hb dX9_worth_33 rfl (lv_at hl 4 rfl) ?_
        refine lv_isub hx hb dX9_worth_34 ?_
        obtain ⟨hkc, hks, h⟩ := h
        refine x_cRSi (As := [.int v4, .int (0 : Int32), .int ((24 : Int32) - v3)]) (rest := []) G S.1 (c_X9_within l D kA _ _ v4 (0 : Int32) ((24 : Int32) - v3) h) cd_X9_within ml_X9_64 ⟨(Nat.le_of_ble_eq_true rfl), (Nat.le_of_ble_eq_true rfl)⟩ rfl hl.1 rfl (Nat.le_of_ble_eq_true rfl) dX9_worth_35 ⟨hkc, hks⟩ (fun r8 h => ?_)
        refine lv_if_ne (tgt := 44) hx hb dX9_worth_38 (by decide) (fun c9 => ?_) (fun c9 => ?_)
        · have h := h.1 c9
          refine lv_aload hx hb dX9_worth_44 (lv_at hl 0 rfl) ?_
          refine lv_iconst (v := (0 : Int32)) hx hb dX9_worth_46 (by decide) ?_
          refine lv_iload_n hx hb dX9_worth_47 rfl (lv_at hl 3 rfl) ?_
          refine lv_iload_n hx hb dX9_worth_48 rfl (lv_at hl 4 rfl) ?_
          refine lv_iload hx hb dX9_worth_49 (lv_at hl 5 rfl) ?_
          refine lv_iadd hx hb dX9_worth_51 ?_
          refine lv_iconst (v := (4 : Int32)) hx hb dX9_worth_52 (by decide) ?_
          obtain ⟨fs19, hfs19, h⟩ := h
          obtain ⟨m10, m11, hm1, hm2, h⟩ := h
          refine x_cMVi (As := [.int (0 : Int32), .int v2, .int (v3 + v4), .int (4 : Int32)]) (rest := []) G S hA hfs19 rfl rfl (c_X4_bestFrom l D kA _ _ _ _ _ y2 (0 : Int32) v2 (v3 + v4) (4 : Int32) h) cd_X4_bestFrom ml_X9_199 ⟨(Nat.le_of_ble_eq_true rfl), (Nat.le_of_ble_eq_true rfl)⟩ rfl hl.1 rfl (Nat.le_of_ble_eq_true rfl) dX9_worth_53 ⟨hm1, hm2⟩ (fun r13 X H locs h S => ?_)
          refine lv_aload hx hb dX9_worth_56 (lv_at hl 0 rfl) ?_
          refine lv_iconst (v := (0 : Int32)) hx hb dX9_worth_58 (by decide) ?_
          refine lv_iload_n hx hb dX9_worth_59 rfl (lv_at hl 3 rfl) ?_
          refine lv_iload_n hx hb dX9_worth_60 rfl (lv_at hl 4 rfl) ?_
          refine lv_iconst (v := (4 : Int32)) hx hb dX9_worth_61 (by decide) ?_
          obtain ⟨fs18, hfs18, h⟩ := h
          obtain ⟨m14, m15, hm1, hm2, h⟩ := h
          refine x_cMVi (As := [.int (0 : Int32), .int v2, .int v3, .int (4 : Int32)]) (rest := [.int r13]) G S hA hfs18 rfl rfl (c_X4_bestFrom l D kA _ _ _ _ _ y2 (0 : Int32) v2 v3 (4 : Int32) h) cd_X4_bestFrom ml_X9_199 ⟨(Nat.le_of_ble_eq_true rfl), (Nat.le_of_ble_eq_true rfl)⟩ rfl hl.1 rfl (Nat.le_of_ble_eq_true rfl) dX9_worth_62 ⟨hm1, hm2⟩ (fun r17 X H locs h S => ?_)
          refine lv_isub hx hb dX9_worth_65 ?_
          obtain ⟨hk1, hk2, h⟩ := h
          exact x_iretM G hr hlk S hk1 hk2 h dX9_worth_66
        · have h := h.2 c9
          refine lv_bipush (v := (-2 : Int32)) hx hb dX9_worth_41 (by decide) ?_
          obtain ⟨hk1, hk2, h⟩ := h
          exact x_iretM G hr hlk S hk1 hk2 h dX9_worth_43
def wp_X9_round (post : Int32 → Hp → Prop) (mc ms : Nat) (X : Hp) (v0 : Nat) (v1 : Int32) (v2 : Int32) : Prop := 0 ≤ mc ∧ 0 ≤ ms ∧ wp_X9_isOwed (fun r1 => (r1 = 0 → 0 ≤ mc ∧ 0 ≤ ms ∧ post (-2 : Int32) X) ∧ (¬ r1 = 0 → 0 ≤ mc ∧ 0 ≤ ms ∧ wp_X9_isBattery (fun r3 => (¬ r3 = 0 → ∃ (fs5 : List Value) (y6 : Nat), Hs X v0 (.inr (9, fs5)) ∧ fs5[3]? = some (.ref y6) ∧ ∃ (n7 : Nat) (f8 : Nat → Option Nat) (y9 : Nat), Hs X y6 (.inl (3, n7, qA f8)) ∧ vp_in (0 : Int32) n7 ∧ f8 (0 : Int32).toNatClampNeg = some y9 ∧ ∃ fs25 : List Value, Hs X y9 (.inr (4, fs25)) ∧ ∃ m10 m11 : Nat, 0 + m10 ≤ mc ∧ 0 + m11 ≤ ms ∧ wp_X4_bestFrom (fun r13 X12 => ∃ (fs14 : List Value) (y15 : Nat), Hs X12 v0 (.inr (9, fs14)) ∧ fs14[3]? = some (.ref y15) ∧ ∃ (n16 : Nat) (f17 : Nat → Option Nat) (y18 : Nat), Hs X12 y15 (.inl (3, n16, qA f17)) ∧ vp_in (1 : Int32) n16 ∧ f17 (1 : Int32).toNatClampNeg = some y18 ∧ ∃ fs24 : List Value, Hs X12 y18 (.inr (4, fs24)) ∧ ∃ m19 m20 : Nat, (0 + m10) + m19 ≤ mc ∧ (0 + m11) + m20 ≤ ms ∧ wp_X4_bestFrom (fun r22 X21 => (r22 ≤ r13 → ((0 + m10) + m19) ≤ mc ∧ ((0 + m11) + m20) ≤ ms ∧ post (0 : Int32) X21) ∧ (¬ r22 ≤ r13 → ((0 + m10) + m19) ≤ mc ∧ ((0 + m11) + m20) ≤ ms ∧ post (1 : Int32) X21)) m19 m20 X12 y18 (0 : Int32) v1 v2 (4 : Int32)) m10 m11 X y9 (0 : Int32) v1 v2 (4 : Int32)) ∧ (r3 = 0 → 0 ≤ mc ∧ 0 ≤ ms ∧ post (-2 : Int32) X))  X v2))  X v1
set_option maxHeartbeats 4000000 in
set_option maxRecDepth 100000 in
theorem c_X9_round (l : Launch) (D : va_G) (kA : Nat → ClassId) (post : Int32 → Hp → Prop) (mc ms : Nat) (X : Hp) (sz : Nat) (v0 : Nat) (v1 : Int32) (v2 : Int32) (h : wp_X9_round post mc ms X v0 v1 v2) : Met l yX9_round (.code yX9_round cX9_round 5 (some .int) :: gd) (rmO 7 mc ms 174) (va_Pc [Value.ref v0, Value.int v1, Value.int v2] (PreM D kA X sz)) (va_Qi post (PoM D kA X sz) (va_A (hw kA X) sz)) mc ms (va_A (hw kA X) sz) := by
  unfold wp_X9_round at h
  refine x_enM (by decide) (Nat.le_of_ble_eq_true rfl) ?_
  intro p e s m below meth c G hr hlk hin hsz hA S ls hl
  obtain ⟨hx, hb, hml, hown, hts, hE, hK⟩ := id G
  have hl : lv_has ls 5 [(0, .ref v0), (1, .int v1), (2, .int v2)] := hl
  refine lv_iload_n hx hb dX9_round_0 rfl (lv_at hl 1 rfl) ?_
  obtain ⟨hkc, hks, h⟩ := h
  refine x_cRSi (As := [.int v1]) (rest := []) G S.1 (c_X9_isOwed l D kA _ _ v1 h) cd_X9_isOwed ml_X9_131 ⟨(Nat.le_of_ble_eq_true rfl), (Nat.le_of_ble_eq_true rfl)⟩ rfl hl.1 rfl (Nat.le_of_ble_eq_true rfl) dX9_round_1 ⟨hkc, hks⟩ (fun r1 h => ?_)
  refine lv_if_eq (tgt := 14) hx hb dX9_round_4 (by decide) (fun c2 => ?_) (fun c2 => ?_)
  · have h := h.1 c2
    refine lv_bipush (v := (-2 : Int32)) hx hb dX9_round_14 (by decide) ?_
    obtain ⟨hk1, hk2, h⟩ := h
    exact x_iretM G hr hlk S hk1 hk2 h dX9_round_16
  · have h := h.2 c2
    refine lv_iload_n hx hb dX9_round_7 rfl (lv_at hl 2 rfl) ?_
    obtain ⟨hkc, hks, h⟩ := h
    refine x_cRSi (As := [.int v2]) (rest := []) G S.1 (c_X9_isBattery l D kA _ _ v2 h) cd_X9_isBattery ml_X9_161 ⟨(Nat.le_of_ble_eq_true rfl), (Nat.le_of_ble_eq_true rfl)⟩ rfl hl.1 rfl (Nat.le_of_ble_eq_true rfl) dX9_round_8 ⟨hkc, hks⟩ (fun r3 h => ?_)
    refine lv_if_ne (tgt := 17) hx hb dX9_round_11 (by decide) (fun c4 => ?_) (fun c4 => ?_)
    · have h := h.1 c4
      refine lv_aload_n hx hb dX9_round_17 rfl (lv_at hl 0 rfl) ?_
      obtain ⟨fs5, y6, hfs5, hvfs5, h⟩ := h
      refine x_get G S.1 hfs5 hvfs5 fl_X9_26 dX9_round_18 ?_
      refine lv_iconst (v := (0 : Int32)) hx hb dX9_round_21 (by decide) ?_
      obtain ⟨n7, f8, y9, hf8, hif8, hqf8, h⟩ := h
      refine x_aald (C := "NapVoyage$Plan") G S.1 hf8 rfl hif8 dX9_round_22 ?_
      refine x_som hqf8 ?_
      refine lv_iconst (v := (0 : Int32)) hx hb dX9_round_23 (by decide) ?_
      refine lv_iload_n hx hb dX9_round_24 rfl (lv_at hl 1 rfl) ?_
      refine lv_iload_n hx hb dX9_round_25 rfl (lv_at hl 2 rfl) ?_
      refine lv_iconst (v := (4 : Int32)) hx hb dX9_round_26 (by decide) ?_
      obtain ⟨fs25, hfs25, h⟩ := h
      obtain ⟨m10, m11, hm1, hm2, h⟩ := h
      refine x_cMVi (As := [.int (0 : Int32), .int v1, .int v2, .int (4 : Int32)]) (rest := []) G S hA hfs25 rfl rfl (c_X4_bestFrom l D kA _ _ _ _ _ y9 (0 : Int32) v1 v2 (4 : Int32) h) cd_X4_bestFrom ml_X9_199 ⟨(Nat.le_of_ble_eq_true rfl), (Nat.le_of_ble_eq_true rfl)⟩ rfl hl.1 rfl (Nat.le_of_ble_eq_true rfl) dX9_round_27 ⟨hm1, hm2⟩ (fun r13 X H locs h S => ?_)
      refine lv_istore_n (lv' := [(3, .int r13), (0, .ref v0), (1, .int v1), (2, .int v2)]) hx hb dX9_round_30 rfl hl (by decide) rfl (fun ls hl => ?_)
      refine lv_aload_n hx hb dX9_round_31 rfl (lv_at hl 1 rfl) ?_
      obtain ⟨fs14, y15, hfs14, hvfs14, h⟩ := h
      refine x_get G S.1 hfs14 hvfs14 fl_X9_26 dX9_round_32 ?_
      refine lv_iconst (v := (1 : Int32)) hx hb dX9_round_35 (by decide) ?_
      obtain ⟨n16, f17, y18, hf17, hif17, hqf17, h⟩ := h
      refine x_aald (C := "NapVoyage$Plan") G S.1 hf17 rfl hif17 dX9_round_36 ?_
      refine x_som hqf17 ?_
      refine lv_iconst (v := (0 : Int32)) hx hb dX9_round_37 (by decide) ?_
      refine lv_iload_n hx hb dX9_round_38 rfl (lv_at hl 2 rfl) ?_
      refine lv_iload_n hx hb dX9_round_39 rfl (lv_at hl 3 rfl) ?_
      refine lv_iconst (v := (4 : Int32)) hx hb dX9_round_40 (by decide) ?_
      obtain ⟨fs24, hfs24, h⟩ := h
      obtain ⟨m19, m20, hm1, hm2, h⟩ := h
      refine x_cMVi (As := [.int (0 : Int32), .int v1, .int v2, .int (4 : Int32)]) (rest := []) G S hA hfs24 rfl rfl (c_X4_bestFrom l D kA _ _ _ _ _ y18 (0 : Int32) v1 v2 (4 : Int32) h) cd_X4_bestFrom ml_X9_199 ⟨(Nat.le_of_ble_eq_true rfl), (Nat.le_of_ble_eq_true rfl)⟩ rfl hl.1 rfl (Nat.le_of_ble_eq_true rfl) dX9_round_41 ⟨hm1, hm2⟩ (fun r22 X H locs h S => ?_)
      refine lv_istore (lv' := [(4, .int r22), (3, .int r13), (0, .ref v0), (1, .int v1), (2, .int v2)]) hx hb dX9_round_44 hl (by decide) rfl (fun ls hl => ?_)
      refine lv_iload hx hb dX9_round_46 (lv_at hl 0 rfl) ?_
      refine lv_iload_n hx hb dX9_round_48 rfl (lv_at hl 1 rfl) ?_
      refine lv_icmp_le (tgt := 56) hx hb dX9_round_49 (by decide) (fun c23 => ?_) (fun c23 => ?_)
      · have h := h.1 c23
        refine lv_iconst (v := (0 : Int32)) hx hb dX9_round_56 (by decide) ?_
        obtain ⟨hk1, hk2, h⟩ := h
        exact x_iretM G hr hlk S hk1 hk2 h dX9_round_57
      · have h := h.2 c23
        refine lv_iconst (v := (1 : Int32)) hx hb dX9_round_52 (by decide) ?_
        refine lv_goto (tgt := 57) hx hb dX9_round_53 (by decide) ?_
        obtain ⟨hk1, hk2, h⟩ := h
        exact x_iretM G hr hlk S hk1 hk2 h dX9_round_57
    · have h := h.2 c4
      refine lv_bipush (v := (-2 : Int32)) hx hb dX9_round_14 (by decide) ?_
      obtain ⟨hk1, hk2, h⟩ := h
      exact x_iretM G hr hlk S hk1 hk2 h dX9_round_16
def bk_X9_soonest_45 (post : Int32 → Hp → Prop) (mc ms : Nat) (v0 : Nat) (v1 : Int32) (v2 : Int32) (v3 : Int32) (v4 : Int32)  : Nat → Hp → Nat → Nat → Nat → Int32 → Prop
  | 0, _, _, _, _, _ => False
  | k + 1, X, kc, ks, b45_5, b45_6 => ((4 : Int32) < b45_6 → kc ≤ mc ∧ ks ≤ ms ∧ post (-6 : Int32) X) ∧ (¬ (4 : Int32) < b45_6 → ∃ fs23 : List Value, Hs X b45_5 (.inr (4, fs23)) ∧ ∃ m13 m14 : Nat, kc + m13 ≤ mc ∧ ks + m14 ≤ ms ∧ wp_X4_bestFrom (fun r16 X15 => (r16 < v4 → ∀ x18 : Int32, x18 = b45_6 + (1 : Int32) → (bk_X9_soonest_45 post mc ms v0 v1 v2 v3 v4 k) X15 ((kc + m13)) ((ks + m14)) b45_5 x18) ∧ (¬ r16 < v4 → ∃ (fs19 : List Value) (y20 : Nat), Hs X15 b45_5 (.inr (4, fs19)) ∧ fs19[0]? = some (.ref y20) ∧ ∃ (fs21 : List Value) (y22 : Int32), Hs X15 y20 (.inr (8, fs21)) ∧ fs21[1]? = some (.int y22) ∧ (kc + m13) ≤ mc ∧ (ks + m14) ≤ ms ∧ post (y22 + b45_6) X15)) m13 m14 X b45_5 (0 : Int32) v2 v3 b45_6)
def wp_X9_soonest (post : Int32 → Hp → Prop) (mc ms : Nat) (X : Hp) (v0 : Nat) (v1 : Int32) (v2 : Int32) (v3 : Int32) (v4 : Int32) : Prop := ∃ fs11 : List Value, Hs X v0 (.inr (9, fs11)) ∧ 0 ≤ mc ∧ 0 ≤ ms ∧ wp_X9_planOf (fun r1 => (r1 = none → 0 ≤ mc ∧ 0 ≤ ms ∧ post (-1 : Int32) X) ∧ (∀ y2 : Nat, r1 = some y2 → 0 ≤ mc ∧ 0 ≤ ms ∧ wp_X9_isOwed (fun r4 => (r4 = 0 → 0 ≤ mc ∧ 0 ≤ ms ∧ post (-2 : Int32) X) ∧ (¬ r4 = 0 → 0 ≤ mc ∧ 0 ≤ ms ∧ wp_X9_isBattery (fun r6 => (r6 = 0 → 0 ≤ mc ∧ 0 ≤ ms ∧ post (-2 : Int32) X) ∧ (¬ r6 = 0 → 0 ≤ mc ∧ 0 ≤ ms ∧ wp_X9_within (fun r8 => (¬ r8 = 0 → ∃ n10 : Nat, bk_X9_soonest_45 post mc ms v0 v1 v2 v3 v4 n10 X 0 0 y2 (0 : Int32)) ∧ (r8 = 0 → 0 ≤ mc ∧ 0 ≤ ms ∧ post (-2 : Int32) X))  X v4 (0 : Int32) (1000000 : Int32)))  X v3))  X v2))  X v0 v1
set_option maxHeartbeats 4000000 in
set_option maxRecDepth 100000 in
theorem c_X9_soonest (l : Launch) (D : va_G) (kA : Nat → ClassId) (post : Int32 → Hp → Prop) (mc ms : Nat) (X : Hp) (sz : Nat) (v0 : Nat) (v1 : Int32) (v2 : Int32) (v3 : Int32) (v4 : Int32) (h : wp_X9_soonest post mc ms X v0 v1 v2 v3 v4) : Met l yX9_soonest (.code yX9_soonest cX9_soonest 7 (some .int) :: gd) (rmO 7 mc ms 174) (va_Pc [Value.ref v0, Value.int v1, Value.int v2, Value.int v3, Value.int v4] (PreM D kA X sz)) (va_Qi post (PoM D kA X sz) (va_A (hw kA X) sz)) mc ms (va_A (hw kA X) sz) := by
  unfold wp_X9_soonest at h
  refine x_enM (by decide) (Nat.le_of_ble_eq_true rfl) ?_
  intro p e s m below meth c G hr hlk hin hsz hA S ls hl
  obtain ⟨hx, hb, hml, hown, hts, hE, hK⟩ := id G
  have hl : lv_has ls 7 [(0, .ref v0), (1, .int v1), (2, .int v2), (3, .int v3), (4, .int v4)] := hl
  obtain ⟨X0, hX0⟩ : ∃ Y : Hp, Y = X := ⟨_, rfl⟩
  subst hX0
  have J_45 : ∀ (n : Nat) (X : Hp) (kc : Nat) (ks : Nat) (b45_5 : Nat) (b45_6 : Int32), ∀ (H : Heap) (locs : List Loc) (_ : bk_X9_soonest_45 post mc ms v0 v1 v2 v3 v4  n X kc ks b45_5 b45_6), Sx D kA (va_A (hw kA X0) sz) s.heap H locs X → ∀ ls, lv_has ls 7 [(2, .int v2), (3, .int v3), (4, .int v4), (5, .ref b45_5), (6, .int b45_6)] → W p l e (rmO 7 mc ms 174) s m [Value.ref v0, Value.int v1, Value.int v2, Value.int v3, Value.int v4].toArray below meth c H locs kc ks (MQ below (va_Qi post (PoM D kA X0 sz) (va_A (hw kA X0) sz)) [Value.ref v0, Value.int v1, Value.int v2, Value.int v3, Value.int v4].toArray s mc ms (va_A (hw kA X0) sz)) (F0 m 45 ls []) := by
    intro n
    induction n with
    | zero =>
      intro X kc ks b45_5 b45_6 H locs h S ls hl
      rw [bk_X9_soonest_45] at h
      exact h.elim
    | succ n_45 ih_45 =>
      intro X kc ks b45_5 b45_6 H locs h S ls hl
      rw [bk_X9_soonest_45] at h
      refine lv_iload hx hb dX9_soonest_45 (lv_at hl 4 rfl) ?_
      refine lv_iconst (v := (4 : Int32)) hx hb dX9_soonest_47 (by decide) ?_
      refine lv_icmp_gt (tgt := 84) hx hb dX9_soonest_48 (by decide) (fun c12 => ?_) (fun c12 => ?_)
      · have h := h.1 c12
        refine lv_bipush (v := (-6 : Int32)) hx hb dX9_soonest_84 (by decide) ?_
        obtain ⟨hk1, hk2, h⟩ := h
        exact x_iretM G hr hlk S hk1 hk2 h dX9_soonest_86
      · have h := h.2 c12
        refine lv_aload hx hb dX9_soonest_51 (lv_at hl 3 rfl) ?_
        refine lv_iconst (v := (0 : Int32)) hx hb dX9_soonest_53 (by decide) ?_
        refine lv_iload_n hx hb dX9_soonest_54 rfl (lv_at hl 0 rfl) ?_
        refine lv_iload_n hx hb dX9_soonest_55 rfl (lv_at hl 1 rfl) ?_
        refine lv_iload hx hb dX9_soonest_56 (lv_at hl 4 rfl) ?_
        obtain ⟨fs23, hfs23, h⟩ := h
        obtain ⟨m13, m14, hm1, hm2, h⟩ := h
        refine x_cMVi (As := [.int (0 : Int32), .int v2, .int v3, .int b45_6]) (rest := []) G S hA hfs23 rfl rfl (c_X4_bestFrom l D kA _ _ _ _ _ b45_5 (0 : Int32) v2 v3 b45_6 h) cd_X4_bestFrom ml_X9_199 ⟨(Nat.le_of_ble_eq_true rfl), (Nat.le_of_ble_eq_true rfl)⟩ rfl hl.1 rfl (Nat.le_of_ble_eq_true rfl) dX9_soonest_58 ⟨hm1, hm2⟩ (fun r16 X H locs h S => ?_)
        refine lv_iload hx hb dX9_soonest_61 (lv_at hl 2 rfl) ?_
        refine lv_icmp_lt (tgt := 78) hx hb dX9_soonest_63 (by decide) (fun c17 => ?_) (fun c17 => ?_)
        · have h := h.1 c17
          obtain ⟨x18, ex18⟩ : ∃ y : Int32, y = b45_6 + (1 : Int32) := ⟨_, rfl⟩
          have h := h x18 ex18
          refine lv_iinc (v := x18) (lv' := [(6, .int x18), (2, .int v2), (3, .int v3), (4, .int v4), (5, .ref b45_5)]) hx hb dX9_soonest_78 hl (k := 4) rfl (by rw [ex18]; rfl) (by decide) rfl (fun ls hl => ?_)
          refine lv_goto (tgt := 45) hx hb dX9_soonest_81 (by decide) ?_
          exact ih_45 _ _ _ _ _ _ _ h S ls (lv_sub hl [1, 2, 3, 4, 0] rfl)
        · have h := h.2 c17
          refine lv_aload hx hb dX9_soonest_66 (lv_at hl 3 rfl) ?_
          obtain ⟨fs19, y20, hfs19, hvfs19, h⟩ := h
          refine x_get G S.1 hfs19 hvfs19 fl_X9_68 dX9_soonest_68 ?_
          obtain ⟨fs21, y22, hfs21, hvfs21, h⟩ := h
          refine x_get G S.1 hfs21 hvfs21 fl_X9_85 dX9_soonest_71 ?_
          refine lv_iload hx hb dX9_soonest_74 (lv_at hl 4 rfl) ?_
          refine lv_iadd hx hb dX9_soonest_76 ?_
          obtain ⟨hk1, hk2, h⟩ := h
          exact x_iretM G hr hlk S hk1 hk2 h dX9_soonest_77
  refine lv_aload_n hx hb dX9_soonest_0 rfl (lv_at hl 0 rfl) ?_
  refine lv_iload_n hx hb dX9_soonest_1 rfl (lv_at hl 1 rfl) ?_
  obtain ⟨fs11, hfs11, h⟩ := h
  obtain ⟨hkc, hks, h⟩ := h
  refine x_cRVq (As := [.int v1]) (rest := []) G S.1 hfs11 rfl rfl (c_X9_planOf l D kA _ _ v0 v1 h) cd_X9_planOf ml_X9_60 ⟨(Nat.le_of_ble_eq_true rfl), (Nat.le_of_ble_eq_true rfl)⟩ rfl hl.1 rfl (Nat.le_of_ble_eq_true rfl) dX9_soonest_2 ⟨hkc, hks⟩ (fun r1 h => ?_)
  refine x_spl (fun c3 => ?_) (fun y2 c3 => ?_)
  · have h := h.1 c3
    refine lv_astoreN (lv' := [(5, .null), (0, .ref v0), (1, .int v1), (2, .int v2), (3, .int v3), (4, .int v4)]) hx hb dX9_soonest_5 hl (by decide) rfl (fun ls hl => ?_)
    refine lv_aloadN hx hb dX9_soonest_7 (lv_at hl 0 rfl) ?_
    refine lv_ifnonnullN hx hb dX9_soonest_9 ?_
    refine lv_iconst (v := (-1 : Int32)) hx hb dX9_soonest_12 (by decide) ?_
    obtain ⟨hk1, hk2, h⟩ := h
    exact x_iretM G hr hlk S hk1 hk2 h dX9_soonest_13
  · have h := h.2 y2 c3
    refine lv_astore (lv' := [(5, .ref y2), (0, .ref v0), (1, .int v1), (2, .int v2), (3, .int v3), (4, .int v4)]) hx hb dX9_soonest_5 hl (by decide) rfl (fun ls hl => ?_)
    refine lv_aload hx hb dX9_soonest_7 (lv_at hl 0 rfl) ?_
    refine lv_ifnonnull (tgt := 14) hx hb dX9_soonest_9 (by decide) ?_
    refine lv_iload_n hx hb dX9_soonest_14 rfl (lv_at hl 3 rfl) ?_
    obtain ⟨hkc, hks, h⟩ := h
    refine x_cRSi (As := [.int v2]) (rest := []) G S.1 (c_X9_isOwed l D kA _ _ v2 h) cd_X9_isOwed ml_X9_131 ⟨(Nat.le_of_ble_eq_true rfl), (Nat.le_of_ble_eq_true rfl)⟩ rfl hl.1 rfl (Nat.le_of_ble_eq_true rfl) dX9_soonest_15 ⟨hkc, hks⟩ (fun r4 h => ?_)
    refine lv_if_eq (tgt := 39) hx hb dX9_soonest_18 (by decide) (fun c5 => ?_) (fun c5 => ?_)
    · have h := h.1 c5
      refine lv_bipush (v := (-2 : Int32)) hx hb dX9_soonest_39 (by decide) ?_
      obtain ⟨hk1, hk2, h⟩ := h
      exact x_iretM G hr hlk S hk1 hk2 h dX9_soonest_41
    · have h := h.2 c5
      refine lv_iload_n hx hb dX9_soonest_21 rfl (lv_at hl 4 rfl) ?_
      obtain ⟨hkc, hks, h⟩ := h
      refine x_cRSi (As := [.int v3]) (rest := []) G S.1 (c_X9_isBattery l D kA _ _ v3 h) cd_X9_isBattery ml_X9_161 ⟨(Nat.le_of_ble_eq_true rfl), (Nat.le_of_ble_eq_true rfl)⟩ rfl hl.1 rfl (Nat.le_of_ble_eq_true rfl) dX9_soonest_22 ⟨hkc, hks⟩ (fun r6 h => ?_)
      refine lv_if_eq (tgt := 39) hx hb dX9_soonest_25 (by decide) (fun c7 => ?_) (fun c7 => ?_)
      · have h := h.1 c7
        refine lv_bipush (v := (-2 : Int32)) hx hb dX9_soonest_39 (by decide) ?_
        obtain ⟨hk1, hk2, h⟩ := h
        exact x_iretM G hr hlk S hk1 hk2 h dX9_soonest_41
      · have h := h.2 c7
        refine lv_iload hx hb dX9_soonest_28 (lv_at hl 5 rfl) ?_
        refine lv_iconst (v := (0 : Int32)) hx hb dX9_soonest_30 (by decide) ?_
        refine lv_ldc hx hb hown (hts _ kc_X9_217) dX9_soonest_31 ?_
        obtain ⟨hkc, hks, h⟩ := h
        refine x_cRSi (As := [.int v4, .int (0 : Int32), .int (1000000 : Int32)]) (rest := []) G S.1 (c_X9_within l D kA _ _ v4 (0 : Int32) (1000000 : Int32) h) cd_X9_within ml_X9_64 ⟨(Nat.le_of_ble_eq_true rfl), (Nat.le_of_ble_eq_true rfl)⟩ rfl hl.1 rfl (Nat.le_of_ble_eq_true rfl) dX9_soonest_33 ⟨hkc, hks⟩ (fun r8 h => ?_)
        refine lv_if_ne (tgt := 42) hx hb dX9_soonest_36 (by decide) (fun c9 => ?_) (fun c9 => ?_)
        · have h := h.1 c9
          refine lv_iconst (v := (0 : Int32)) hx hb dX9_soonest_42 (by decide) ?_
          refine lv_istore (lv' := [(6, .int (0 : Int32)), (5, .ref y2), (0, .ref v0), (1, .int v1), (2, .int v2), (3, .int v3), (4, .int v4)]) hx hb dX9_soonest_43 hl (by decide) rfl (fun ls hl => ?_)
          obtain ⟨n10, h⟩ := h
          exact J_45 n10 _ _ _ _ _ _ _ h S ls (lv_sub hl [4, 5, 6, 1, 0] rfl)
        · have h := h.2 c9
          refine lv_bipush (v := (-2 : Int32)) hx hb dX9_soonest_39 (by decide) ?_
          obtain ⟨hk1, hk2, h⟩ := h
          exact x_iretM G hr hlk S hk1 hk2 h dX9_soonest_41
def wp_X9_two (post : Int32 → Hp → Prop) (X : Hp) (v0 : Nat) (v1 : Int32) (v2 : Int32) (v3 : Int32) : Prop := ∃ fs13 : List Value, Hs X v0 (.inr (9, fs13)) ∧ wp_X9_wayOf (fun r1 => (r1 = none → post (-1 : Int32) X) ∧ (∀ y2 : Nat, r1 = some y2 → wp_X9_isOwed (fun r4 => (r4 = 0 → post (-2 : Int32) X) ∧ (¬ r4 = 0 → wp_X9_within (fun r6 => (¬ r6 = 0 → ∃ (fs8 : List Value) (y9 : Nat), Hs X v0 (.inr (9, fs8)) ∧ fs8[5]? = some (.ref y9) ∧ ∃ fs12 : List Value, Hs X y9 (.inr (0, fs12)) ∧ wp_X0_safeByTurns (fun r11 X10 => post r11 X10)  X y9 y2 v2 v3) ∧ (r6 = 0 → post (-2 : Int32) X))  X v3 (1 : Int32) (6 : Int32)))  X v2))  X v0 v1
set_option maxHeartbeats 4000000 in
set_option maxRecDepth 100000 in
theorem c_X9_two (l : Launch) (D : va_G) (kA : Nat → ClassId) (post : Int32 → Hp → Prop) (X : Hp) (sz : Nat) (v0 : Nat) (v1 : Int32) (v2 : Int32) (v3 : Int32) (h : wp_X9_two post X v0 v1 v2 v3) : Met l yX9_two (.code yX9_two cX9_two 5 (some .int) :: gd) (rmO 4 0 0 98) (va_Pc [Value.ref v0, Value.int v1, Value.int v2, Value.int v3] (PreM D kA X sz)) (va_Qi post (PoM D kA X sz) (va_A (hw kA X) sz)) 0 0 (va_A (hw kA X) sz) := by
  unfold wp_X9_two at h
  refine x_enM (by decide) (Nat.le_of_ble_eq_true rfl) ?_
  intro p e s m below meth c G hr hlk hin hsz hA S ls hl
  obtain ⟨hx, hb, hml, hown, hts, hE, hK⟩ := id G
  have hl : lv_has ls 5 [(0, .ref v0), (1, .int v1), (2, .int v2), (3, .int v3)] := hl
  refine lv_aload_n hx hb dX9_two_0 rfl (lv_at hl 0 rfl) ?_
  refine lv_iload_n hx hb dX9_two_1 rfl (lv_at hl 1 rfl) ?_
  obtain ⟨fs13, hfs13, h⟩ := h
  refine x_cRVq (As := [.int v1]) (rest := []) G S.1 hfs13 rfl rfl (c_X9_wayOf l D kA _ _ v0 v1 h) cd_X9_wayOf ml_X9_95 ⟨(Nat.le_of_ble_eq_true rfl), (Nat.le_of_ble_eq_true rfl)⟩ rfl hl.1 rfl (Nat.le_of_ble_eq_true rfl) dX9_two_2 ⟨Nat.zero_le _, Nat.zero_le _⟩ (fun r1 h => ?_)
  refine x_spl (fun c3 => ?_) (fun y2 c3 => ?_)
  · have h := h.1 c3
    refine lv_astoreN (lv' := [(4, .null), (0, .ref v0), (1, .int v1), (2, .int v2), (3, .int v3)]) hx hb dX9_two_5 hl (by decide) rfl (fun ls hl => ?_)
    refine lv_aloadN hx hb dX9_two_7 (lv_at hl 0 rfl) ?_
    refine lv_ifnonnullN hx hb dX9_two_9 ?_
    refine lv_iconst (v := (-1 : Int32)) hx hb dX9_two_12 (by decide) ?_
    exact x_iretM G hr hlk S (Nat.le_refl _) (Nat.le_refl _) h dX9_two_13
  · have h := h.2 y2 c3
    refine lv_astore (lv' := [(4, .ref y2), (0, .ref v0), (1, .int v1), (2, .int v2), (3, .int v3)]) hx hb dX9_two_5 hl (by decide) rfl (fun ls hl => ?_)
    refine lv_aload hx hb dX9_two_7 (lv_at hl 0 rfl) ?_
    refine lv_ifnonnull (tgt := 14) hx hb dX9_two_9 (by decide) ?_
    refine lv_iload_n hx hb dX9_two_14 rfl (lv_at hl 3 rfl) ?_
    refine x_cRSi (As := [.int v2]) (rest := []) G S.1 (c_X9_isOwed l D kA _ _ v2 h) cd_X9_isOwed ml_X9_131 ⟨(Nat.le_of_ble_eq_true rfl), (Nat.le_of_ble_eq_true rfl)⟩ rfl hl.1 rfl (Nat.le_of_ble_eq_true rfl) dX9_two_15 ⟨Nat.zero_le _, Nat.zero_le _⟩ (fun r4 h => ?_)
    refine lv_if_eq (tgt := 31) hx hb dX9_two_18 (by decide) (fun c5 => ?_) (fun c5 => ?_)
    · have h := h.1 c5
      refine lv_bipush (v := (-2 : Int32)) hx hb dX9_two_31 (by decide) ?_
      exact x_iretM G hr hlk S (Nat.le_refl _) (Nat.le_refl _) h dX9_two_33
    · have h := h.2 c5
      refine lv_iload_n hx hb dX9_two_21 rfl (lv_at hl 4 rfl) ?_
      refine lv_iconst (v := (1 : Int32)) hx hb dX9_two_22 (by decide) ?_
      refine lv_bipush (v := (6 : Int32)) hx hb dX9_two_23 (by decide) ?_
      refine x_cRSi (As := [.int v3, .int (1 : Int32), .int (6 : Int32)]) (rest := []) G S.1 (c_X9_within l D kA _ _ v3 (1 : Int32) (6 : Int32) h) cd_X9_within ml_X9_64 ⟨(Nat.le_of_ble_eq_true rfl), (Nat.le_of_ble_eq_true rfl)⟩ rfl hl.1 rfl (Nat.le_of_ble_eq_true rfl) dX9_two_25 ⟨Nat.zero_le _, Nat.zero_le _⟩ (fun r6 h => ?_)
      refine lv_if_ne (tgt := 34) hx hb dX9_two_28 (by decide) (fun c7 => ?_) (fun c7 => ?_)
      · have h := h.1 c7
        refine lv_aload_n hx hb dX9_two_34 rfl (lv_at hl 1 rfl) ?_
        obtain ⟨fs8, y9, hfs8, hvfs8, h⟩ := h
        refine x_get G S.1 hfs8 hvfs8 fl_X9_56 dX9_two_35 ?_
        refine lv_aload hx hb dX9_two_38 (lv_at hl 0 rfl) ?_
        refine lv_iload_n hx hb dX9_two_40 rfl (lv_at hl 3 rfl) ?_
        refine lv_iload_n hx hb dX9_two_41 rfl (lv_at hl 4 rfl) ?_
        obtain ⟨fs12, hfs12, h⟩ := h
        refine x_cMVi (As := [.ref y2, .int v2, .int v3]) (rest := []) G S hA hfs12 rfl rfl (c_X0_safeByTurns l D kA _ _ _ y9 y2 v2 v3 h) cd_X0_safeByTurns ml_X9_218 ⟨(Nat.le_of_ble_eq_true rfl), (Nat.le_of_ble_eq_true rfl)⟩ rfl hl.1 rfl (Nat.le_of_ble_eq_true rfl) dX9_two_42 ⟨Nat.zero_le _, Nat.zero_le _⟩ (fun r11 X H locs h S => ?_)
        exact x_iretM G hr hlk S (Nat.le_refl _) (Nat.le_refl _) h dX9_two_45
      · have h := h.2 c7
        refine lv_bipush (v := (-2 : Int32)) hx hb dX9_two_31 (by decide) ?_
        exact x_iretM G hr hlk S (Nat.le_refl _) (Nat.le_refl _) h dX9_two_33
def bk_X9_share_75 (post : Int32 → Hp → Prop) (v0 : Nat) (v1 : Int32) (v2 : Int32) (r_40 : Hp → Nat → Int32 → Int32 → Int32 → Prop) (X : Hp) (b75_3 : Nat) (b75_4 : Int32) (b75_5 : Int32) (b75_6 : Int32) : Prop := ∀ x20 : Int32, x20 = b75_6 + (1 : Int32) → r_40 X b75_3 b75_4 b75_5 x20
def bk_X9_share_40 (post : Int32 → Hp → Prop) (v0 : Nat) (v1 : Int32) (v2 : Int32)  : Nat → Hp → Nat → Int32 → Int32 → Int32 → Prop
  | 0, _, _, _, _, _ => False
  | k + 1, X, b40_3, b40_4, b40_5, b40_6 => ((6 : Int32) < b40_6 → post b40_4 X) ∧ (¬ (6 : Int32) < b40_6 → ∃ (fs14 : List Value) (y15 : Nat), Hs X v0 (.inr (9, fs14)) ∧ fs14[5]? = some (.ref y15) ∧ ∃ fs19 : List Value, Hs X y15 (.inr (0, fs19)) ∧ wp_X0_safeByTurns (fun r17 X16 => (r17 ≤ b40_5 → bk_X9_share_75 post v0 v1 v2 (bk_X9_share_40 post v0 v1 v2 k) X16 b40_3 b40_4 b40_5 b40_6) ∧ (¬ r17 ≤ b40_5 → bk_X9_share_75 post v0 v1 v2 (bk_X9_share_40 post v0 v1 v2 k) X16 b40_3 b40_6 r17 b40_6)) X y15 b40_3 v2 b40_6)
def wp_X9_share (post : Int32 → Hp → Prop) (X : Hp) (v0 : Nat) (v1 : Int32) (v2 : Int32) : Prop := ∃ fs12 : List Value, Hs X v0 (.inr (9, fs12)) ∧ wp_X9_wayOf (fun r1 => (r1 = none → post (-1 : Int32) X) ∧ (∀ y2 : Nat, r1 = some y2 → wp_X9_isOwed (fun r4 => (¬ r4 = 0 → ∃ (fs6 : List Value) (y7 : Nat), Hs X v0 (.inr (9, fs6)) ∧ fs6[5]? = some (.ref y7) ∧ ∃ fs11 : List Value, Hs X y7 (.inr (0, fs11)) ∧ wp_X0_safeByTurns (fun r9 X8 => ∃ n10 : Nat, bk_X9_share_40 post v0 v1 v2 n10 X8 y2 (1 : Int32) r9 (2 : Int32))  X y7 y2 v2 (1 : Int32)) ∧ (r4 = 0 → post (-2 : Int32) X))  X v2))  X v0 v1
set_option maxHeartbeats 4000000 in
set_option maxRecDepth 100000 in
theorem c_X9_share (l : Launch) (D : va_G) (kA : Nat → ClassId) (post : Int32 → Hp → Prop) (X : Hp) (sz : Nat) (v0 : Nat) (v1 : Int32) (v2 : Int32) (h : wp_X9_share post X v0 v1 v2) : Met l yX9_share (.code yX9_share cX9_share 8 (some .int) :: gd) (rmO 4 0 0 98) (va_Pc [Value.ref v0, Value.int v1, Value.int v2] (PreM D kA X sz)) (va_Qi post (PoM D kA X sz) (va_A (hw kA X) sz)) 0 0 (va_A (hw kA X) sz) := by
  unfold wp_X9_share at h
  refine x_enM (by decide) (Nat.le_of_ble_eq_true rfl) ?_
  intro p e s m below meth c G hr hlk hin hsz hA S ls hl
  obtain ⟨hx, hb, hml, hown, hts, hE, hK⟩ := id G
  have hl : lv_has ls 8 [(0, .ref v0), (1, .int v1), (2, .int v2)] := hl
  obtain ⟨X0, hX0⟩ : ∃ Y : Hp, Y = X := ⟨_, rfl⟩
  subst hX0
  have J_40 : ∀ (n : Nat) (X : Hp) (b40_3 : Nat) (b40_4 : Int32) (b40_5 : Int32) (b40_6 : Int32), ∀ (H : Heap) (locs : List Loc) (_ : bk_X9_share_40 post v0 v1 v2  n X b40_3 b40_4 b40_5 b40_6), Sx D kA (va_A (hw kA X0) sz) s.heap H locs X → ∀ ls, lv_has ls 8 [(0, .ref v0), (2, .int v2), (3, .ref b40_3), (4, .int b40_4), (5, .int b40_5), (6, .int b40_6)] → W p l e (rmO 4 0 0 98) s m [Value.ref v0, Value.int v1, Value.int v2].toArray below meth c H locs 0 0 (MQ below (va_Qi post (PoM D kA X0 sz) (va_A (hw kA X0) sz)) [Value.ref v0, Value.int v1, Value.int v2].toArray s 0 0 (va_A (hw kA X0) sz)) (F0 m 40 ls []) := by
    intro n
    induction n with
    | zero =>
      intro X b40_3 b40_4 b40_5 b40_6 H locs h S ls hl
      rw [bk_X9_share_40] at h
      exact h.elim
    | succ n_40 ih_40 =>
      have J_75 : ∀ (X : Hp) (b75_3 : Nat) (b75_4 : Int32) (b75_5 : Int32) (b75_6 : Int32), ∀ (H : Heap) (locs : List Loc) (_ : bk_X9_share_75 post v0 v1 v2 (bk_X9_share_40 post v0 v1 v2 n_40) X b75_3 b75_4 b75_5 b75_6), Sx D kA (va_A (hw kA X0) sz) s.heap H locs X → ∀ ls, lv_has ls 8 [(0, .ref v0), (2, .int v2), (3, .ref b75_3), (4, .int b75_4), (5, .int b75_5), (6, .int b75_6)] → W p l e (rmO 4 0 0 98) s m [Value.ref v0, Value.int v1, Value.int v2].toArray below meth c H locs 0 0 (MQ below (va_Qi post (PoM D kA X0 sz) (va_A (hw kA X0) sz)) [Value.ref v0, Value.int v1, Value.int v2].toArray s 0 0 (va_A (hw kA X0) sz)) (F0 m 75 ls []) := by
        intro X b75_3 b75_4 b75_5 b75_6 H locs h S ls hl
        unfold bk_X9_share_75 at h
        obtain ⟨x20, ex20⟩ : ∃ y : Int32, y = b75_6 + (1 : Int32) := ⟨_, rfl⟩
        have h := h x20 ex20
        refine lv_iinc (v := x20) (lv' := [(6, .int x20), (0, .ref v0), (2, .int v2), (3, .ref b75_3), (4, .int b75_4), (5, .int b75_5)]) hx hb dX9_share_75 hl (k := 5) rfl (by rw [ex20]; rfl) (by decide) rfl (fun ls hl => ?_)
        refine lv_goto (tgt := 40) hx hb dX9_share_78 (by decide) ?_
        exact ih_40 _ _ _ _ _ _ _ h S ls (lv_sub hl [1, 2, 3, 4, 5, 0] rfl)
      intro X b40_3 b40_4 b40_5 b40_6 H locs h S ls hl
      rw [bk_X9_share_40] at h
      refine lv_iload hx hb dX9_share_40 (lv_at hl 5 rfl) ?_
      refine lv_bipush (v := (6 : Int32)) hx hb dX9_share_42 (by decide) ?_
      refine lv_icmp_gt (tgt := 81) hx hb dX9_share_44 (by decide) (fun c13 => ?_) (fun c13 => ?_)
      · have h := h.1 c13
        refine lv_iload hx hb dX9_share_81 (lv_at hl 3 rfl) ?_
        exact x_iretM G hr hlk S (Nat.le_refl _) (Nat.le_refl _) h dX9_share_83
      · have h := h.2 c13
        refine lv_aload_n hx hb dX9_share_47 rfl (lv_at hl 0 rfl) ?_
        obtain ⟨fs14, y15, hfs14, hvfs14, h⟩ := h
        refine x_get G S.1 hfs14 hvfs14 fl_X9_56 dX9_share_48 ?_
        refine lv_aload_n hx hb dX9_share_51 rfl (lv_at hl 2 rfl) ?_
        refine lv_iload_n hx hb dX9_share_52 rfl (lv_at hl 1 rfl) ?_
        refine lv_iload hx hb dX9_share_53 (lv_at hl 5 rfl) ?_
        obtain ⟨fs19, hfs19, h⟩ := h
        refine x_cMVi (As := [.ref b40_3, .int v2, .int b40_6]) (rest := []) G S hA hfs19 rfl rfl (c_X0_safeByTurns l D kA _ _ _ y15 b40_3 v2 b40_6 h) cd_X0_safeByTurns ml_X9_218 ⟨(Nat.le_of_ble_eq_true rfl), (Nat.le_of_ble_eq_true rfl)⟩ rfl hl.1 rfl (Nat.le_of_ble_eq_true rfl) dX9_share_55 ⟨Nat.zero_le _, Nat.zero_le _⟩ (fun r17 X H locs h S => ?_)
        refine lv_istore (lv' := [(7, .int r17), (0, .ref v0), (2, .int v2), (3, .ref b40_3), (4, .int b40_4), (5, .int b40_5), (6, .int b40_6)]) hx hb dX9_share_58 hl (by decide) rfl (fun ls hl => ?_)
        refine lv_iload hx hb dX9_share_60 (lv_at hl 0 rfl) ?_
        refine lv_iload hx hb dX9_share_62 (lv_at hl 5 rfl) ?_
        refine lv_icmp_le (tgt := 75) hx hb dX9_share_64 (by decide) (fun c18 => ?_) (fun c18 => ?_)
        · have h := h.1 c18
          exact J_75 _ _ _ _ _ _ _ h S ls (lv_sub hl [1, 2, 3, 4, 5, 6] rfl)
        · have h := h.2 c18
          refine lv_iload hx hb dX9_share_67 (lv_at hl 0 rfl) ?_
          refine lv_istore (lv' := [(5, .int r17), (7, .int r17), (0, .ref v0), (2, .int v2), (3, .ref b40_3), (4, .int b40_4), (6, .int b40_6)]) hx hb dX9_share_69 hl (by decide) rfl (fun ls hl => ?_)
          refine lv_iload hx hb dX9_share_71 (lv_at hl 6 rfl) ?_
          refine lv_istore (lv' := [(4, .int b40_6), (5, .int r17), (7, .int r17), (0, .ref v0), (2, .int v2), (3, .ref b40_3), (6, .int b40_6)]) hx hb dX9_share_73 hl (by decide) rfl (fun ls hl => ?_)
          exact J_75 _ _ _ _ _ _ _ h S ls (lv_sub hl [3, 4, 5, 0, 1, 6] rfl)
  refine lv_aload_n hx hb dX9_share_0 rfl (lv_at hl 0 rfl) ?_
  refine lv_iload_n hx hb dX9_share_1 rfl (lv_at hl 1 rfl) ?_
  obtain ⟨fs12, hfs12, h⟩ := h
  refine x_cRVq (As := [.int v1]) (rest := []) G S.1 hfs12 rfl rfl (c_X9_wayOf l D kA _ _ v0 v1 h) cd_X9_wayOf ml_X9_95 ⟨(Nat.le_of_ble_eq_true rfl), (Nat.le_of_ble_eq_true rfl)⟩ rfl hl.1 rfl (Nat.le_of_ble_eq_true rfl) dX9_share_2 ⟨Nat.zero_le _, Nat.zero_le _⟩ (fun r1 h => ?_)
  refine x_spl (fun c3 => ?_) (fun y2 c3 => ?_)
  · have h := h.1 c3
    refine lv_astore_nN (lv' := [(3, .null), (0, .ref v0), (1, .int v1), (2, .int v2)]) hx hb dX9_share_5 rfl hl (by decide) rfl (fun ls hl => ?_)
    refine lv_aload_nN hx hb dX9_share_6 rfl (lv_at hl 0 rfl) ?_
    refine lv_ifnonnullN hx hb dX9_share_7 ?_
    refine lv_iconst (v := (-1 : Int32)) hx hb dX9_share_10 (by decide) ?_
    exact x_iretM G hr hlk S (Nat.le_refl _) (Nat.le_refl _) h dX9_share_11
  · have h := h.2 y2 c3
    refine lv_astore_n (lv' := [(3, .ref y2), (0, .ref v0), (1, .int v1), (2, .int v2)]) hx hb dX9_share_5 rfl hl (by decide) rfl (fun ls hl => ?_)
    refine lv_aload_n hx hb dX9_share_6 rfl (lv_at hl 0 rfl) ?_
    refine lv_ifnonnull (tgt := 12) hx hb dX9_share_7 (by decide) ?_
    refine lv_iload_n hx hb dX9_share_12 rfl (lv_at hl 3 rfl) ?_
    refine x_cRSi (As := [.int v2]) (rest := []) G S.1 (c_X9_isOwed l D kA _ _ v2 h) cd_X9_isOwed ml_X9_131 ⟨(Nat.le_of_ble_eq_true rfl), (Nat.le_of_ble_eq_true rfl)⟩ rfl hl.1 rfl (Nat.le_of_ble_eq_true rfl) dX9_share_13 ⟨Nat.zero_le _, Nat.zero_le _⟩ (fun r4 h => ?_)
    refine lv_if_ne (tgt := 22) hx hb dX9_share_16 (by decide) (fun c5 => ?_) (fun c5 => ?_)
    · have h := h.1 c5
      refine lv_iconst (v := (1 : Int32)) hx hb dX9_share_22 (by decide) ?_
      refine lv_istore (lv' := [(4, .int (1 : Int32)), (3, .ref y2), (0, .ref v0), (1, .int v1), (2, .int v2)]) hx hb dX9_share_23 hl (by decide) rfl (fun ls hl => ?_)
      refine lv_aload_n hx hb dX9_share_25 rfl (lv_at hl 2 rfl) ?_
      obtain ⟨fs6, y7, hfs6, hvfs6, h⟩ := h
      refine x_get G S.1 hfs6 hvfs6 fl_X9_56 dX9_share_26 ?_
      refine lv_aload_n hx hb dX9_share_29 rfl (lv_at hl 1 rfl) ?_
      refine lv_iload_n hx hb dX9_share_30 rfl (lv_at hl 4 rfl) ?_
      refine lv_iconst (v := (1 : Int32)) hx hb dX9_share_31 (by decide) ?_
      obtain ⟨fs11, hfs11, h⟩ := h
      refine x_cMVi (As := [.ref y2, .int v2, .int (1 : Int32)]) (rest := []) G S hA hfs11 rfl rfl (c_X0_safeByTurns l D kA _ _ _ y7 y2 v2 (1 : Int32) h) cd_X0_safeByTurns ml_X9_218 ⟨(Nat.le_of_ble_eq_true rfl), (Nat.le_of_ble_eq_true rfl)⟩ rfl hl.1 rfl (Nat.le_of_ble_eq_true rfl) dX9_share_32 ⟨Nat.zero_le _, Nat.zero_le _⟩ (fun r9 X H locs h S => ?_)
      refine lv_istore (lv' := [(5, .int r9), (4, .int (1 : Int32)), (3, .ref y2), (0, .ref v0), (1, .int v1), (2, .int v2)]) hx hb dX9_share_35 hl (by decide) rfl (fun ls hl => ?_)
      refine lv_iconst (v := (2 : Int32)) hx hb dX9_share_37 (by decide) ?_
      refine lv_istore (lv' := [(6, .int (2 : Int32)), (5, .int r9), (4, .int (1 : Int32)), (3, .ref y2), (0, .ref v0), (1, .int v1), (2, .int v2)]) hx hb dX9_share_38 hl (by decide) rfl (fun ls hl => ?_)
      obtain ⟨n10, h⟩ := h
      exact J_40 n10 _ _ _ _ _ _ _ h S ls (lv_sub hl [4, 6, 3, 2, 1, 0] rfl)
    · have h := h.2 c5
      refine lv_bipush (v := (-2 : Int32)) hx hb dX9_share_19 (by decide) ?_
      exact x_iretM G hr hlk S (Nat.le_refl _) (Nat.le_refl _) h dX9_share_21
def wp_X9_getsUp (post : Int32 → Prop) (X : Hp) (v0 : Int32) (v1 : Int32) (v2 : Int32) : Prop := ((v0 * v1) < ((1000 : Int32) * ((1 : Int32) + ((10 : Int32) * v2))) → post (0 : Int32)) ∧ (¬ (v0 * v1) < ((1000 : Int32) * ((1 : Int32) + ((10 : Int32) * v2))) → post (1 : Int32))
set_option maxHeartbeats 4000000 in
set_option maxRecDepth 100000 in
theorem c_X9_getsUp (l : Launch) (D : va_G) (kA : Nat → ClassId) (post : Int32 → Prop) (X : Hp) (v0 : Int32) (v1 : Int32) (v2 : Int32) (h : wp_X9_getsUp post X v0 v1 v2) : Met l yX9_getsUp (.code yX9_getsUp cX9_getsUp 3 (some .boolean) :: gd) (rmO 0 0 0 0) (va_Pc [Value.int v0, Value.int v1, Value.int v2] (Pre D kA X)) (vp_Si post) 0 0 (fun _ => False) := by
  unfold wp_X9_getsUp at h
  refine x_enR (by decide) (Nat.le_of_ble_eq_true rfl) ?_
  intro p e s m below meth c G hr hlk hP ls hl
  obtain ⟨hx, hb, hml, hown, hts, hE, hK⟩ := id G
  have hl : lv_has ls 3 [(0, .int v0), (1, .int v1), (2, .int v2)] := hl
  refine lv_sipush (v := (1000 : Int32)) hx hb dX9_getsUp_0 (by decide) ?_
  refine lv_iconst (v := (1 : Int32)) hx hb dX9_getsUp_3 (by decide) ?_
  refine lv_bipush (v := (10 : Int32)) hx hb dX9_getsUp_4 (by decide) ?_
  refine lv_iload_n hx hb dX9_getsUp_6 rfl (lv_at hl 2 rfl) ?_
  refine lv_imul hx hb dX9_getsUp_7 ?_
  refine lv_iadd hx hb dX9_getsUp_8 ?_
  refine lv_imul hx hb dX9_getsUp_9 ?_
  refine lv_iload_n hx hb dX9_getsUp_10 rfl (lv_at hl 0 rfl) ?_
  refine lv_iload_n hx hb dX9_getsUp_11 rfl (lv_at hl 1 rfl) ?_
  refine lv_imul hx hb dX9_getsUp_12 ?_
  refine lv_icmp_gt (tgt := 20) hx hb dX9_getsUp_13 (by decide) (fun c1 => ?_) (fun c1 => ?_)
  · have h := h.1 c1
    refine lv_iconst (v := (0 : Int32)) hx hb dX9_getsUp_20 (by decide) ?_
    exact x_zretR G hr hlk (Or.inl rfl) h dX9_getsUp_21
  · have h := h.2 c1
    refine lv_iconst (v := (1 : Int32)) hx hb dX9_getsUp_16 (by decide) ?_
    refine lv_goto (tgt := 21) hx hb dX9_getsUp_17 (by decide) ?_
    exact x_zretR G hr hlk (Or.inr rfl) h dX9_getsUp_21
def wp_X9_up (post : Int32 → Prop) (X : Hp) (v0 : Nat) (v1 : Int32) (v2 : Int32) (v3 : Int32) : Prop := wp_X9_within (fun r1 => (r1 = 0 → post (-2 : Int32)) ∧ (¬ r1 = 0 → wp_X9_within (fun r3 => (r3 = 0 → post (-2 : Int32)) ∧ (¬ r3 = 0 → wp_X9_isOwed (fun r5 => (¬ r5 = 0 → wp_X9_getsUp (fun r7 => (r7 = 0 → post (0 : Int32)) ∧ (¬ r7 = 0 → post (1 : Int32)))  X v1 v2 v3) ∧ (r5 = 0 → post (-2 : Int32)))  X v3))  X v2 (0 : Int32) (10000 : Int32)))  X v1 (0 : Int32) (1000 : Int32)
set_option maxHeartbeats 4000000 in
set_option maxRecDepth 100000 in
theorem c_X9_up (l : Launch) (D : va_G) (kA : Nat → ClassId) (post : Int32 → Prop) (X : Hp) (v0 : Nat) (v1 : Int32) (v2 : Int32) (v3 : Int32) (h : wp_X9_up post X v0 v1 v2 v3) : Met l yX9_up (.code yX9_up cX9_up 4 (some .int) :: gd) (rmO 2 0 0 42) (va_Pc [Value.ref v0, Value.int v1, Value.int v2, Value.int v3] (Pre D kA X)) (vp_Si post) 0 0 (fun _ => False) := by
  unfold wp_X9_up at h
  refine x_enR (by decide) (Nat.le_of_ble_eq_true rfl) ?_
  intro p e s m below meth c G hr hlk hP ls hl
  obtain ⟨hx, hb, hml, hown, hts, hE, hK⟩ := id G
  have hl : lv_has ls 4 [(0, .ref v0), (1, .int v1), (2, .int v2), (3, .int v3)] := hl
  refine lv_iload_n hx hb dX9_up_0 rfl (lv_at hl 1 rfl) ?_
  refine lv_iconst (v := (0 : Int32)) hx hb dX9_up_1 (by decide) ?_
  refine lv_sipush (v := (1000 : Int32)) hx hb dX9_up_2 (by decide) ?_
  refine x_cRSi (As := [.int v1, .int (0 : Int32), .int (1000 : Int32)]) (rest := []) G hP (c_X9_within l D kA _ _ v1 (0 : Int32) (1000 : Int32) h) cd_X9_within ml_X9_64 ⟨(Nat.le_of_ble_eq_true rfl), (Nat.le_of_ble_eq_true rfl)⟩ rfl hl.1 rfl (Nat.le_of_ble_eq_true rfl) dX9_up_5 ⟨Nat.zero_le _, Nat.zero_le _⟩ (fun r1 h => ?_)
  refine lv_if_eq (tgt := 29) hx hb dX9_up_8 (by decide) (fun c2 => ?_) (fun c2 => ?_)
  · have h := h.1 c2
    refine lv_bipush (v := (-2 : Int32)) hx hb dX9_up_29 (by decide) ?_
    exact x_iretR G hr hlk h dX9_up_31
  · have h := h.2 c2
    refine lv_iload_n hx hb dX9_up_11 rfl (lv_at hl 2 rfl) ?_
    refine lv_iconst (v := (0 : Int32)) hx hb dX9_up_12 (by decide) ?_
    refine lv_sipush (v := (10000 : Int32)) hx hb dX9_up_13 (by decide) ?_
    refine x_cRSi (As := [.int v2, .int (0 : Int32), .int (10000 : Int32)]) (rest := []) G hP (c_X9_within l D kA _ _ v2 (0 : Int32) (10000 : Int32) h) cd_X9_within ml_X9_64 ⟨(Nat.le_of_ble_eq_true rfl), (Nat.le_of_ble_eq_true rfl)⟩ rfl hl.1 rfl (Nat.le_of_ble_eq_true rfl) dX9_up_16 ⟨Nat.zero_le _, Nat.zero_le _⟩ (fun r3 h => ?_)
    refine lv_if_eq (tgt := 29) hx hb dX9_up_19 (by decide) (fun c4 => ?_) (fun c4 => ?_)
    · have h := h.1 c4
      refine lv_bipush (v := (-2 : Int32)) hx hb dX9_up_29 (by decide) ?_
      exact x_iretR G hr hlk h dX9_up_31
    · have h := h.2 c4
      refine lv_iload_n hx hb dX9_up_22 rfl (lv_at hl 3 rfl) ?_
      refine x_cRSi (As := [.int v3]) (rest := []) G hP (c_X9_isOwed l D kA _ _ v3 h) cd_X9_isOwed ml_X9_131 ⟨(Nat.le_of_ble_eq_true rfl), (Nat.le_of_ble_eq_true rfl)⟩ rfl hl.1 rfl (Nat.le_of_ble_eq_true rfl) dX9_up_23 ⟨Nat.zero_le _, Nat.zero_le _⟩ (fun r5 h => ?_)
      refine lv_if_ne (tgt := 32) hx hb dX9_up_26 (by decide) (fun c6 => ?_) (fun c6 => ?_)
      · have h := h.1 c6
        refine lv_iload_n hx hb dX9_up_32 rfl (lv_at hl 1 rfl) ?_
        refine lv_iload_n hx hb dX9_up_33 rfl (lv_at hl 2 rfl) ?_
        refine lv_iload_n hx hb dX9_up_34 rfl (lv_at hl 3 rfl) ?_
        refine x_cRSi (As := [.int v1, .int v2, .int v3]) (rest := []) G hP (c_X9_getsUp l D kA _ _ v1 v2 v3 h) cd_X9_getsUp ml_X9_222 ⟨(Nat.le_of_ble_eq_true rfl), (Nat.le_of_ble_eq_true rfl)⟩ rfl hl.1 rfl (Nat.le_of_ble_eq_true rfl) dX9_up_35 ⟨Nat.zero_le _, Nat.zero_le _⟩ (fun r7 h => ?_)
        refine lv_if_eq (tgt := 45) hx hb dX9_up_38 (by decide) (fun c8 => ?_) (fun c8 => ?_)
        · have h := h.1 c8
          refine lv_iconst (v := (0 : Int32)) hx hb dX9_up_45 (by decide) ?_
          exact x_iretR G hr hlk h dX9_up_46
        · have h := h.2 c8
          refine lv_iconst (v := (1 : Int32)) hx hb dX9_up_41 (by decide) ?_
          refine lv_goto (tgt := 46) hx hb dX9_up_42 (by decide) ?_
          exact x_iretR G hr hlk h dX9_up_46
      · have h := h.2 c6
        refine lv_bipush (v := (-2 : Int32)) hx hb dX9_up_29 (by decide) ?_
        exact x_iretR G hr hlk h dX9_up_31
def bk_X9_trust_23 (post : Int32 → Prop) (X : Hp) (v0 : Nat) (v1 : Int32) (v2 : Int32)  : Nat → Int32 → Prop
  | 0, _ => False
  | k + 1, b23_3 => ((1000 : Int32) < b23_3 → post (1001 : Int32)) ∧ (¬ (1000 : Int32) < b23_3 → wp_X9_getsUp (fun r7 => (r7 = 0 → ∀ x9 : Int32, x9 = b23_3 + (1 : Int32) → (bk_X9_trust_23 post X v0 v1 v2 k) x9) ∧ (¬ r7 = 0 → post b23_3)) X b23_3 v1 v2)
def wp_X9_trust (post : Int32 → Prop) (X : Hp) (v0 : Nat) (v1 : Int32) (v2 : Int32) : Prop := wp_X9_within (fun r1 => (r1 = 0 → post (-2 : Int32)) ∧ (¬ r1 = 0 → wp_X9_isOwed (fun r3 => (¬ r3 = 0 → ∃ n5 : Nat, bk_X9_trust_23 post X v0 v1 v2 n5 (0 : Int32)) ∧ (r3 = 0 → post (-2 : Int32)))  X v2))  X v1 (0 : Int32) (10000 : Int32)
set_option maxHeartbeats 4000000 in
set_option maxRecDepth 100000 in
theorem c_X9_trust (l : Launch) (D : va_G) (kA : Nat → ClassId) (post : Int32 → Prop) (X : Hp) (v0 : Nat) (v1 : Int32) (v2 : Int32) (h : wp_X9_trust post X v0 v1 v2) : Met l yX9_trust (.code yX9_trust cX9_trust 4 (some .int) :: gd) (rmO 2 0 0 42) (va_Pc [Value.ref v0, Value.int v1, Value.int v2] (Pre D kA X)) (vp_Si post) 0 0 (fun _ => False) := by
  unfold wp_X9_trust at h
  refine x_enR (by decide) (Nat.le_of_ble_eq_true rfl) ?_
  intro p e s m below meth c G hr hlk hP ls hl
  obtain ⟨hx, hb, hml, hown, hts, hE, hK⟩ := id G
  have hl : lv_has ls 4 [(0, .ref v0), (1, .int v1), (2, .int v2)] := hl
  have J_23 : ∀ (n : Nat) (b23_3 : Int32), ∀ (_ : bk_X9_trust_23 post X v0 v1 v2  n b23_3), ∀ ls, lv_has ls 4 [(1, .int v1), (2, .int v2), (3, .int b23_3)] → W p l e (rmO 2 0 0 42) s m [Value.ref v0, Value.int v1, Value.int v2].toArray below meth c s.heap [] 0 0 (MQ below (vp_Si post) [Value.ref v0, Value.int v1, Value.int v2].toArray s 0 0 (fun _ => False)) (F0 m 23 ls []) := by
    intro n
    induction n with
    | zero =>
      intro b23_3 h ls hl
      rw [bk_X9_trust_23] at h
      exact h.elim
    | succ n_23 ih_23 =>
      intro b23_3 h ls hl
      rw [bk_X9_trust_23] at h
      refine lv_iload_n hx hb dX9_trust_23 rfl (lv_at hl 2 rfl) ?_
      refine lv_sipush (v := (1000 : Int32)) hx hb dX9_trust_24 (by decide) ?_
      refine lv_icmp_gt (tgt := 47) hx hb dX9_trust_27 (by decide) (fun c6 => ?_) (fun c6 => ?_)
      · have h := h.1 c6
        refine lv_sipush (v := (1001 : Int32)) hx hb dX9_trust_47 (by decide) ?_
        exact x_iretR G hr hlk h dX9_trust_50
      · have h := h.2 c6
        refine lv_iload_n hx hb dX9_trust_30 rfl (lv_at hl 2 rfl) ?_
        refine lv_iload_n hx hb dX9_trust_31 rfl (lv_at hl 0 rfl) ?_
        refine lv_iload_n hx hb dX9_trust_32 rfl (lv_at hl 1 rfl) ?_
        refine x_cRSi (As := [.int b23_3, .int v1, .int v2]) (rest := []) G hP (c_X9_getsUp l D kA _ _ b23_3 v1 v2 h) cd_X9_getsUp ml_X9_222 ⟨(Nat.le_of_ble_eq_true rfl), (Nat.le_of_ble_eq_true rfl)⟩ rfl hl.1 rfl (Nat.le_of_ble_eq_true rfl) dX9_trust_33 ⟨Nat.zero_le _, Nat.zero_le _⟩ (fun r7 h => ?_)
        refine lv_if_eq (tgt := 41) hx hb dX9_trust_36 (by decide) (fun c8 => ?_) (fun c8 => ?_)
        · have h := h.1 c8
          obtain ⟨x9, ex9⟩ : ∃ y : Int32, y = b23_3 + (1 : Int32) := ⟨_, rfl⟩
          have h := h x9 ex9
          refine lv_iinc (v := x9) (lv' := [(3, .int x9), (1, .int v1), (2, .int v2)]) hx hb dX9_trust_41 hl (k := 2) rfl (by rw [ex9]; rfl) (by decide) rfl (fun ls hl => ?_)
          refine lv_goto (tgt := 23) hx hb dX9_trust_44 (by decide) ?_
          exact ih_23 _ h ls (lv_sub hl [1, 2, 0] rfl)
        · have h := h.2 c8
          refine lv_iload_n hx hb dX9_trust_39 rfl (lv_at hl 2 rfl) ?_
          exact x_iretR G hr hlk h dX9_trust_40
  refine lv_iload_n hx hb dX9_trust_0 rfl (lv_at hl 1 rfl) ?_
  refine lv_iconst (v := (0 : Int32)) hx hb dX9_trust_1 (by decide) ?_
  refine lv_sipush (v := (10000 : Int32)) hx hb dX9_trust_2 (by decide) ?_
  refine x_cRSi (As := [.int v1, .int (0 : Int32), .int (10000 : Int32)]) (rest := []) G hP (c_X9_within l D kA _ _ v1 (0 : Int32) (10000 : Int32) h) cd_X9_within ml_X9_64 ⟨(Nat.le_of_ble_eq_true rfl), (Nat.le_of_ble_eq_true rfl)⟩ rfl hl.1 rfl (Nat.le_of_ble_eq_true rfl) dX9_trust_5 ⟨Nat.zero_le _, Nat.zero_le _⟩ (fun r1 h => ?_)
  refine lv_if_eq (tgt := 18) hx hb dX9_trust_8 (by decide) (fun c2 => ?_) (fun c2 => ?_)
  · have h := h.1 c2
    refine lv_bipush (v := (-2 : Int32)) hx hb dX9_trust_18 (by decide) ?_
    exact x_iretR G hr hlk h dX9_trust_20
  · have h := h.2 c2
    refine lv_iload_n hx hb dX9_trust_11 rfl (lv_at hl 2 rfl) ?_
    refine x_cRSi (As := [.int v2]) (rest := []) G hP (c_X9_isOwed l D kA _ _ v2 h) cd_X9_isOwed ml_X9_131 ⟨(Nat.le_of_ble_eq_true rfl), (Nat.le_of_ble_eq_true rfl)⟩ rfl hl.1 rfl (Nat.le_of_ble_eq_true rfl) dX9_trust_12 ⟨Nat.zero_le _, Nat.zero_le _⟩ (fun r3 h => ?_)
    refine lv_if_ne (tgt := 21) hx hb dX9_trust_15 (by decide) (fun c4 => ?_) (fun c4 => ?_)
    · have h := h.1 c4
      refine lv_iconst (v := (0 : Int32)) hx hb dX9_trust_21 (by decide) ?_
      refine lv_istore_n (lv' := [(3, .int (0 : Int32)), (0, .ref v0), (1, .int v1), (2, .int v2)]) hx hb dX9_trust_22 rfl hl (by decide) rfl (fun ls hl => ?_)
      obtain ⟨n5, h⟩ := h
      exact J_23 n5 _ h ls (lv_sub hl [2, 3, 0] rfl)
    · have h := h.2 c4
      refine lv_bipush (v := (-2 : Int32)) hx hb dX9_trust_18 (by decide) ?_
      exact x_iretR G hr hlk h dX9_trust_20
def wp_X9_draw (post : Int32 → Hp → Prop) (X : Hp) (v0 : Nat) (v1 : Int32) (v2 : Int32) (v3 : Int32) (v4 : Int32) : Prop := ∃ fs32 : List Value, Hs X v0 (.inr (9, fs32)) ∧ wp_X9_wayOf (fun r1 => (r1 = none → post (-1 : Int32) X) ∧ (∀ y2 : Nat, r1 = some y2 → wp_X9_isOwed (fun r4 => (r4 = 0 → post (-2 : Int32) X) ∧ (¬ r4 = 0 → wp_X9_isBattery (fun r6 => (r6 = 0 → post (-2 : Int32) X) ∧ (¬ r6 = 0 → wp_X9_within (fun r8 => (¬ r8 = 0 → ∃ (fs10 : List Value) (y11 : Nat), Hs X v0 (.inr (9, fs10)) ∧ fs10[4]? = some (.ref y11) ∧ ∃ fs31 : List Value, Hs X y11 (.inr (3, fs31)) ∧ wp_X3_faultPlace (fun r12 => (r12 = (-6 : Int32) → ∃ (fs14 : List Value) (y15 : Nat), Hs X v0 (.inr (9, fs14)) ∧ fs14[5]? = some (.ref y15) ∧ ∃ fs30 : List Value, Hs X y15 (.inr (0, fs30)) ∧ wp_X0_setOut (fun X16 => ∃ (fs17 : List Value) (y18 : Nat), Hs X16 v0 (.inr (9, fs17)) ∧ fs17[5]? = some (.ref y18) ∧ ∃ (fs19 : List Value) (y20 : Nat), Hs X16 v0 (.inr (9, fs19)) ∧ fs19[4]? = some (.ref y20) ∧ ∃ fs29 : List Value, Hs X16 y18 (.inr (0, fs29)) ∧ wp_X0_sailBy (fun r22 X21 => ∃ (fs23 : List Value) (y24 : Nat), Hs X21 v0 (.inr (9, fs23)) ∧ fs23[5]? = some (.ref y24) ∧ ∃ (fs25 : List Value) (y26 : Nat), Hs X21 y24 (.inr (0, fs25)) ∧ fs25[1]? = some (.ref y26) ∧ ∃ fs28 : List Value, Hs X21 y26 (.inr (7, fs28)) ∧ wp_X7_struckBy (fun r27 => post r27 X21)  X21 y26 v4)  X16 y18 y20)  X y15 y2 v2 v3) ∧ (¬ r12 = (-6 : Int32) → post (-5 : Int32) X))  X y11) ∧ (r8 = 0 → post (-2 : Int32) X))  X v4 (0 : Int32) (9999 : Int32)))  X v3))  X v2))  X v0 v1
set_option maxHeartbeats 4000000 in
set_option maxRecDepth 100000 in
theorem c_X9_draw (l : Launch) (D : va_G) (kA : Nat → ClassId) (post : Int32 → Hp → Prop) (X : Hp) (sz : Nat) (v0 : Nat) (v1 : Int32) (v2 : Int32) (v3 : Int32) (v4 : Int32) (h : wp_X9_draw post X v0 v1 v2 v3 v4) : Met l yX9_draw (.code yX9_draw cX9_draw 6 (some .int) :: gd) (rmO 5 0 0 117) (va_Pc [Value.ref v0, Value.int v1, Value.int v2, Value.int v3, Value.int v4] (PreM D kA X sz)) (va_Qi post (PoM D kA X sz) (va_A (hw kA X) sz)) 0 0 (va_A (hw kA X) sz) := by
  unfold wp_X9_draw at h
  refine x_enM (by decide) (Nat.le_of_ble_eq_true rfl) ?_
  intro p e s m below meth c G hr hlk hin hsz hA S ls hl
  obtain ⟨hx, hb, hml, hown, hts, hE, hK⟩ := id G
  have hl : lv_has ls 6 [(0, .ref v0), (1, .int v1), (2, .int v2), (3, .int v3), (4, .int v4)] := hl
  refine lv_aload_n hx hb dX9_draw_0 rfl (lv_at hl 0 rfl) ?_
  refine lv_iload_n hx hb dX9_draw_1 rfl (lv_at hl 1 rfl) ?_
  obtain ⟨fs32, hfs32, h⟩ := h
  refine x_cRVq (As := [.int v1]) (rest := []) G S.1 hfs32 rfl rfl (c_X9_wayOf l D kA _ _ v0 v1 h) cd_X9_wayOf ml_X9_95 ⟨(Nat.le_of_ble_eq_true rfl), (Nat.le_of_ble_eq_true rfl)⟩ rfl hl.1 rfl (Nat.le_of_ble_eq_true rfl) dX9_draw_2 ⟨Nat.zero_le _, Nat.zero_le _⟩ (fun r1 h => ?_)
  refine x_spl (fun c3 => ?_) (fun y2 c3 => ?_)
  · have h := h.1 c3
    refine lv_astoreN (lv' := [(5, .null), (0, .ref v0), (1, .int v1), (2, .int v2), (3, .int v3), (4, .int v4)]) hx hb dX9_draw_5 hl (by decide) rfl (fun ls hl => ?_)
    refine lv_aloadN hx hb dX9_draw_7 (lv_at hl 0 rfl) ?_
    refine lv_ifnonnullN hx hb dX9_draw_9 ?_
    refine lv_iconst (v := (-1 : Int32)) hx hb dX9_draw_12 (by decide) ?_
    exact x_iretM G hr hlk S (Nat.le_refl _) (Nat.le_refl _) h dX9_draw_13
  · have h := h.2 y2 c3
    refine lv_astore (lv' := [(5, .ref y2), (0, .ref v0), (1, .int v1), (2, .int v2), (3, .int v3), (4, .int v4)]) hx hb dX9_draw_5 hl (by decide) rfl (fun ls hl => ?_)
    refine lv_aload hx hb dX9_draw_7 (lv_at hl 0 rfl) ?_
    refine lv_ifnonnull (tgt := 14) hx hb dX9_draw_9 (by decide) ?_
    refine lv_iload_n hx hb dX9_draw_14 rfl (lv_at hl 3 rfl) ?_
    refine x_cRSi (As := [.int v2]) (rest := []) G S.1 (c_X9_isOwed l D kA _ _ v2 h) cd_X9_isOwed ml_X9_131 ⟨(Nat.le_of_ble_eq_true rfl), (Nat.le_of_ble_eq_true rfl)⟩ rfl hl.1 rfl (Nat.le_of_ble_eq_true rfl) dX9_draw_15 ⟨Nat.zero_le _, Nat.zero_le _⟩ (fun r4 h => ?_)
    refine lv_if_eq (tgt := 40) hx hb dX9_draw_18 (by decide) (fun c5 => ?_) (fun c5 => ?_)
    · have h := h.1 c5
      refine lv_bipush (v := (-2 : Int32)) hx hb dX9_draw_40 (by decide) ?_
      exact x_iretM G hr hlk S (Nat.le_refl _) (Nat.le_refl _) h dX9_draw_42
    · have h := h.2 c5
      refine lv_iload_n hx hb dX9_draw_21 rfl (lv_at hl 4 rfl) ?_
      refine x_cRSi (As := [.int v3]) (rest := []) G S.1 (c_X9_isBattery l D kA _ _ v3 h) cd_X9_isBattery ml_X9_161 ⟨(Nat.le_of_ble_eq_true rfl), (Nat.le_of_ble_eq_true rfl)⟩ rfl hl.1 rfl (Nat.le_of_ble_eq_true rfl) dX9_draw_22 ⟨Nat.zero_le _, Nat.zero_le _⟩ (fun r6 h => ?_)
      refine lv_if_eq (tgt := 40) hx hb dX9_draw_25 (by decide) (fun c7 => ?_) (fun c7 => ?_)
      · have h := h.1 c7
        refine lv_bipush (v := (-2 : Int32)) hx hb dX9_draw_40 (by decide) ?_
        exact x_iretM G hr hlk S (Nat.le_refl _) (Nat.le_refl _) h dX9_draw_42
      · have h := h.2 c7
        refine lv_iload hx hb dX9_draw_28 (lv_at hl 5 rfl) ?_
        refine lv_iconst (v := (0 : Int32)) hx hb dX9_draw_30 (by decide) ?_
        refine lv_sipush (v := (9999 : Int32)) hx hb dX9_draw_31 (by decide) ?_
        refine x_cRSi (As := [.int v4, .int (0 : Int32), .int (9999 : Int32)]) (rest := []) G S.1 (c_X9_within l D kA _ _ v4 (0 : Int32) (9999 : Int32) h) cd_X9_within ml_X9_64 ⟨(Nat.le_of_ble_eq_true rfl), (Nat.le_of_ble_eq_true rfl)⟩ rfl hl.1 rfl (Nat.le_of_ble_eq_true rfl) dX9_draw_34 ⟨Nat.zero_le _, Nat.zero_le _⟩ (fun r8 h => ?_)
        refine lv_if_ne (tgt := 43) hx hb dX9_draw_37 (by decide) (fun c9 => ?_) (fun c9 => ?_)
        · have h := h.1 c9
          refine lv_aload_n hx hb dX9_draw_43 rfl (lv_at hl 1 rfl) ?_
          obtain ⟨fs10, y11, hfs10, hvfs10, h⟩ := h
          refine x_get G S.1 hfs10 hvfs10 fl_X9_47 dX9_draw_44 ?_
          obtain ⟨fs31, hfs31, h⟩ := h
          refine x_cRVi (As := []) (rest := []) G S.1 hfs31 rfl rfl (c_X3_faultPlace l D kA _ _ y11 h) cd_X3_faultPlace ml_X9_157 ⟨(Nat.le_of_ble_eq_true rfl), (Nat.le_of_ble_eq_true rfl)⟩ rfl hl.1 rfl (Nat.le_of_ble_eq_true rfl) dX9_draw_47 ⟨Nat.zero_le _, Nat.zero_le _⟩ (fun r12 h => ?_)
          refine lv_bipush (v := (-6 : Int32)) hx hb dX9_draw_50 (by decide) ?_
          refine lv_icmp_eq (tgt := 58) hx hb dX9_draw_52 (by decide) (fun c13 => ?_) (fun c13 => ?_)
          · have h := h.1 c13
            refine lv_aload_n hx hb dX9_draw_58 rfl (lv_at hl 1 rfl) ?_
            obtain ⟨fs14, y15, hfs14, hvfs14, h⟩ := h
            refine x_get G S.1 hfs14 hvfs14 fl_X9_56 dX9_draw_59 ?_
            refine lv_aload hx hb dX9_draw_62 (lv_at hl 0 rfl) ?_
            refine lv_iload_n hx hb dX9_draw_64 rfl (lv_at hl 3 rfl) ?_
            refine lv_iload_n hx hb dX9_draw_65 rfl (lv_at hl 4 rfl) ?_
            obtain ⟨fs30, hfs30, h⟩ := h
            refine x_cMVv (As := [.ref y2, .int v2, .int v3]) (rest := []) G S hA hfs30 rfl rfl (c_X0_setOut l D kA _ _ _ y15 y2 v2 v3 h) cd_X0_setOut ml_X9_164 ⟨(Nat.le_of_ble_eq_true rfl), (Nat.le_of_ble_eq_true rfl)⟩ rfl hl.1 rfl (Nat.le_of_ble_eq_true rfl) dX9_draw_66 ⟨Nat.zero_le _, Nat.zero_le _⟩ (fun X H locs h S => ?_)
            refine lv_aload_n hx hb dX9_draw_69 rfl (lv_at hl 1 rfl) ?_
            obtain ⟨fs17, y18, hfs17, hvfs17, h⟩ := h
            refine x_get G S.1 hfs17 hvfs17 fl_X9_56 dX9_draw_70 ?_
            refine lv_aload_n hx hb dX9_draw_73 rfl (lv_at hl 1 rfl) ?_
            obtain ⟨fs19, y20, hfs19, hvfs19, h⟩ := h
            refine x_get G S.1 hfs19 hvfs19 fl_X9_47 dX9_draw_74 ?_
            obtain ⟨fs29, hfs29, h⟩ := h
            refine x_cMVi (As := [.ref y20]) (rest := []) G S hA hfs29 rfl rfl (c_X0_sailBy l D kA _ _ _ y18 y20 h) cd_X0_sailBy ml_X9_168 ⟨(Nat.le_of_ble_eq_true rfl), (Nat.le_of_ble_eq_true rfl)⟩ rfl hl.1 rfl (Nat.le_of_ble_eq_true rfl) dX9_draw_77 ⟨Nat.zero_le _, Nat.zero_le _⟩ (fun r22 X H locs h S => ?_)
            refine lv_pop hx hb dX9_draw_80 rfl ?_
            refine lv_aload_n hx hb dX9_draw_81 rfl (lv_at hl 1 rfl) ?_
            obtain ⟨fs23, y24, hfs23, hvfs23, h⟩ := h
            refine x_get G S.1 hfs23 hvfs23 fl_X9_56 dX9_draw_82 ?_
            obtain ⟨fs25, y26, hfs25, hvfs25, h⟩ := h
            refine x_get G S.1 hfs25 hvfs25 fl_X9_172 dX9_draw_85 ?_
            refine lv_iload hx hb dX9_draw_88 (lv_at hl 5 rfl) ?_
            obtain ⟨fs28, hfs28, h⟩ := h
            refine x_cRVi (As := [.int v4]) (rest := []) G S.1 hfs28 rfl rfl (c_X7_struckBy l D kA _ _ y26 v4 h) cd_X7_struckBy ml_X9_225 ⟨(Nat.le_of_ble_eq_true rfl), (Nat.le_of_ble_eq_true rfl)⟩ rfl hl.1 rfl (Nat.le_of_ble_eq_true rfl) dX9_draw_90 ⟨Nat.zero_le _, Nat.zero_le _⟩ (fun r27 h => ?_)
            exact x_iretM G hr hlk S (Nat.le_refl _) (Nat.le_refl _) h dX9_draw_93
          · have h := h.2 c13
            refine lv_bipush (v := (-5 : Int32)) hx hb dX9_draw_55 (by decide) ?_
            exact x_iretM G hr hlk S (Nat.le_refl _) (Nat.le_refl _) h dX9_draw_57
        · have h := h.2 c9
          refine lv_bipush (v := (-2 : Int32)) hx hb dX9_draw_40 (by decide) ?_
          exact x_iretM G hr hlk S (Nat.le_refl _) (Nat.le_refl _) h dX9_draw_42
def wp_X9_image (post : Int32 → Hp → Prop) (X : Hp) (v0 : Nat) (v1 : Int32) : Prop := wp_X9_within (fun r1 => (¬ r1 = 0 → ∃ (fs3 : List Value) (y4 : Nat), Hs X v0 (.inr (9, fs3)) ∧ fs3[1]? = some (.ref y4) ∧ ∃ (n5 : Nat) (f6 : Nat → Option Nat) (y7 : Nat), Hs X y4 (.inl (2, n5, qA f6)) ∧ vp_in v1 n5 ∧ f6 v1.toNatClampNeg = some y7 ∧ ∃ (fs8 : List Value) (y9 : Nat), Hs X v0 (.inr (9, fs8)) ∧ fs8[0]? = some (.ref y9) ∧ ∃ fs16 : List Value, Hs X y7 (.inr (1, fs16)) ∧ wp_X1_copy (fun X10 => ∃ (fs11 : List Value) (y12 : Nat), Hs X10 v0 (.inr (9, fs11)) ∧ fs11[2]? = some (.ref y12) ∧ ∃ (n13 : Nat) (f14 : Nat → Int32), Hs X10 y12 (.inl (1, n13, .inl f14)) ∧ vp_in v1 n13 ∧ ∀ X15 : Hp, X15 = hput X10 y12 (.inl (1, n13, .inl (upd f14 v1.toNatClampNeg (vp_nar .boolean (1 : Int32))))) → post (1 : Int32) X15)  X y7 y9) ∧ (r1 = 0 → post (-2 : Int32) X))  X v1 (0 : Int32) (1 : Int32)
set_option maxHeartbeats 4000000 in
set_option maxRecDepth 100000 in
theorem c_X9_image (l : Launch) (D : va_G) (kA : Nat → ClassId) (post : Int32 → Hp → Prop) (X : Hp) (sz : Nat) (v0 : Nat) (v1 : Int32) (h : wp_X9_image post X v0 v1) : Met l yX9_image (.code yX9_image cX9_image 2 (some .int) :: gd) (rmO 3 0 0 103) (va_Pc [Value.ref v0, Value.int v1] (PreM D kA X sz)) (va_Qi post (PoM D kA X sz) (va_A (hw kA X) sz)) 0 0 (va_A (hw kA X) sz) := by
  unfold wp_X9_image at h
  refine x_enM (by decide) (Nat.le_of_ble_eq_true rfl) ?_
  intro p e s m below meth c G hr hlk hin hsz hA S ls hl
  obtain ⟨hx, hb, hml, hown, hts, hE, hK⟩ := id G
  have hl : lv_has ls 2 [(0, .ref v0), (1, .int v1)] := hl
  refine lv_iload_n hx hb dX9_image_0 rfl (lv_at hl 1 rfl) ?_
  refine lv_iconst (v := (0 : Int32)) hx hb dX9_image_1 (by decide) ?_
  refine lv_iconst (v := (1 : Int32)) hx hb dX9_image_2 (by decide) ?_
  refine x_cRSi (As := [.int v1, .int (0 : Int32), .int (1 : Int32)]) (rest := []) G S.1 (c_X9_within l D kA _ _ v1 (0 : Int32) (1 : Int32) h) cd_X9_within ml_X9_64 ⟨(Nat.le_of_ble_eq_true rfl), (Nat.le_of_ble_eq_true rfl)⟩ rfl hl.1 rfl (Nat.le_of_ble_eq_true rfl) dX9_image_3 ⟨Nat.zero_le _, Nat.zero_le _⟩ (fun r1 h => ?_)
  refine lv_if_ne (tgt := 12) hx hb dX9_image_6 (by decide) (fun c2 => ?_) (fun c2 => ?_)
  · have h := h.1 c2
    refine lv_aload_n hx hb dX9_image_12 rfl (lv_at hl 0 rfl) ?_
    obtain ⟨fs3, y4, hfs3, hvfs3, h⟩ := h
    refine x_get G S.1 hfs3 hvfs3 fl_X9_16 dX9_image_13 ?_
    refine lv_iload_n hx hb dX9_image_16 rfl (lv_at hl 1 rfl) ?_
    obtain ⟨n5, f6, y7, hf6, hif6, hqf6, h⟩ := h
    refine x_aald (C := "NapVoyage$Chart") G S.1 hf6 rfl hif6 dX9_image_17 ?_
    refine x_som hqf6 ?_
    refine lv_aload_n hx hb dX9_image_18 rfl (lv_at hl 0 rfl) ?_
    obtain ⟨fs8, y9, hfs8, hvfs8, h⟩ := h
    refine x_get G S.1 hfs8 hvfs8 fl_X9_12 dX9_image_19 ?_
    obtain ⟨fs16, hfs16, h⟩ := h
    refine x_cMVv (As := [.ref y9]) (rest := []) G S hA hfs16 rfl rfl (c_X1_copy l D kA _ _ _ y7 y9 h) cd_X1_copy ml_X9_228 ⟨(Nat.le_of_ble_eq_true rfl), (Nat.le_of_ble_eq_true rfl)⟩ rfl hl.1 rfl (Nat.le_of_ble_eq_true rfl) dX9_image_22 ⟨Nat.zero_le _, Nat.zero_le _⟩ (fun X H locs h S => ?_)
    refine lv_aload_n hx hb dX9_image_25 rfl (lv_at hl 0 rfl) ?_
    obtain ⟨fs11, y12, hfs11, hvfs11, h⟩ := h
    refine x_get G S.1 hfs11 hvfs11 fl_X9_20 dX9_image_26 ?_
    refine lv_iload_n hx hb dX9_image_29 rfl (lv_at hl 1 rfl) ?_
    refine lv_iconst (v := (1 : Int32)) hx hb dX9_image_30 (by decide) ?_
    obtain ⟨n13, f14, hf14, hif14, h⟩ := h
    have h := h _ rfl
    refine x_zast G S hf14 hif14 dX9_image_31 (fun H locs S => ?_)
    refine lv_iconst (v := (1 : Int32)) hx hb dX9_image_32 (by decide) ?_
    exact x_iretM G hr hlk S (Nat.le_refl _) (Nat.le_refl _) h dX9_image_33
  · have h := h.2 c2
    refine lv_bipush (v := (-2 : Int32)) hx hb dX9_image_9 (by decide) ?_
    exact x_iretM G hr hlk S (Nat.le_refl _) (Nat.le_refl _) h dX9_image_11
def wp_X9_restore (post : Int32 → Hp → Prop) (X : Hp) (v0 : Nat) (v1 : Int32) : Prop := wp_X9_within (fun r1 => (¬ r1 = 0 → ∃ (fs3 : List Value) (y4 : Nat), Hs X v0 (.inr (9, fs3)) ∧ fs3[2]? = some (.ref y4) ∧ ∃ (n5 : Nat) (f6 : Nat → Int32), Hs X y4 (.inl (1, n5, .inl f6)) ∧ vp_in v1 n5 ∧ (¬ (f6 v1.toNatClampNeg) = 0 → ∃ (fs8 : List Value) (y9 : Nat), Hs X v0 (.inr (9, fs8)) ∧ fs8[0]? = some (.ref y9) ∧ ∃ (fs10 : List Value) (y11 : Nat), Hs X v0 (.inr (9, fs10)) ∧ fs10[1]? = some (.ref y11) ∧ ∃ (n12 : Nat) (f13 : Nat → Option Nat) (y14 : Nat), Hs X y11 (.inl (2, n12, qA f13)) ∧ vp_in v1 n12 ∧ f13 v1.toNatClampNeg = some y14 ∧ ∃ fs18 : List Value, Hs X y9 (.inr (1, fs18)) ∧ wp_X1_copy (fun X15 => ∃ fs17 : List Value, Hs X15 v0 (.inr (9, fs17)) ∧ wp_X9_forgetPlans (fun X16 => post (1 : Int32) X16)  X15 v0)  X y9 y14) ∧ ((f6 v1.toNatClampNeg) = 0 → post (-3 : Int32) X)) ∧ (r1 = 0 → post (-2 : Int32) X))  X v1 (0 : Int32) (1 : Int32)
set_option maxHeartbeats 4000000 in
set_option maxRecDepth 100000 in
theorem c_X9_restore (l : Launch) (D : va_G) (kA : Nat → ClassId) (post : Int32 → Hp → Prop) (X : Hp) (sz : Nat) (v0 : Nat) (v1 : Int32) (h : wp_X9_restore post X v0 v1) : Met l yX9_restore (.code yX9_restore cX9_restore 2 (some .int) :: gd) (rmO 3 0 0 103) (va_Pc [Value.ref v0, Value.int v1] (PreM D kA X sz)) (va_Qi post (PoM D kA X sz) (va_A (hw kA X) sz)) 0 0 (va_A (hw kA X) sz) := by
  unfold wp_X9_restore at h
  refine x_enM (by decide) (Nat.le_of_ble_eq_true rfl) ?_
  intro p e s m below meth c G hr hlk hin hsz hA S ls hl
  obtain ⟨hx, hb, hml, hown, hts, hE, hK⟩ := id G
  have hl : lv_has ls 2 [(0, .ref v0), (1, .int v1)] := hl
  refine lv_iload_n hx hb dX9_restore_0 rfl (lv_at hl 1 rfl) ?_
  refine lv_iconst (v := (0 : Int32)) hx hb dX9_restore_1 (by decide) ?_
  refine lv_iconst (v := (1 : Int32)) hx hb dX9_restore_2 (by decide) ?_
  refine x_cRSi (As := [.int v1, .int (0 : Int32), .int (1 : Int32)]) (rest := []) G S.1 (c_X9_within l D kA _ _ v1 (0 : Int32) (1 : Int32) h) cd_X9_within ml_X9_64 ⟨(Nat.le_of_ble_eq_true rfl), (Nat.le_of_ble_eq_true rfl)⟩ rfl hl.1 rfl (Nat.le_of_ble_eq_true rfl) dX9_restore_3 ⟨Nat.zero_le _, Nat.zero_le _⟩ (fun r1 h => ?_)
  refine lv_if_ne (tgt := 12) hx hb dX9_restore_6 (by decide) (fun c2 => ?_) (fun c2 => ?_)
  · have h := h.1 c2
    refine lv_aload_n hx hb dX9_restore_12 rfl (lv_at hl 0 rfl) ?_
    obtain ⟨fs3, y4, hfs3, hvfs3, h⟩ := h
    refine x_get G S.1 hfs3 hvfs3 fl_X9_20 dX9_restore_13 ?_
    refine lv_iload_n hx hb dX9_restore_16 rfl (lv_at hl 1 rfl) ?_
    obtain ⟨n5, f6, hf6, hif6, h⟩ := h
    refine x_zald G S.1 hf6 hif6 dX9_restore_17 ?_
    refine lv_if_ne (tgt := 24) hx hb dX9_restore_18 (by decide) (fun c7 => ?_) (fun c7 => ?_)
    · have h := h.1 c7
      refine lv_aload_n hx hb dX9_restore_24 rfl (lv_at hl 0 rfl) ?_
      obtain ⟨fs8, y9, hfs8, hvfs8, h⟩ := h
      refine x_get G S.1 hfs8 hvfs8 fl_X9_12 dX9_restore_25 ?_
      refine lv_aload_n hx hb dX9_restore_28 rfl (lv_at hl 0 rfl) ?_
      obtain ⟨fs10, y11, hfs10, hvfs10, h⟩ := h
      refine x_get G S.1 hfs10 hvfs10 fl_X9_16 dX9_restore_29 ?_
      refine lv_iload_n hx hb dX9_restore_32 rfl (lv_at hl 1 rfl) ?_
      obtain ⟨n12, f13, y14, hf13, hif13, hqf13, h⟩ := h
      refine x_aald (C := "NapVoyage$Chart") G S.1 hf13 rfl hif13 dX9_restore_33 ?_
      refine x_som hqf13 ?_
      obtain ⟨fs18, hfs18, h⟩ := h
      refine x_cMVv (As := [.ref y14]) (rest := []) G S hA hfs18 rfl rfl (c_X1_copy l D kA _ _ _ y9 y14 h) cd_X1_copy ml_X9_228 ⟨(Nat.le_of_ble_eq_true rfl), (Nat.le_of_ble_eq_true rfl)⟩ rfl hl.1 rfl (Nat.le_of_ble_eq_true rfl) dX9_restore_34 ⟨Nat.zero_le _, Nat.zero_le _⟩ (fun X H locs h S => ?_)
      refine lv_aload_n hx hb dX9_restore_37 rfl (lv_at hl 0 rfl) ?_
      obtain ⟨fs17, hfs17, h⟩ := h
      refine x_cMVv (As := []) (rest := []) G S hA hfs17 rfl rfl (c_X9_forgetPlans l D kA _ _ _ v0 h) cd_X9_forgetPlans ml_X9_125 ⟨(Nat.le_of_ble_eq_true rfl), (Nat.le_of_ble_eq_true rfl)⟩ rfl hl.1 rfl (Nat.le_of_ble_eq_true rfl) dX9_restore_38 ⟨Nat.zero_le _, Nat.zero_le _⟩ (fun X H locs h S => ?_)
      refine lv_iconst (v := (1 : Int32)) hx hb dX9_restore_41 (by decide) ?_
      exact x_iretM G hr hlk S (Nat.le_refl _) (Nat.le_refl _) h dX9_restore_42
    · have h := h.2 c7
      refine lv_bipush (v := (-3 : Int32)) hx hb dX9_restore_21 (by decide) ?_
      exact x_iretM G hr hlk S (Nat.le_refl _) (Nat.le_refl _) h dX9_restore_23
  · have h := h.2 c2
    refine lv_bipush (v := (-2 : Int32)) hx hb dX9_restore_9 (by decide) ?_
    exact x_iretM G hr hlk S (Nat.le_refl _) (Nat.le_refl _) h dX9_restore_11
def wp_X9_told (post : Int32 → Prop) (X : Hp) (v0 : Nat) (v1 : Int32) : Prop := wp_X9_within (fun r1 => (¬ r1 = 0 → (¬ v1 = 0 → ((2 : Int32) < v1 → ((4 : Int32) < v1 → ((7 : Int32) < v1 → ∃ (fs7 : List Value) (y8 : Nat), Hs X v0 (.inr (9, fs7)) ∧ fs7[0]? = some (.ref y8) ∧ ∃ (fs9 : List Value) (y10 : Nat), Hs X y8 (.inr (1, fs9)) ∧ fs9[1]? = some (.ref y10) ∧ ∃ (fs11 : List Value) (y12 : Nat), Hs X y10 (.inr (2, fs11)) ∧ fs11[1]? = some (.ref y12) ∧ ∃ (n13 : Nat) (f14 : Nat → Int32), Hs X y12 (.inl (0, n13, .inl f14)) ∧ vp_in (v1 - (7 : Int32)) n13 ∧ post (f14 (v1 - (7 : Int32)).toNatClampNeg)) ∧ (¬ (7 : Int32) < v1 → ∃ (fs15 : List Value) (y16 : Nat), Hs X v0 (.inr (9, fs15)) ∧ fs15[0]? = some (.ref y16) ∧ ∃ (fs17 : List Value) (y18 : Nat), Hs X y16 (.inr (1, fs17)) ∧ fs17[1]? = some (.ref y18) ∧ ∃ (fs19 : List Value) (y20 : Nat), Hs X y18 (.inr (2, fs19)) ∧ fs19[0]? = some (.ref y20) ∧ ∃ (n21 : Nat) (f22 : Nat → Int32), Hs X y20 (.inl (0, n21, .inl f22)) ∧ vp_in (v1 - (4 : Int32)) n21 ∧ post (f22 (v1 - (4 : Int32)).toNatClampNeg))) ∧ (¬ (4 : Int32) < v1 → ∃ (fs23 : List Value) (y24 : Nat), Hs X v0 (.inr (9, fs23)) ∧ fs23[0]? = some (.ref y24) ∧ ∃ (fs25 : List Value) (y26 : Nat), Hs X y24 (.inr (1, fs25)) ∧ fs25[0]? = some (.ref y26) ∧ ∃ (n27 : Nat) (f28 : Nat → Option Nat) (y29 : Nat), Hs X y26 (.inl (5, n27, qA f28)) ∧ vp_in (v1 - (3 : Int32)) n27 ∧ f28 (v1 - (3 : Int32)).toNatClampNeg = some y29 ∧ ∃ (fs30 : List Value) (y31 : Int32), Hs X y29 (.inr (8, fs30)) ∧ fs30[1]? = some (.int y31) ∧ post y31)) ∧ (¬ (2 : Int32) < v1 → ∃ (fs32 : List Value) (y33 : Nat), Hs X v0 (.inr (9, fs32)) ∧ fs32[0]? = some (.ref y33) ∧ ∃ (fs34 : List Value) (y35 : Nat), Hs X y33 (.inr (1, fs34)) ∧ fs34[0]? = some (.ref y35) ∧ ∃ (n36 : Nat) (f37 : Nat → Option Nat) (y38 : Nat), Hs X y35 (.inl (5, n36, qA f37)) ∧ vp_in (v1 - (1 : Int32)) n36 ∧ f37 (v1 - (1 : Int32)).toNatClampNeg = some y38 ∧ ∃ (fs39 : List Value) (y40 : Int32), Hs X y38 (.inr (8, fs39)) ∧ fs39[0]? = some (.int y40) ∧ post y40)) ∧ (v1 = 0 → ∃ (fs41 : List Value) (y42 : Nat), Hs X v0 (.inr (9, fs41)) ∧ fs41[4]? = some (.ref y42) ∧ ∃ (fs43 : List Value) (y44 : Int32), Hs X y42 (.inr (3, fs43)) ∧ fs43[0]? = some (.int y44) ∧ post y44)) ∧ (r1 = 0 → post (-2 : Int32)))  X v1 (0 : Int32) (10 : Int32)
set_option maxHeartbeats 4000000 in
set_option maxRecDepth 100000 in
theorem c_X9_told (l : Launch) (D : va_G) (kA : Nat → ClassId) (post : Int32 → Prop) (X : Hp) (v0 : Nat) (v1 : Int32) (h : wp_X9_told post X v0 v1) : Met l yX9_told (.code yX9_told cX9_told 2 (some .int) :: gd) (rmO 1 0 0 22) (va_Pc [Value.ref v0, Value.int v1] (Pre D kA X)) (vp_Si post) 0 0 (fun _ => False) := by
  unfold wp_X9_told at h
  refine x_enR (by decide) (Nat.le_of_ble_eq_true rfl) ?_
  intro p e s m below meth c G hr hlk hP ls hl
  obtain ⟨hx, hb, hml, hown, hts, hE, hK⟩ := id G
  have hl : lv_has ls 2 [(0, .ref v0), (1, .int v1)] := hl
  refine lv_iload_n hx hb dX9_told_0 rfl (lv_at hl 1 rfl) ?_
  refine lv_iconst (v := (0 : Int32)) hx hb dX9_told_1 (by decide) ?_
  refine lv_bipush (v := (10 : Int32)) hx hb dX9_told_2 (by decide) ?_
  refine x_cRSi (As := [.int v1, .int (0 : Int32), .int (10 : Int32)]) (rest := []) G hP (c_X9_within l D kA _ _ v1 (0 : Int32) (10 : Int32) h) cd_X9_within ml_X9_64 ⟨(Nat.le_of_ble_eq_true rfl), (Nat.le_of_ble_eq_true rfl)⟩ rfl hl.1 rfl (Nat.le_of_ble_eq_true rfl) dX9_told_4 ⟨Nat.zero_le _, Nat.zero_le _⟩ (fun r1 h => ?_)
  refine lv_if_ne (tgt := 13) hx hb dX9_told_7 (by decide) (fun c2 => ?_) (fun c2 => ?_)
  · have h := h.1 c2
    refine lv_iload_n hx hb dX9_told_13 rfl (lv_at hl 1 rfl) ?_
    refine lv_if_ne (tgt := 25) hx hb dX9_told_14 (by decide) (fun c3 => ?_) (fun c3 => ?_)
    · have h := h.1 c3
      refine lv_iload_n hx hb dX9_told_25 rfl (lv_at hl 1 rfl) ?_
      refine lv_iconst (v := (2 : Int32)) hx hb dX9_told_26 (by decide) ?_
      refine lv_icmp_gt (tgt := 45) hx hb dX9_told_27 (by decide) (fun c4 => ?_) (fun c4 => ?_)
      · have h := h.1 c4
        refine lv_iload_n hx hb dX9_told_45 rfl (lv_at hl 1 rfl) ?_
        refine lv_iconst (v := (4 : Int32)) hx hb dX9_told_46 (by decide) ?_
        refine lv_icmp_gt (tgt := 65) hx hb dX9_told_47 (by decide) (fun c5 => ?_) (fun c5 => ?_)
        · have h := h.1 c5
          refine lv_iload_n hx hb dX9_told_65 rfl (lv_at hl 1 rfl) ?_
          refine lv_bipush (v := (7 : Int32)) hx hb dX9_told_66 (by decide) ?_
          refine lv_icmp_gt (tgt := 88) hx hb dX9_told_68 (by decide) (fun c6 => ?_) (fun c6 => ?_)
          · have h := h.1 c6
            refine lv_aload_n hx hb dX9_told_88 rfl (lv_at hl 0 rfl) ?_
            obtain ⟨fs7, y8, hfs7, hvfs7, h⟩ := h
            refine x_get G hP hfs7 hvfs7 fl_X9_12 dX9_told_89 ?_
            obtain ⟨fs9, y10, hfs9, hvfs9, h⟩ := h
            refine x_get G hP hfs9 hvfs9 fl_X9_37 dX9_told_92 ?_
            obtain ⟨fs11, y12, hfs11, hvfs11, h⟩ := h
            refine x_get G hP hfs11 hvfs11 fl_X9_235 dX9_told_95 ?_
            refine lv_iload_n hx hb dX9_told_98 rfl (lv_at hl 1 rfl) ?_
            refine lv_bipush (v := (7 : Int32)) hx hb dX9_told_99 (by decide) ?_
            refine lv_isub hx hb dX9_told_101 ?_
            obtain ⟨n13, f14, hf14, hif14, h⟩ := h
            refine x_iald G hP hf14 hif14 dX9_told_102 ?_
            exact x_iretR G hr hlk h dX9_told_103
          · have h := h.2 c6
            refine lv_aload_n hx hb dX9_told_71 rfl (lv_at hl 0 rfl) ?_
            obtain ⟨fs15, y16, hfs15, hvfs15, h⟩ := h
            refine x_get G hP hfs15 hvfs15 fl_X9_12 dX9_told_72 ?_
            obtain ⟨fs17, y18, hfs17, hvfs17, h⟩ := h
            refine x_get G hP hfs17 hvfs17 fl_X9_37 dX9_told_75 ?_
            obtain ⟨fs19, y20, hfs19, hvfs19, h⟩ := h
            refine x_get G hP hfs19 hvfs19 fl_X9_232 dX9_told_78 ?_
            refine lv_iload_n hx hb dX9_told_81 rfl (lv_at hl 1 rfl) ?_
            refine lv_iconst (v := (4 : Int32)) hx hb dX9_told_82 (by decide) ?_
            refine lv_isub hx hb dX9_told_83 ?_
            obtain ⟨n21, f22, hf22, hif22, h⟩ := h
            refine x_iald G hP hf22 hif22 dX9_told_84 ?_
            refine lv_goto (tgt := 103) hx hb dX9_told_85 (by decide) ?_
            exact x_iretR G hr hlk h dX9_told_103
        · have h := h.2 c5
          refine lv_aload_n hx hb dX9_told_50 rfl (lv_at hl 0 rfl) ?_
          obtain ⟨fs23, y24, hfs23, hvfs23, h⟩ := h
          refine x_get G hP hfs23 hvfs23 fl_X9_12 dX9_told_51 ?_
          obtain ⟨fs25, y26, hfs25, hvfs25, h⟩ := h
          refine x_get G hP hfs25 hvfs25 fl_X9_33 dX9_told_54 ?_
          refine lv_iload_n hx hb dX9_told_57 rfl (lv_at hl 1 rfl) ?_
          refine lv_iconst (v := (3 : Int32)) hx hb dX9_told_58 (by decide) ?_
          refine lv_isub hx hb dX9_told_59 ?_
          obtain ⟨n27, f28, y29, hf28, hif28, hqf28, h⟩ := h
          refine x_aald (C := "NapVoyage$Way") G hP hf28 rfl hif28 dX9_told_60 ?_
          refine x_som hqf28 ?_
          obtain ⟨fs30, y31, hfs30, hvfs30, h⟩ := h
          refine x_get G hP hfs30 hvfs30 fl_X9_85 dX9_told_61 ?_
          exact x_iretR G hr hlk h dX9_told_64
      · have h := h.2 c4
        refine lv_aload_n hx hb dX9_told_30 rfl (lv_at hl 0 rfl) ?_
        obtain ⟨fs32, y33, hfs32, hvfs32, h⟩ := h
        refine x_get G hP hfs32 hvfs32 fl_X9_12 dX9_told_31 ?_
        obtain ⟨fs34, y35, hfs34, hvfs34, h⟩ := h
        refine x_get G hP hfs34 hvfs34 fl_X9_33 dX9_told_34 ?_
        refine lv_iload_n hx hb dX9_told_37 rfl (lv_at hl 1 rfl) ?_
        refine lv_iconst (v := (1 : Int32)) hx hb dX9_told_38 (by decide) ?_
        refine lv_isub hx hb dX9_told_39 ?_
        obtain ⟨n36, f37, y38, hf37, hif37, hqf37, h⟩ := h
        refine x_aald (C := "NapVoyage$Way") G hP hf37 rfl hif37 dX9_told_40 ?_
        refine x_som hqf37 ?_
        obtain ⟨fs39, y40, hfs39, hvfs39, h⟩ := h
        refine x_get G hP hfs39 hvfs39 fl_X9_89 dX9_told_41 ?_
        exact x_iretR G hr hlk h dX9_told_44
    · have h := h.2 c3
      refine lv_aload_n hx hb dX9_told_17 rfl (lv_at hl 0 rfl) ?_
      obtain ⟨fs41, y42, hfs41, hvfs41, h⟩ := h
      refine x_get G hP hfs41 hvfs41 fl_X9_47 dX9_told_18 ?_
      obtain ⟨fs43, y44, hfs43, hvfs43, h⟩ := h
      refine x_get G hP hfs43 hvfs43 fl_X9_154 dX9_told_21 ?_
      exact x_iretR G hr hlk h dX9_told_24
  · have h := h.2 c2
    refine lv_bipush (v := (-2 : Int32)) hx hb dX9_told_10 (by decide) ?_
    exact x_iretR G hr hlk h dX9_told_12
