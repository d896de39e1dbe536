def wp_X4_init (post : Hp → Prop) (mc ms : Nat) (X : Hp) (v0 : Nat) (v1 : Nat) (v2 : Nat) (v3 : Nat) : Prop := ∃ (fs1 : List Value), Hs X v0 (.inr (4, fs1)) ∧ 0 < fs1.length ∧ ∀ X2 : Hp, X2 = hput X v0 (.inr (4, fs1.set 0 (.ref v1))) → ∃ (fs3 : List Value), Hs X2 v0 (.inr (4, fs3)) ∧ 1 < fs3.length ∧ ∀ X4 : Hp, X4 = hput X2 v0 (.inr (4, fs3.set 1 (.ref v2))) → ∃ (fs5 : List Value), Hs X4 v0 (.inr (4, fs5)) ∧ 2 < fs5.length ∧ ∀ X6 : Hp, X6 = hput X4 v0 (.inr (4, fs5.set 2 (.ref v3))) → 0 + 1 ≤ mc ∧ 0 + 125 ≤ ms ∧ ∀ q7 : Nat, q7 ∉ X6.1 → ∀ X8 : Hp, X8 = hadd X6 q7 (.inl (4, 125, qA (fun _ => none))) → ∃ (fs9 : List Value), Hs X8 v0 (.inr (4, fs9)) ∧ 3 < fs9.length ∧ ∀ X10 : Hp, X10 = hput X8 v0 (.inr (4, fs9.set 3 (.ref q7))) → (0 + 1) ≤ mc ∧ (0 + 125) ≤ ms ∧ post X10
set_option maxHeartbeats 4000000 in
set_option maxRecDepth 100000 in
theorem c_X4_init (l : Launch) (D : va_G) (kA : Nat → ClassId) (post : Hp → Prop) (mc ms : Nat) (X : Hp) (sz : Nat) (v0 : Nat) (v1 : Nat) (v2 : Nat) (v3 : Nat) (h : wp_X4_init post mc ms X v0 v1 v2 v3) : Met l yX4_init (.code yX4_init cX4_init 4 none :: gd) (rmO 1 mc ms 21) (va_Pc [Value.ref v0, Value.ref v1, Value.ref v2, Value.ref v3] (PreM D kA X sz)) (va_Qv post (PoM D kA X sz) (va_A (hw kA X) sz)) mc ms (va_A (hw kA X) sz) := by
  unfold wp_X4_init at h
  refine x_enM (by decide) (Nat.le_of_ble_eq_true rfl) ?_
  intro p e s m below meth c G hr hlk hin hsz hA S ls hl
  obtain ⟨hx, hb, hml, hown, hts, hE, hK⟩ := id G
  have hl : lv_has ls 4 [(0, .ref v0), (1, .ref v1), (2, .ref v2), (3, .ref v3)] := hl
  refine lv_aload_n hx hb dX4_init_0 rfl (lv_at hl 0 rfl) ?_
  refine x_objInit G mk_X4_3 oi_ins oi_cod hl.1 dX4_init_1 (Nat.le_of_ble_eq_true rfl) (Nat.le_of_ble_eq_true rfl) ?_
  refine lv_aload_n hx hb dX4_init_4 rfl (lv_at hl 0 rfl) ?_
  refine lv_aload_n hx hb dX4_init_5 rfl (lv_at hl 1 rfl) ?_
  obtain ⟨fs1, hfs1, hkfs1, h⟩ := h
  have h := h _ rfl
  refine x_putF G hin S hfs1 hkfs1 rfl rfl ff_X4_9 dX4_init_6 (fun H locs S => ?_)
  refine lv_aload_n hx hb dX4_init_9 rfl (lv_at hl 0 rfl) ?_
  refine lv_aload_n hx hb dX4_init_10 rfl (lv_at hl 2 rfl) ?_
  obtain ⟨fs3, hfs3, hkfs3, h⟩ := h
  have h := h _ rfl
  refine x_putF G hin S hfs3 hkfs3 rfl rfl ff_X4_15 dX4_init_11 (fun H locs S => ?_)
  refine lv_aload_n hx hb dX4_init_14 rfl (lv_at hl 0 rfl) ?_
  refine lv_aload_n hx hb dX4_init_15 rfl (lv_at hl 3 rfl) ?_
  obtain ⟨fs5, hfs5, hkfs5, h⟩ := h
  have h := h _ rfl
  refine x_putF G hin S hfs5 hkfs5 rfl rfl ff_X4_19 dX4_init_16 (fun H locs S => ?_)
  refine lv_aload_n hx hb dX4_init_19 rfl (lv_at hl 0 rfl) ?_
  refine lv_bipush (v := (125 : Int32)) hx hb dX4_init_20 (by decide) ?_
  obtain ⟨hc1, hc2, h⟩ := h
  refine x_newq (t := 4) (N' := 125) G S hA kl_X4_23 ao_X5 rfl (by decide) (by decide) (Nat.le_of_ble_eq_true rfl) hc1 hc2 dX4_init_22 (fun q7 H hq7 S => ?_)
  have h := h q7 hq7 _ rfl
  obtain ⟨fs9, hfs9, hkfs9, h⟩ := h
  have h := h _ rfl
  refine x_putF G hin S hfs9 hkfs9 rfl rfl ff_X4_25 dX4_init_25 (fun H locs S => ?_)
  obtain ⟨hk1, hk2, h⟩ := h
  exact x_vretM G hr hlk S hk1 hk2 h dX4_init_28
def bk_X4_forget_31 (post : Hp → Prop) (v0 : Nat) (r_2 : Hp → Int32 → Prop) (X : Hp) (b31_1 : Int32) : Prop := ∀ x21 : Int32, x21 = b31_1 + (1 : Int32) → r_2 X x21
def bk_X4_forget_2 (post : Hp → Prop) (v0 : Nat)  : Nat → Hp → Int32 → Prop
  | 0, _, _ => False
  | k + 1, X, b2_1 => ∃ (fs2 : List Value) (y3 : Nat), Hs X v0 (.inr (4, fs2)) ∧ fs2[3]? = some (.ref y3) ∧ ∃ (n4 : Nat) (z5 : (Nat → Int32) ⊕ (Nat → Int64) ⊕ (Nat → UInt32) ⊕ (Nat → UInt64) ⊕ (Nat → Option Nat)), Hs X y3 (.inl (4, n4, z5)) ∧ ((nI n4) ≤ b2_1 → post X) ∧ (¬ (nI n4) ≤ b2_1 → ∃ (fs7 : List Value) (y8 : Nat), Hs X v0 (.inr (4, fs7)) ∧ fs7[3]? = some (.ref y8) ∧ ∃ (n9 : Nat) (f10 : Nat → Option Nat), Hs X y8 (.inl (4, n9, qA f10)) ∧ vp_in b2_1 n9 ∧ (f10 b2_1.toNatClampNeg = none → bk_X4_forget_31 post v0 (bk_X4_forget_2 post v0 k) X b2_1) ∧ (∀ y11 : Nat, f10 b2_1.toNatClampNeg = some y11 → ∃ (fs12 : List Value) (y13 : Nat), Hs X v0 (.inr (4, fs12)) ∧ fs12[3]? = some (.ref y13) ∧ ∃ (n14 : Nat) (f15 : Nat → Option Nat), Hs X y13 (.inl (4, n14, qA f15)) ∧ vp_in b2_1 n14 ∧ (f15 b2_1.toNatClampNeg = none → False) ∧ (∀ y16 : Nat, f15 b2_1.toNatClampNeg = some y16 → ∃ (fs17 : List Value), Hs X y16 (.inr (5, fs17)) ∧ 0 < fs17.length ∧ ∀ X18 : Hp, X18 = hput X y16 (.inr (5, fs17.set 0 (.int (49 : Int32)))) → bk_X4_forget_31 post v0 (bk_X4_forget_2 post v0 k) X18 b2_1)))
def wp_X4_forget (post : Hp → Prop) (X : Hp) (v0 : Nat) : Prop := ∃ n1 : Nat, bk_X4_forget_2 post v0 n1 X (0 : Int32)
set_option maxHeartbeats 4000000 in
set_option maxRecDepth 100000 in
theorem c_X4_forget (l : Launch) (D : va_G) (kA : Nat → ClassId) (post : Hp → Prop) (X : Hp) (sz : Nat) (v0 : Nat) (h : wp_X4_forget post X v0) : Met l yX4_forget (.code yX4_forget cX4_forget 2 none :: gd) (rmO 0 0 0 0) (va_Pc [Value.ref v0] (PreM D kA X sz)) (va_Qv post (PoM D kA X sz) (va_A (hw kA X) sz)) 0 0 (va_A (hw kA X) sz) := by
  unfold wp_X4_forget at h
  refine x_enM (by decide) (Nat.le_of_ble_eq_true rfl) ?_
  intro p e s m below meth c G hr hlk hin hsz hA S ls hl
  obtain ⟨hx, hb, hml, hown, hts, hE, hK⟩ := id G
  have hl : lv_has ls 2 [(0, .ref v0)] := hl
  obtain ⟨X0, hX0⟩ : ∃ Y : Hp, Y = X := ⟨_, rfl⟩
  subst hX0
  have J_2 : ∀ (n : Nat) (X : Hp) (b2_1 : Int32), ∀ (H : Heap) (locs : List Loc) (_ : bk_X4_forget_2 post v0  n X b2_1), Sx D kA (va_A (hw kA X0) sz) s.heap H locs X → ∀ ls, lv_has ls 2 [(0, .ref v0), (1, .int b2_1)] → W p l e (rmO 0 0 0 0) s m [Value.ref v0].toArray below meth c H locs 0 0 (MQ below (va_Qv post (PoM D kA X0 sz) (va_A (hw kA X0) sz)) [Value.ref v0].toArray s 0 0 (va_A (hw kA X0) sz)) (F0 m 2 ls []) := by
    intro n
    induction n with
    | zero =>
      intro X b2_1 H locs h S ls hl
      rw [bk_X4_forget_2] at h
      exact h.elim
    | succ n_2 ih_2 =>
      have J_31 : ∀ (X : Hp) (b31_1 : Int32), ∀ (H : Heap) (locs : List Loc) (_ : bk_X4_forget_31 post v0 (bk_X4_forget_2 post v0 n_2) X b31_1), Sx D kA (va_A (hw kA X0) sz) s.heap H locs X → ∀ ls, lv_has ls 2 [(0, .ref v0), (1, .int b31_1)] → W p l e (rmO 0 0 0 0) s m [Value.ref v0].toArray below meth c H locs 0 0 (MQ below (va_Qv post (PoM D kA X0 sz) (va_A (hw kA X0) sz)) [Value.ref v0].toArray s 0 0 (va_A (hw kA X0) sz)) (F0 m 31 ls []) := by
        intro X b31_1 H locs h S ls hl
        unfold bk_X4_forget_31 at h
        obtain ⟨x21, ex21⟩ : ∃ y : Int32, y = b31_1 + (1 : Int32) := ⟨_, rfl⟩
        have h := h x21 ex21
        refine lv_iinc (v := x21) (lv' := [(1, .int x21), (0, .ref v0)]) hx hb dX4_forget_31 hl (k := 1) rfl (by rw [ex21]; rfl) (by decide) rfl (fun ls hl => ?_)
        refine lv_goto (tgt := 2) hx hb dX4_forget_34 (by decide) ?_
        exact ih_2 _ _ _ _ h S ls (lv_sub hl [1, 0] rfl)
      intro X b2_1 H locs h S ls hl
      rw [bk_X4_forget_2] at h
      refine lv_iload_n hx hb dX4_forget_2 rfl (lv_at hl 1 rfl) ?_
      refine lv_aload_n hx hb dX4_forget_3 rfl (lv_at hl 0 rfl) ?_
      obtain ⟨fs2, y3, hfs2, hvfs2, h⟩ := h
      refine x_get G S.1 hfs2 hvfs2 fl_X4_25 dX4_forget_4 ?_
      obtain ⟨n4, z5, hz5, h⟩ := h
      refine x_alen G S.1 hz5 rfl dX4_forget_7 ?_
      refine lv_icmp_ge (tgt := 37) hx hb dX4_forget_8 (by decide) (fun c6 => ?_) (fun c6 => ?_)
      · have h := h.1 c6
        exact x_vretM G hr hlk S (Nat.le_refl _) (Nat.le_refl _) h dX4_forget_37
      · have h := h.2 c6
        refine lv_aload_n hx hb dX4_forget_11 rfl (lv_at hl 0 rfl) ?_
        obtain ⟨fs7, y8, hfs7, hvfs7, h⟩ := h
        refine x_get G S.1 hfs7 hvfs7 fl_X4_25 dX4_forget_12 ?_
        refine lv_iload_n hx hb dX4_forget_15 rfl (lv_at hl 1 rfl) ?_
        obtain ⟨n9, f10, hf10, hif10, h⟩ := h
        refine x_aald (C := "NapVoyage$Plane") G S.1 hf10 rfl hif10 dX4_forget_16 ?_
        refine x_spl (fun c20 => ?_) (fun y11 c20 => ?_)
        · have h := h.1 c20
          refine lv_ifnullN (tgt := 31) hx hb dX4_forget_17 (by decide) ?_
          exact J_31 _ _ _ _ h S ls (lv_sub hl [0, 1] rfl)
        · have h := h.2 y11 c20
          refine lv_ifnull hx hb dX4_forget_17 ?_
          refine lv_aload_n hx hb dX4_forget_20 rfl (lv_at hl 0 rfl) ?_
          obtain ⟨fs12, y13, hfs12, hvfs12, h⟩ := h
          refine x_get G S.1 hfs12 hvfs12 fl_X4_25 dX4_forget_21 ?_
          refine lv_iload_n hx hb dX4_forget_24 rfl (lv_at hl 1 rfl) ?_
          obtain ⟨n14, f15, hf15, hif15, h⟩ := h
          refine x_aald (C := "NapVoyage$Plane") G S.1 hf15 rfl hif15 dX4_forget_25 ?_
          refine x_spl (fun c19 => ?_) (fun y16 c19 => ?_)
          · have h := h.1 c19
            refine lv_bipush (v := (49 : Int32)) hx hb dX4_forget_26 (by decide) ?_
            exact h.elim
          · have h := h.2 y16 c19
            refine lv_bipush (v := (49 : Int32)) hx hb dX4_forget_26 (by decide) ?_
            obtain ⟨fs17, hfs17, hkfs17, h⟩ := h
            have h := h _ rfl
            refine x_put G S hfs17 hkfs17 rfl rfl fw_X4_29 dX4_forget_28 (fun H locs S => ?_)
            exact J_31 _ _ _ _ h S ls (lv_sub hl [0, 1] rfl)
  refine lv_iconst (v := (0 : Int32)) hx hb dX4_forget_0 (by decide) ?_
  refine lv_istore_n (lv' := [(1, .int (0 : Int32)), (0, .ref v0)]) hx hb dX4_forget_1 rfl hl (by decide) rfl (fun ls hl => ?_)
  obtain ⟨n1, h⟩ := h
  exact J_2 n1 _ _ _ _ h S ls (lv_sub hl [1, 0] rfl)
def wp_X4_reaches (post : Int32 → Prop) (X : Hp) (v0 : Nat) (v1 : Int32) (v2 : Int32) : Prop := ∃ (fs1 : List Value) (y2 : Nat), Hs X v0 (.inr (4, fs1)) ∧ fs1[0]? = some (.ref y2) ∧ ∃ (fs3 : List Value) (y4 : Int32), Hs X y2 (.inr (8, fs3)) ∧ fs3[1]? = some (.int y4) ∧ wp_X9_within (fun r5 => (r5 = 0 → post (0 : Int32)) ∧ (¬ r5 = 0 → wp_X9_within (fun r7 => (r7 = 0 → post (0 : Int32)) ∧ (¬ r7 = 0 → post (1 : Int32)))  X v2 (0 : Int32) (4 : Int32)))  X v1 (0 : Int32) y4
set_option maxHeartbeats 4000000 in
set_option maxRecDepth 100000 in
theorem c_X4_reaches (l : Launch) (D : va_G) (kA : Nat → ClassId) (post : Int32 → Prop) (X : Hp) (v0 : Nat) (v1 : Int32) (v2 : Int32) (h : wp_X4_reaches post X v0 v1 v2) : Met l yX4_reaches (.code yX4_reaches cX4_reaches 3 (some .boolean) :: gd) (rmO 1 0 0 22) (va_Pc [Value.ref v0, Value.int v1, Value.int v2] (Pre D kA X)) (vp_Si post) 0 0 (fun _ => False) := by
  unfold wp_X4_reaches at h
  refine x_enR (by decide) (Nat.le_of_ble_eq_true rfl) ?_
  intro p e s m below meth c G hr hlk hP ls hl
  obtain ⟨hx, hb, hml, hown, hts, hE, hK⟩ := id G
  have hl : lv_has ls 3 [(0, .ref v0), (1, .int v1), (2, .int v2)] := hl
  refine lv_iload_n hx hb dX4_reaches_0 rfl (lv_at hl 1 rfl) ?_
  refine lv_iconst (v := (0 : Int32)) hx hb dX4_reaches_1 (by decide) ?_
  refine lv_aload_n hx hb dX4_reaches_2 rfl (lv_at hl 0 rfl) ?_
  obtain ⟨fs1, y2, hfs1, hvfs1, h⟩ := h
  refine x_get G hP hfs1 hvfs1 fl_X4_9 dX4_reaches_3 ?_
  obtain ⟨fs3, y4, hfs3, hvfs3, h⟩ := h
  refine x_get G hP hfs3 hvfs3 fl_X4_33 dX4_reaches_6 ?_
  refine x_cRSi (As := [.int v1, .int (0 : Int32), .int y4]) (rest := []) G hP (c_X9_within l D kA _ _ v1 (0 : Int32) y4 h) cd_X9_within ml_X4_38 ⟨(Nat.le_of_ble_eq_true rfl), (Nat.le_of_ble_eq_true rfl)⟩ rfl hl.1 rfl (Nat.le_of_ble_eq_true rfl) dX4_reaches_9 ⟨Nat.zero_le _, Nat.zero_le _⟩ (fun r5 h => ?_)
  refine lv_if_eq (tgt := 28) hx hb dX4_reaches_12 (by decide) (fun c6 => ?_) (fun c6 => ?_)
  · have h := h.1 c6
    refine lv_iconst (v := (0 : Int32)) hx hb dX4_reaches_28 (by decide) ?_
    exact x_zretR G hr hlk (Or.inl rfl) h dX4_reaches_29
  · have h := h.2 c6
    refine lv_iload_n hx hb dX4_reaches_15 rfl (lv_at hl 2 rfl) ?_
    refine lv_iconst (v := (0 : Int32)) hx hb dX4_reaches_16 (by decide) ?_
    refine lv_iconst (v := (4 : Int32)) hx hb dX4_reaches_17 (by decide) ?_
    refine x_cRSi (As := [.int v2, .int (0 : Int32), .int (4 : Int32)]) (rest := []) G hP (c_X9_within l D kA _ _ v2 (0 : Int32) (4 : Int32) h) cd_X9_within ml_X4_38 ⟨(Nat.le_of_ble_eq_true rfl), (Nat.le_of_ble_eq_true rfl)⟩ rfl hl.1 rfl (Nat.le_of_ble_eq_true rfl) dX4_reaches_18 ⟨Nat.zero_le _, Nat.zero_le _⟩ (fun r7 h => ?_)
    refine lv_if_eq (tgt := 28) hx hb dX4_reaches_21 (by decide) (fun c8 => ?_) (fun c8 => ?_)
    · have h := h.1 c8
      refine lv_iconst (v := (0 : Int32)) hx hb dX4_reaches_28 (by decide) ?_
      exact x_zretR G hr hlk (Or.inl rfl) h dX4_reaches_29
    · have h := h.2 c8
      refine lv_iconst (v := (1 : Int32)) hx hb dX4_reaches_24 (by decide) ?_
      refine lv_goto (tgt := 29) hx hb dX4_reaches_25 (by decide) ?_
      exact x_zretR G hr hlk (Or.inr rfl) h dX4_reaches_29
def wp_X4_spendable (post : Int32 → Prop) (X : Hp) (v0 : Nat) (v1 : Int32) (v2 : Int32) (v3 : Int32) : Prop := ∃ (fs1 : List Value) (y2 : Nat), Hs X v0 (.inr (4, fs1)) ∧ fs1[0]? = some (.ref y2) ∧ ∃ (fs3 : List Value) (y4 : Int32), Hs X y2 (.inr (8, fs3)) ∧ fs3[1]? = some (.int y4) ∧ ∀ x5 : Int32, x5 = ((y4 - v1) + v3) → (x5 ≤ v2 → post x5) ∧ (¬ x5 ≤ v2 → post v2)
set_option maxHeartbeats 4000000 in
set_option maxRecDepth 100000 in
theorem c_X4_spendable (l : Launch) (D : va_G) (kA : Nat → ClassId) (post : Int32 → Prop) (X : Hp) (v0 : Nat) (v1 : Int32) (v2 : Int32) (v3 : Int32) (h : wp_X4_spendable post X v0 v1 v2 v3) : Met l yX4_spendable (.code yX4_spendable cX4_spendable 5 (some .int) :: gd) (rmO 0 0 0 0) (va_Pc [Value.ref v0, Value.int v1, Value.int v2, Value.int v3] (Pre D kA X)) (vp_Si post) 0 0 (fun _ => False) := by
  unfold wp_X4_spendable at h
  refine x_enR (by decide) (Nat.le_of_ble_eq_true rfl) ?_
  intro p e s m below meth c G hr hlk hP ls hl
  obtain ⟨hx, hb, hml, hown, hts, hE, hK⟩ := id G
  have hl : lv_has ls 5 [(0, .ref v0), (1, .int v1), (2, .int v2), (3, .int v3)] := hl
  refine lv_aload_n hx hb dX4_spendable_0 rfl (lv_at hl 0 rfl) ?_
  obtain ⟨fs1, y2, hfs1, hvfs1, h⟩ := h
  refine x_get G hP hfs1 hvfs1 fl_X4_9 dX4_spendable_1 ?_
  obtain ⟨fs3, y4, hfs3, hvfs3, h⟩ := h
  refine x_get G hP hfs3 hvfs3 fl_X4_33 dX4_spendable_4 ?_
  refine lv_iload_n hx hb dX4_spendable_7 rfl (lv_at hl 1 rfl) ?_
  refine lv_isub hx hb dX4_spendable_8 ?_
  refine lv_iload_n hx hb dX4_spendable_9 rfl (lv_at hl 3 rfl) ?_
  refine lv_iadd hx hb dX4_spendable_10 ?_
  refine lv_topi (fun x5 ex5 => ?_)
  have h := h x5 ex5
  refine lv_istore (lv' := [(4, .int x5), (0, .ref v0), (1, .int v1), (2, .int v2), (3, .int v3)]) hx hb dX4_spendable_11 hl (by decide) rfl (fun ls hl => ?_)
  refine lv_iload_n hx hb dX4_spendable_13 rfl (lv_at hl 3 rfl) ?_
  refine lv_iload hx hb dX4_spendable_14 (lv_at hl 0 rfl) ?_
  refine lv_icmp_ge (tgt := 23) hx hb dX4_spendable_16 (by decide) (fun c6 => ?_) (fun c6 => ?_)
  · have h := h.1 c6
    refine lv_iload hx hb dX4_spendable_23 (lv_at hl 0 rfl) ?_
    exact x_iretR G hr hlk h dX4_spendable_25
  · have h := h.2 c6
    refine lv_iload_n hx hb dX4_spendable_19 rfl (lv_at hl 3 rfl) ?_
    refine lv_goto (tgt := 25) hx hb dX4_spendable_20 (by decide) ?_
    exact x_iretR G hr hlk h dX4_spendable_25
def bk_X4_planeOf_63 (post : Option Nat → Hp → Prop) (mc ms : Nat) (v0 : Nat) (v1 : Int32) (v2 : Int32) (v3 : Int32)  (X : Hp) (kc : Nat) (ks : Nat) (b63_5 : Int32) : Prop := ∃ (fs25 : List Value) (y26 : Nat), Hs X v0 (.inr (4, fs25)) ∧ fs25[3]? = some (.ref y26) ∧ ∃ (n27 : Nat) (f28 : Nat → Option Nat), Hs X y26 (.inl (4, n27, qA f28)) ∧ vp_in b63_5 n27 ∧ (f28 b63_5.toNatClampNeg = none → kc ≤ mc ∧ ks ≤ ms ∧ post none X) ∧ (∀ y29 : Nat, f28 b63_5.toNatClampNeg = some y29 → kc ≤ mc ∧ ks ≤ ms ∧ post (some y29) X)
def bk_X4_planeOf_29 (post : Option Nat → Hp → Prop) (mc ms : Nat) (v0 : Nat) (v1 : Int32) (v2 : Int32) (v3 : Int32)  (X : Hp) (kc : Nat) (ks : Nat) : Prop := kc ≤ mc ∧ ks ≤ ms ∧ post none X
def wp_X4_planeOf (post : Option Nat → Hp → Prop) (mc ms : Nat) (X : Hp) (v0 : Nat) (v1 : Int32) (v2 : Int32) (v3 : Int32) : Prop := ∃ fs24 : List Value, Hs X v0 (.inr (4, fs24)) ∧ 0 ≤ mc ∧ 0 ≤ ms ∧ wp_X4_spendable (fun r1 => 0 ≤ mc ∧ 0 ≤ ms ∧ wp_X9_within (fun r2 => (r2 = 0 → bk_X4_planeOf_29 post mc ms v0 v1 v2 v3 X 0 0) ∧ (¬ r2 = 0 → 0 ≤ mc ∧ 0 ≤ ms ∧ wp_X9_within (fun r4 => (¬ r4 = 0 → ∀ x6 : Int32, x6 = ((r1 * (5 : Int32)) + v3) → ∃ (fs7 : List Value) (y8 : Nat), Hs X v0 (.inr (4, fs7)) ∧ fs7[3]? = some (.ref y8) ∧ ∃ (n9 : Nat) (f10 : Nat → Option Nat), Hs X y8 (.inl (4, n9, qA f10)) ∧ vp_in x6 n9 ∧ (f10 x6.toNatClampNeg = none → ∃ (fs12 : List Value) (y13 : Nat), Hs X v0 (.inr (4, fs12)) ∧ fs12[3]? = some (.ref y13) ∧ 0 + 1 ≤ mc ∧ 0 + 2 ≤ ms ∧ ∀ q14 : Nat, q14 ∉ X.1 → ∀ X15 : Hp, X15 = hadd X q14 (.inr (5, [.int 0, .null])) → ∃ m16 m17 : Nat, (0 + 1) + m16 ≤ mc ∧ (0 + 2) + m17 ≤ ms ∧ wp_X5_init (fun X18 => ∃ (n19 : Nat) (f20 : Nat → Option Nat) (fs21 : List Value), Hs X18 y13 (.inl (4, n19, qA f20)) ∧ Hs X18 q14 (.inr (5, fs21)) ∧ vp_in x6 n19 ∧ ∀ X22 : Hp, X22 = hput X18 y13 (.inl (4, n19, qA (va_up f20 x6.toNatClampNeg (some q14)))) → bk_X4_planeOf_63 post mc ms v0 v1 v2 v3 X22 (((0 + 1) + m16)) (((0 + 2) + m17)) x6) m16 m17 X15 q14) ∧ (∀ y11 : Nat, f10 x6.toNatClampNeg = some y11 → bk_X4_planeOf_63 post mc ms v0 v1 v2 v3 X 0 0 x6)) ∧ (r4 = 0 → bk_X4_planeOf_29 post mc ms v0 v1 v2 v3 X 0 0))  X v3 (0 : Int32) (4 : Int32)))  X r1 (0 : Int32) (24 : Int32))  X v0 v1 v2 v3
set_option maxHeartbeats 4000000 in
set_option maxRecDepth 100000 in
theorem c_X4_planeOf (l : Launch) (D : va_G) (kA : Nat → ClassId) (post : Option Nat → Hp → Prop) (mc ms : Nat) (X : Hp) (sz : Nat) (v0 : Nat) (v1 : Int32) (v2 : Int32) (v3 : Int32) (h : wp_X4_planeOf post mc ms X v0 v1 v2 v3) : Met l yX4_planeOf (.code yX4_planeOf cX4_planeOf 6 (some (.object "NapVoyage$Plane")) :: gd) (rmO 2 mc ms 41) (va_Pc [Value.ref v0, Value.int v1, Value.int v2, Value.int v3] (PreM D kA X sz)) (va_Qq post (PoM D kA X sz) (va_A (hw kA X) sz)) mc ms (va_A (hw kA X) sz) := by
  unfold wp_X4_planeOf at h
  refine x_enM (by decide) (Nat.le_of_ble_eq_true rfl) ?_
  intro p e s m below meth c G hr hlk hin hsz hA S ls hl
  obtain ⟨hx, hb, hml, hown, hts, hE, hK⟩ := id G
  have hl : lv_has ls 6 [(0, .ref v0), (1, .int v1), (2, .int v2), (3, .int v3)] := hl
  obtain ⟨X0, hX0⟩ : ∃ Y : Hp, Y = X := ⟨_, rfl⟩
  subst hX0
  have J_63 : ∀ (X : Hp) (kc : Nat) (ks : Nat) (b63_5 : Int32), ∀ (H : Heap) (locs : List Loc) (_ : bk_X4_planeOf_63 post mc ms v0 v1 v2 v3  X kc ks b63_5), Sx D kA (va_A (hw kA X0) sz) s.heap H locs X → ∀ ls, lv_has ls 6 [(0, .ref v0), (5, .int b63_5)] → W p l e (rmO 2 mc ms 41) s m [Value.ref v0, Value.int v1, Value.int v2, Value.int v3].toArray below meth c H locs kc ks (MQ below (va_Qq post (PoM D kA X0 sz) (va_A (hw kA X0) sz)) [Value.ref v0, Value.int v1, Value.int v2, Value.int v3].toArray s mc ms (va_A (hw kA X0) sz)) (F0 m 63 ls []) := by
    intro X kc ks b63_5 H locs h S ls hl
    unfold bk_X4_planeOf_63 at h
    refine lv_aload_n hx hb dX4_planeOf_63 rfl (lv_at hl 0 rfl) ?_
    obtain ⟨fs25, y26, hfs25, hvfs25, h⟩ := h
    refine x_get G S.1 hfs25 hvfs25 fl_X4_25 dX4_planeOf_64 ?_
    refine lv_iload hx hb dX4_planeOf_67 (lv_at hl 1 rfl) ?_
    obtain ⟨n27, f28, hf28, hif28, h⟩ := h
    refine x_aald (C := "NapVoyage$Plane") G S.1 hf28 rfl hif28 dX4_planeOf_69 ?_
    refine x_spl (fun c30 => ?_) (fun y29 c30 => ?_)
    · have h := h.1 c30
      obtain ⟨hk1, hk2, h⟩ := h
      exact x_aretM (r := none) G hr hlk S hk1 hk2 h dX4_planeOf_70
    · have h := h.2 y29 c30
      obtain ⟨hk1, hk2, h⟩ := h
      exact x_aretM (r := (some y29)) G hr hlk S hk1 hk2 h dX4_planeOf_70
  have J_29 : ∀ (X : Hp) (kc : Nat) (ks : Nat), ∀ (H : Heap) (locs : List Loc) (_ : bk_X4_planeOf_29 post mc ms v0 v1 v2 v3  X kc ks), Sx D kA (va_A (hw kA X0) sz) s.heap H locs X → ∀ ls, lv_has ls 6 [] → W p l e (rmO 2 mc ms 41) s m [Value.ref v0, Value.int v1, Value.int v2, Value.int v3].toArray below meth c H locs kc ks (MQ below (va_Qq post (PoM D kA X0 sz) (va_A (hw kA X0) sz)) [Value.ref v0, Value.int v1, Value.int v2, Value.int v3].toArray s mc ms (va_A (hw kA X0) sz)) (F0 m 29 ls []) := by
    intro X kc ks H locs h S ls hl
    unfold bk_X4_planeOf_29 at h
    refine lv_null hx hb dX4_planeOf_29 ?_
    obtain ⟨hk1, hk2, h⟩ := h
    exact x_aretM (r := none) G hr hlk S hk1 hk2 h dX4_planeOf_30
  refine lv_aload_n hx hb dX4_planeOf_0 rfl (lv_at hl 0 rfl) ?_
  refine lv_iload_n hx hb dX4_planeOf_1 rfl (lv_at hl 1 rfl) ?_
  refine lv_iload_n hx hb dX4_planeOf_2 rfl (lv_at hl 2 rfl) ?_
  refine lv_iload_n hx hb dX4_planeOf_3 rfl (lv_at hl 3 rfl) ?_
  obtain ⟨fs24, hfs24, h⟩ := h
  obtain ⟨hkc, hks, h⟩ := h
  refine x_cRVi (As := [.int v1, .int v2, .int v3]) (rest := []) G S.1 hfs24 rfl rfl (c_X4_spendable l D kA _ _ v0 v1 v2 v3 h) cd_X4_spendable ml_X4_79 ⟨(Nat.le_of_ble_eq_true rfl), (Nat.le_of_ble_eq_true rfl)⟩ rfl hl.1 rfl (Nat.le_of_ble_eq_true rfl) dX4_planeOf_4 ⟨hkc, hks⟩ (fun r1 h => ?_)
  refine lv_istore (lv' := [(4, .int r1), (0, .ref v0), (1, .int v1), (2, .int v2), (3, .int v3)]) hx hb dX4_planeOf_7 hl (by decide) rfl (fun ls hl => ?_)
  refine lv_iload hx hb dX4_planeOf_9 (lv_at hl 0 rfl) ?_
  refine lv_iconst (v := (0 : Int32)) hx hb dX4_planeOf_11 (by decide) ?_
  refine lv_bipush (v := (24 : Int32)) hx hb dX4_planeOf_12 (by decide) ?_
  obtain ⟨hkc, hks, h⟩ := h
  refine x_cRSi (As := [.int r1, .int (0 : Int32), .int (24 : Int32)]) (rest := []) G S.1 (c_X9_within l D kA _ _ r1 (0 : Int32) (24 : Int32) h) cd_X9_within ml_X4_38 ⟨(Nat.le_of_ble_eq_true rfl), (Nat.le_of_ble_eq_true rfl)⟩ rfl hl.1 rfl (Nat.le_of_ble_eq_true rfl) dX4_planeOf_14 ⟨hkc, hks⟩ (fun r2 h => ?_)
  refine lv_if_eq (tgt := 29) hx hb dX4_planeOf_17 (by decide) (fun c3 => ?_) (fun c3 => ?_)
  · have h := h.1 c3
    exact J_29 _ _ _ _ _ h S ls (lv_sub hl [] rfl)
  · have h := h.2 c3
    refine lv_iload_n hx hb dX4_planeOf_20 rfl (lv_at hl 4 rfl) ?_
    refine lv_iconst (v := (0 : Int32)) hx hb dX4_planeOf_21 (by decide) ?_
    refine lv_iconst (v := (4 : Int32)) hx hb dX4_planeOf_22 (by decide) ?_
    obtain ⟨hkc, hks, h⟩ := h
    refine x_cRSi (As := [.int v3, .int (0 : Int32), .int (4 : Int32)]) (rest := []) G S.1 (c_X9_within l D kA _ _ v3 (0 : Int32) (4 : Int32) h) cd_X9_within ml_X4_38 ⟨(Nat.le_of_ble_eq_true rfl), (Nat.le_of_ble_eq_true rfl)⟩ rfl hl.1 rfl (Nat.le_of_ble_eq_true rfl) dX4_planeOf_23 ⟨hkc, hks⟩ (fun r4 h => ?_)
    refine lv_if_ne (tgt := 31) hx hb dX4_planeOf_26 (by decide) (fun c5 => ?_) (fun c5 => ?_)
    · have h := h.1 c5
      refine lv_iload hx hb dX4_planeOf_31 (lv_at hl 0 rfl) ?_
      refine lv_iconst (v := (5 : Int32)) hx hb dX4_planeOf_33 (by decide) ?_
      refine lv_imul hx hb dX4_planeOf_34 ?_
      refine lv_iload_n hx hb dX4_planeOf_35 rfl (lv_at hl 4 rfl) ?_
      refine lv_iadd hx hb dX4_planeOf_36 ?_
      refine lv_topi (fun x6 ex6 => ?_)
      have h := h x6 ex6
      refine lv_istore (lv' := [(5, .int x6), (4, .int r1), (0, .ref v0), (1, .int v1), (2, .int v2), (3, .int v3)]) hx hb dX4_planeOf_37 hl (by decide) rfl (fun ls hl => ?_)
      refine lv_aload_n hx hb dX4_planeOf_39 rfl (lv_at hl 2 rfl) ?_
      obtain ⟨fs7, y8, hfs7, hvfs7, h⟩ := h
      refine x_get G S.1 hfs7 hvfs7 fl_X4_25 dX4_planeOf_40 ?_
      refine lv_iload hx hb dX4_planeOf_43 (lv_at hl 0 rfl) ?_
      obtain ⟨n9, f10, hf10, hif10, h⟩ := h
      refine x_aald (C := "NapVoyage$Plane") G S.1 hf10 rfl hif10 dX4_planeOf_45 ?_
      refine x_spl (fun c23 => ?_) (fun y11 c23 => ?_)
      · have h := h.1 c23
        refine lv_ifnonnullN hx hb dX4_planeOf_46 ?_
        refine lv_aload_n hx hb dX4_planeOf_49 rfl (lv_at hl 2 rfl) ?_
        obtain ⟨fs12, y13, hfs12, hvfs12, h⟩ := h
        refine x_get G S.1 hfs12 hvfs12 fl_X4_25 dX4_planeOf_50 ?_
        refine lv_iload hx hb dX4_planeOf_53 (lv_at hl 0 rfl) ?_
        obtain ⟨hc1, hc2, h⟩ := h
        refine x_new G S hA nw_X4_23 hc1 hc2 dX4_planeOf_55 (fun q14 H hq14 S => ?_)
        have h := h q14 hq14 _ rfl
        refine lv_dup hx hb dX4_planeOf_58 rfl ?_
        obtain ⟨m16, m17, hm1, hm2, h⟩ := h
        refine x_cMIv (As := []) (rest := [.ref q14, .int x6, .ref y13]) G S hA (c_X5_init l D kA _ _ _ _ _ q14 h) cd_X5_init ml_X4_111 ⟨(Nat.le_of_ble_eq_true rfl), (Nat.le_of_ble_eq_true rfl)⟩ rfl hl.1 rfl (Nat.le_of_ble_eq_true rfl) dX4_planeOf_59 ⟨hm1, hm2⟩ (fun X H locs h S => ?_)
        obtain ⟨n19, f20, fs21, hf20, hfs21, hif20, h⟩ := h
        have h := h _ rfl
        refine x_aast G S hf20 rfl hfs21 rfl hif20 dX4_planeOf_62 (fun H locs S => ?_)
        exact J_63 _ _ _ _ _ _ h S ls (lv_sub hl [2, 0] rfl)
      · have h := h.2 y11 c23
        refine lv_ifnonnull (tgt := 63) hx hb dX4_planeOf_46 (by decide) ?_
        exact J_63 _ _ _ _ _ _ h S ls (lv_sub hl [2, 0] rfl)
    · have h := h.2 c5
      exact J_29 _ _ _ _ _ h S ls (lv_sub hl [] rfl)
def bk_X4_planeBehind_55 (post : Option Nat → Hp → Prop) (mc ms : Nat) (v0 : Nat) (v1 : Int32) (v2 : Int32) (v3 : Int32) (v4 : Int32)  (X : Hp) (kc : Nat) (ks : Nat) (b55_s0 : Int32) (b55_s1 : Int32) (b55_s2 : Int32) : Prop := ∃ fs17 : List Value, Hs X v0 (.inr (4, fs17)) ∧ ∃ m11 m12 : Nat, kc + m11 ≤ mc ∧ ks + m12 ≤ ms ∧ wp_X4_planeOf (fun r14 X13 => (r14 = none → (kc + m11) ≤ mc ∧ (ks + m12) ≤ ms ∧ post none X13) ∧ (∀ y15 : Nat, r14 = some y15 → (kc + m11) ≤ mc ∧ (ks + m12) ≤ ms ∧ post (some y15) X13)) m11 m12 X v0 b55_s2 b55_s1 b55_s0
def bk_X4_planeBehind_25 (post : Option Nat → Hp → Prop) (mc ms : Nat) (v0 : Nat) (v1 : Int32) (v2 : Int32) (v3 : Int32) (v4 : Int32)  (X : Hp) (kc : Nat) (ks : Nat) : Prop := kc ≤ mc ∧ ks ≤ ms ∧ post none X
def wp_X4_planeBehind (post : Option Nat → Hp → Prop) (mc ms : Nat) (X : Hp) (v0 : Nat) (v1 : Int32) (v2 : Int32) (v3 : Int32) (v4 : Int32) : Prop := ∀ x1 : Int32, x1 = (v4 / (2 : Int32)) → (v4 = (1 : Int32) → bk_X4_planeBehind_25 post mc ms v0 v1 v2 v3 v4 X 0 0) ∧ (¬ v4 = (1 : Int32) → ∃ (fs3 : List Value) (y4 : Nat), Hs X v0 (.inr (4, fs3)) ∧ fs3[0]? = some (.ref y4) ∧ ∃ fs10 : List Value, Hs X y4 (.inr (8, fs10)) ∧ 0 ≤ mc ∧ 0 ≤ ms ∧ wp_X8_lets (fun r5 => (¬ r5 = 0 → 0 ≤ mc ∧ 0 ≤ ms ∧ wp_X9_hoursOf (fun r7 => 0 ≤ mc ∧ 0 ≤ ms ∧ wp_X9_batteryOf (fun r8 => (¬ x1 = (4 : Int32) → bk_X4_planeBehind_55 post mc ms v0 v1 v2 v3 v4 X 0 0 v3 ((v2 - r8)) ((v1 + r7))) ∧ (x1 = (4 : Int32) → bk_X4_planeBehind_55 post mc ms v0 v1 v2 v3 v4 X 0 0 ((v3 - (1 : Int32))) ((v2 - r8)) ((v1 + r7))))  X v4)  X x1) ∧ (r5 = 0 → bk_X4_planeBehind_25 post mc ms v0 v1 v2 v3 v4 X 0 0))  X y4 v1 x1)
set_option maxHeartbeats 4000000 in
set_option maxRecDepth 100000 in
theorem c_X4_planeBehind (l : Launch) (D : va_G) (kA : Nat → ClassId) (post : Option Nat → Hp → Prop) (mc ms : Nat) (X : Hp) (sz : Nat) (v0 : Nat) (v1 : Int32) (v2 : Int32) (v3 : Int32) (v4 : Int32) (h : wp_X4_planeBehind post mc ms X v0 v1 v2 v3 v4) : Met l yX4_planeBehind (.code yX4_planeBehind cX4_planeBehind 6 (some (.object "NapVoyage$Plane")) :: gd) (rmO 3 mc ms 66) (va_Pc [Value.ref v0, Value.int v1, Value.int v2, Value.int v3, Value.int v4] (PreM D kA X sz)) (va_Qq post (PoM D kA X sz) (va_A (hw kA X) sz)) mc ms (va_A (hw kA X) sz) := by
  unfold wp_X4_planeBehind at h
  refine x_enM (by decide) (Nat.le_of_ble_eq_true rfl) ?_
  intro p e s m below meth c G hr hlk hin hsz hA S ls hl
  obtain ⟨hx, hb, hml, hown, hts, hE, hK⟩ := id G
  have hl : lv_has ls 6 [(0, .ref v0), (1, .int v1), (2, .int v2), (3, .int v3), (4, .int v4)] := hl
  obtain ⟨X0, hX0⟩ : ∃ Y : Hp, Y = X := ⟨_, rfl⟩
  subst hX0
  have J_55 : ∀ (X : Hp) (kc : Nat) (ks : Nat) (b55_s0 : Int32) (b55_s1 : Int32) (b55_s2 : Int32), ∀ (H : Heap) (locs : List Loc) (_ : bk_X4_planeBehind_55 post mc ms v0 v1 v2 v3 v4  X kc ks b55_s0 b55_s1 b55_s2), Sx D kA (va_A (hw kA X0) sz) s.heap H locs X → ∀ ls, lv_has ls 6 [] → W p l e (rmO 3 mc ms 66) s m [Value.ref v0, Value.int v1, Value.int v2, Value.int v3, Value.int v4].toArray below meth c H locs kc ks (MQ below (va_Qq post (PoM D kA X0 sz) (va_A (hw kA X0) sz)) [Value.ref v0, Value.int v1, Value.int v2, Value.int v3, Value.int v4].toArray s mc ms (va_A (hw kA X0) sz)) (F0 m 55 ls [.int b55_s0, .int b55_s1, .int b55_s2, .ref v0]) := by
    intro X kc ks b55_s0 b55_s1 b55_s2 H locs h S ls hl
    unfold bk_X4_planeBehind_55 at h
    obtain ⟨fs17, hfs17, h⟩ := h
    obtain ⟨m11, m12, hm1, hm2, h⟩ := h
    refine x_cMVq (As := [.int b55_s2, .int b55_s1, .int b55_s0]) (rest := []) G S hA hfs17 rfl rfl (c_X4_planeOf l D kA _ _ _ _ _ v0 b55_s2 b55_s1 b55_s0 h) cd_X4_planeOf ml_X4_46 ⟨(Nat.le_of_ble_eq_true rfl), (Nat.le_of_ble_eq_true rfl)⟩ rfl hl.1 rfl (Nat.le_of_ble_eq_true rfl) dX4_planeBehind_55 ⟨hm1, hm2⟩ (fun r14 X H locs h S => ?_)
    refine x_spl (fun c16 => ?_) (fun y15 c16 => ?_)
    · have h := h.1 c16
      obtain ⟨hk1, hk2, h⟩ := h
      exact x_aretM (r := none) G hr hlk S hk1 hk2 h dX4_planeBehind_58
    · have h := h.2 y15 c16
      obtain ⟨hk1, hk2, h⟩ := h
      exact x_aretM (r := (some y15)) G hr hlk S hk1 hk2 h dX4_planeBehind_58
  have J_25 : ∀ (X : Hp) (kc : Nat) (ks : Nat), ∀ (H : Heap) (locs : List Loc) (_ : bk_X4_planeBehind_25 post mc ms v0 v1 v2 v3 v4  X kc ks), Sx D kA (va_A (hw kA X0) sz) s.heap H locs X → ∀ ls, lv_has ls 6 [] → W p l e (rmO 3 mc ms 66) s m [Value.ref v0, Value.int v1, Value.int v2, Value.int v3, Value.int v4].toArray below meth c H locs kc ks (MQ below (va_Qq post (PoM D kA X0 sz) (va_A (hw kA X0) sz)) [Value.ref v0, Value.int v1, Value.int v2, Value.int v3, Value.int v4].toArray s mc ms (va_A (hw kA X0) sz)) (F0 m 25 ls []) := by
    intro X kc ks H locs h S ls hl
    unfold bk_X4_planeBehind_25 at h
    refine lv_null hx hb dX4_planeBehind_25 ?_
    obtain ⟨hk1, hk2, h⟩ := h
    exact x_aretM (r := none) G hr hlk S hk1 hk2 h dX4_planeBehind_26
  refine lv_iload hx hb dX4_planeBehind_0 (lv_at hl 4 rfl) ?_
  refine lv_iconst (v := (2 : Int32)) hx hb dX4_planeBehind_2 (by decide) ?_
  refine lv_idiv hx hb dX4_planeBehind_3 (by decide) ?_
  refine lv_topi (fun x1 ex1 => ?_)
  have h := h x1 ex1
  refine lv_istore (lv' := [(5, .int x1), (0, .ref v0), (1, .int v1), (2, .int v2), (3, .int v3), (4, .int v4)]) hx hb dX4_planeBehind_4 hl (by decide) rfl (fun ls hl => ?_)
  refine lv_iload hx hb dX4_planeBehind_6 (lv_at hl 5 rfl) ?_
  refine lv_iconst (v := (1 : Int32)) hx hb dX4_planeBehind_8 (by decide) ?_
  refine lv_icmp_eq (tgt := 25) hx hb dX4_planeBehind_9 (by decide) (fun c2 => ?_) (fun c2 => ?_)
  · have h := h.1 c2
    exact J_25 _ _ _ _ _ h S ls (lv_sub hl [] rfl)
  · have h := h.2 c2
    refine lv_aload_n hx hb dX4_planeBehind_12 rfl (lv_at hl 1 rfl) ?_
    obtain ⟨fs3, y4, hfs3, hvfs3, h⟩ := h
    refine x_get G S.1 hfs3 hvfs3 fl_X4_9 dX4_planeBehind_13 ?_
    refine lv_iload_n hx hb dX4_planeBehind_16 rfl (lv_at hl 2 rfl) ?_
    refine lv_iload hx hb dX4_planeBehind_17 (lv_at hl 0 rfl) ?_
    obtain ⟨fs10, hfs10, h⟩ := h
    obtain ⟨hkc, hks, h⟩ := h
    refine x_cRVi (As := [.int v1, .int x1]) (rest := []) G S.1 hfs10 rfl rfl (c_X8_lets l D kA _ _ y4 v1 x1 h) cd_X8_lets ml_X4_107 ⟨(Nat.le_of_ble_eq_true rfl), (Nat.le_of_ble_eq_true rfl)⟩ rfl hl.1 rfl (Nat.le_of_ble_eq_true rfl) dX4_planeBehind_19 ⟨hkc, hks⟩ (fun r5 h => ?_)
    refine lv_if_ne (tgt := 27) hx hb dX4_planeBehind_22 (by decide) (fun c6 => ?_) (fun c6 => ?_)
    · have h := h.1 c6
      refine lv_aload_n hx hb dX4_planeBehind_27 rfl (lv_at hl 1 rfl) ?_
      refine lv_iload_n hx hb dX4_planeBehind_28 rfl (lv_at hl 2 rfl) ?_
      refine lv_iload hx hb dX4_planeBehind_29 (lv_at hl 0 rfl) ?_
      obtain ⟨hkc, hks, h⟩ := h
      refine x_cRSi (As := [.int x1]) (rest := [.int v1, .ref v0]) G S.1 (c_X9_hoursOf l D kA _ _ x1 h) cd_X9_hoursOf ml_X4_70 ⟨(Nat.le_of_ble_eq_true rfl), (Nat.le_of_ble_eq_true rfl)⟩ rfl hl.1 rfl (Nat.le_of_ble_eq_true rfl) dX4_planeBehind_31 ⟨hkc, hks⟩ (fun r7 h => ?_)
      refine lv_iadd hx hb dX4_planeBehind_34 ?_
      refine lv_iload_n hx hb dX4_planeBehind_35 rfl (lv_at hl 3 rfl) ?_
      refine lv_iload hx hb dX4_planeBehind_36 (lv_at hl 5 rfl) ?_
      obtain ⟨hkc, hks, h⟩ := h
      refine x_cRSi (As := [.int v4]) (rest := [.int v2, .int (v1 + r7), .ref v0]) G S.1 (c_X9_batteryOf l D kA _ _ v4 h) cd_X9_batteryOf ml_X4_67 ⟨(Nat.le_of_ble_eq_true rfl), (Nat.le_of_ble_eq_true rfl)⟩ rfl hl.1 rfl (Nat.le_of_ble_eq_true rfl) dX4_planeBehind_38 ⟨hkc, hks⟩ (fun r8 h => ?_)
      refine lv_isub hx hb dX4_planeBehind_41 ?_
      refine lv_iload hx hb dX4_planeBehind_42 (lv_at hl 0 rfl) ?_
      refine lv_iconst (v := (4 : Int32)) hx hb dX4_planeBehind_44 (by decide) ?_
      refine lv_icmp_ne (tgt := 54) hx hb dX4_planeBehind_45 (by decide) (fun c9 => ?_) (fun c9 => ?_)
      · have h := h.1 c9
        refine lv_iload_n hx hb dX4_planeBehind_54 rfl (lv_at hl 4 rfl) ?_
        exact J_55 _ _ _ _ _ _ _ _ h S ls (lv_sub hl [] rfl)
      · have h := h.2 c9
        refine lv_iload_n hx hb dX4_planeBehind_48 rfl (lv_at hl 4 rfl) ?_
        refine lv_iconst (v := (1 : Int32)) hx hb dX4_planeBehind_49 (by decide) ?_
        refine lv_isub hx hb dX4_planeBehind_50 ?_
        refine lv_goto (tgt := 55) hx hb dX4_planeBehind_51 (by decide) ?_
        exact J_55 _ _ _ _ _ _ _ _ h S ls (lv_sub hl [] rfl)
    · have h := h.2 c6
      exact J_25 _ _ _ _ _ h S ls (lv_sub hl [] rfl)
def bk_X4_weigh_53 (post : Hp → Prop) (v0 : Nat) (v1 : Nat) (v2 : Int32) (v3 : Int32) (v4 : Nat) (r_3 : Hp → Int32 → Prop) (X : Hp) (b53_5 : Int32) : Prop := ∀ x12 : Int32, x12 = b53_5 + (1 : Int32) → r_3 X x12
def bk_X4_weigh_3 (post : Hp → Prop) (v0 : Nat) (v1 : Nat) (v2 : Int32) (v3 : Int32) (v4 : Nat)  : Nat → Hp → Int32 → Prop
  | 0, _, _ => False
  | k + 1, X, b3_5 => ((21 : Int32) ≤ b3_5 → post X) ∧ (¬ (21 : Int32) ≤ b3_5 → ∃ (fs3 : List Value) (y4 : Nat), Hs X v0 (.inr (4, fs3)) ∧ fs3[2]? = some (.ref y4) ∧ ∃ fs11 : List Value, Hs X y4 (.inr (6, fs11)) ∧ wp_X6_safeBy (fun r5 => ∃ fs10 : List Value, Hs X v1 (.inr (5, fs10)) ∧ wp_X5_at (fun r6 => (r5 ≤ r6 → bk_X4_weigh_53 post v0 v1 v2 v3 v4 (bk_X4_weigh_3 post v0 v1 v2 v3 v4 k) X b3_5) ∧ (¬ r5 ≤ r6 → ∃ fs9 : List Value, Hs X v1 (.inr (5, fs9)) ∧ wp_X5_put (fun X8 => bk_X4_weigh_53 post v0 v1 v2 v3 v4 (bk_X4_weigh_3 post v0 v1 v2 v3 v4 k) X8 b3_5) X v1 ((v2 * (21 : Int32)) + b3_5) r5)) X v1 ((v2 * (21 : Int32)) + b3_5)) X y4 v3 b3_5 v4)
def wp_X4_weigh (post : Hp → Prop) (X : Hp) (v0 : Nat) (v1 : Nat) (v2 : Int32) (v3 : Int32) (v4 : Nat) : Prop := ∃ n1 : Nat, bk_X4_weigh_3 post v0 v1 v2 v3 v4 n1 X (0 : Int32)
set_option maxHeartbeats 4000000 in
set_option maxRecDepth 100000 in
theorem c_X4_weigh (l : Launch) (D : va_G) (kA : Nat → ClassId) (post : Hp → Prop) (X : Hp) (sz : Nat) (v0 : Nat) (v1 : Nat) (v2 : Int32) (v3 : Int32) (v4 : Nat) (h : wp_X4_weigh post X v0 v1 v2 v3 v4) : Met l yX4_weigh (.code yX4_weigh cX4_weigh 7 none :: gd) (rmO 2 0 0 47) (va_Pc [Value.ref v0, Value.ref v1, Value.int v2, Value.int v3, Value.ref v4] (PreM D kA X sz)) (va_Qv post (PoM D kA X sz) (va_A (hw kA X) sz)) 0 0 (va_A (hw kA X) sz) := by
  unfold wp_X4_weigh at h
  refine x_enM (by decide) (Nat.le_of_ble_eq_true rfl) ?_
  intro p e s m below meth c G hr hlk hin hsz hA S ls hl
  obtain ⟨hx, hb, hml, hown, hts, hE, hK⟩ := id G
  have hl : lv_has ls 7 [(0, .ref v0), (1, .ref v1), (2, .int v2), (3, .int v3), (4, .ref v4)] := hl
  obtain ⟨X0, hX0⟩ : ∃ Y : Hp, Y = X := ⟨_, rfl⟩
  subst hX0
  have J_3 : ∀ (n : Nat) (X : Hp) (b3_5 : Int32), ∀ (H : Heap) (locs : List Loc) (_ : bk_X4_weigh_3 post v0 v1 v2 v3 v4  n X b3_5), Sx D kA (va_A (hw kA X0) sz) s.heap H locs X → ∀ ls, lv_has ls 7 [(0, .ref v0), (1, .ref v1), (2, .int v2), (3, .int v3), (4, .ref v4), (5, .int b3_5)] → W p l e (rmO 2 0 0 47) s m [Value.ref v0, Value.ref v1, Value.int v2, Value.int v3, Value.ref v4].toArray below meth c H locs 0 0 (MQ below (va_Qv post (PoM D kA X0 sz) (va_A (hw kA X0) sz)) [Value.ref v0, Value.ref v1, Value.int v2, Value.int v3, Value.ref v4].toArray s 0 0 (va_A (hw kA X0) sz)) (F0 m 3 ls []) := by
    intro n
    induction n with
    | zero =>
      intro X b3_5 H locs h S ls hl
      rw [bk_X4_weigh_3] at h
      exact h.elim
    | succ n_3 ih_3 =>
      have J_53 : ∀ (X : Hp) (b53_5 : Int32), ∀ (H : Heap) (locs : List Loc) (_ : bk_X4_weigh_53 post v0 v1 v2 v3 v4 (bk_X4_weigh_3 post v0 v1 v2 v3 v4 n_3) X b53_5), Sx D kA (va_A (hw kA X0) sz) s.heap H locs X → ∀ ls, lv_has ls 7 [(0, .ref v0), (1, .ref v1), (2, .int v2), (3, .int v3), (4, .ref v4), (5, .int b53_5)] → W p l e (rmO 2 0 0 47) s m [Value.ref v0, Value.ref v1, Value.int v2, Value.int v3, Value.ref v4].toArray below meth c H locs 0 0 (MQ below (va_Qv post (PoM D kA X0 sz) (va_A (hw kA X0) sz)) [Value.ref v0, Value.ref v1, Value.int v2, Value.int v3, Value.ref v4].toArray s 0 0 (va_A (hw kA X0) sz)) (F0 m 53 ls []) := by
        intro X b53_5 H locs h S ls hl
        unfold bk_X4_weigh_53 at h
        obtain ⟨x12, ex12⟩ : ∃ y : Int32, y = b53_5 + (1 : Int32) := ⟨_, rfl⟩
        have h := h x12 ex12
        refine lv_iinc (v := x12) (lv' := [(5, .int x12), (0, .ref v0), (1, .ref v1), (2, .int v2), (3, .int v3), (4, .ref v4)]) hx hb dX4_weigh_53 hl (k := 5) rfl (by rw [ex12]; rfl) (by decide) rfl (fun ls hl => ?_)
        refine lv_goto (tgt := 3) hx hb dX4_weigh_56 (by decide) ?_
        exact ih_3 _ _ _ _ h S ls (lv_sub hl [1, 2, 3, 4, 5, 0] rfl)
      intro X b3_5 H locs h S ls hl
      rw [bk_X4_weigh_3] at h
      refine lv_iload hx hb dX4_weigh_3 (lv_at hl 5 rfl) ?_
      refine lv_bipush (v := (21 : Int32)) hx hb dX4_weigh_5 (by decide) ?_
      refine lv_icmp_ge (tgt := 59) hx hb dX4_weigh_7 (by decide) (fun c2 => ?_) (fun c2 => ?_)
      · have h := h.1 c2
        exact x_vretM G hr hlk S (Nat.le_refl _) (Nat.le_refl _) h dX4_weigh_59
      · have h := h.2 c2
        refine lv_aload_n hx hb dX4_weigh_10 rfl (lv_at hl 0 rfl) ?_
        obtain ⟨fs3, y4, hfs3, hvfs3, h⟩ := h
        refine x_get G S.1 hfs3 hvfs3 fl_X4_19 dX4_weigh_11 ?_
        refine lv_iload_n hx hb dX4_weigh_14 rfl (lv_at hl 3 rfl) ?_
        refine lv_iload hx hb dX4_weigh_15 (lv_at hl 5 rfl) ?_
        refine lv_aload hx hb dX4_weigh_17 (lv_at hl 4 rfl) ?_
        obtain ⟨fs11, hfs11, h⟩ := h
        refine x_cRVi (As := [.int v3, .int b3_5, .ref v4]) (rest := []) G S.1 hfs11 rfl rfl (c_X6_safeBy l D kA _ _ y4 v3 b3_5 v4 h) cd_X6_safeBy ml_X4_99 ⟨(Nat.le_of_ble_eq_true rfl), (Nat.le_of_ble_eq_true rfl)⟩ rfl hl.1 rfl (Nat.le_of_ble_eq_true rfl) dX4_weigh_19 ⟨Nat.zero_le _, Nat.zero_le _⟩ (fun r5 h => ?_)
        refine lv_istore (lv' := [(6, .int r5), (0, .ref v0), (1, .ref v1), (2, .int v2), (3, .int v3), (4, .ref v4), (5, .int b3_5)]) hx hb dX4_weigh_22 hl (by decide) rfl (fun ls hl => ?_)
        refine lv_iload hx hb dX4_weigh_24 (lv_at hl 0 rfl) ?_
        refine lv_aload_n hx hb dX4_weigh_26 rfl (lv_at hl 2 rfl) ?_
        refine lv_iload_n hx hb dX4_weigh_27 rfl (lv_at hl 3 rfl) ?_
        refine lv_bipush (v := (21 : Int32)) hx hb dX4_weigh_28 (by decide) ?_
        refine lv_imul hx hb dX4_weigh_30 ?_
        refine lv_iload hx hb dX4_weigh_31 (lv_at hl 6 rfl) ?_
        refine lv_iadd hx hb dX4_weigh_33 ?_
        obtain ⟨fs10, hfs10, h⟩ := h
        refine x_cRVi (As := [.int ((v2 * (21 : Int32)) + b3_5)]) (rest := [.int r5]) G S.1 hfs10 rfl rfl (c_X5_at l D kA _ _ v1 ((v2 * (21 : Int32)) + b3_5) h) cd_X5_at ml_X4_50 ⟨(Nat.le_of_ble_eq_true rfl), (Nat.le_of_ble_eq_true rfl)⟩ rfl hl.1 rfl (Nat.le_of_ble_eq_true rfl) dX4_weigh_34 ⟨Nat.zero_le _, Nat.zero_le _⟩ (fun r6 h => ?_)
        refine lv_icmp_le (tgt := 53) hx hb dX4_weigh_37 (by decide) (fun c7 => ?_) (fun c7 => ?_)
        · have h := h.1 c7
          exact J_53 _ _ _ _ h S ls (lv_sub hl [1, 2, 3, 4, 5, 6] rfl)
        · have h := h.2 c7
          refine lv_aload_n hx hb dX4_weigh_40 rfl (lv_at hl 2 rfl) ?_
          refine lv_iload_n hx hb dX4_weigh_41 rfl (lv_at hl 3 rfl) ?_
          refine lv_bipush (v := (21 : Int32)) hx hb dX4_weigh_42 (by decide) ?_
          refine lv_imul hx hb dX4_weigh_44 ?_
          refine lv_iload hx hb dX4_weigh_45 (lv_at hl 6 rfl) ?_
          refine lv_iadd hx hb dX4_weigh_47 ?_
          refine lv_iload hx hb dX4_weigh_48 (lv_at hl 0 rfl) ?_
          obtain ⟨fs9, hfs9, h⟩ := h
          refine x_cMVv (As := [.int ((v2 * (21 : Int32)) + b3_5), .int r5]) (rest := []) G S hA hfs9 rfl rfl (c_X5_put l D kA _ _ _ v1 ((v2 * (21 : Int32)) + b3_5) r5 h) cd_X5_put ml_X4_87 ⟨(Nat.le_of_ble_eq_true rfl), (Nat.le_of_ble_eq_true rfl)⟩ rfl hl.1 rfl (Nat.le_of_ble_eq_true rfl) dX4_weigh_50 ⟨Nat.zero_le _, Nat.zero_le _⟩ (fun X H locs h S => ?_)
          exact J_53 _ _ _ _ h S ls (lv_sub hl [1, 2, 3, 4, 5, 6] rfl)
  refine lv_iconst (v := (0 : Int32)) hx hb dX4_weigh_0 (by decide) ?_
  refine lv_istore (lv' := [(5, .int (0 : Int32)), (0, .ref v0), (1, .ref v1), (2, .int v2), (3, .int v3), (4, .ref v4)]) hx hb dX4_weigh_1 hl (by decide) rfl (fun ls hl => ?_)
  obtain ⟨n1, h⟩ := h
  exact J_3 n1 _ _ _ _ h S ls (lv_sub hl [1, 2, 3, 4, 5, 0] rfl)
def bk_X4_fillHour_112 (post : Hp → Prop) (mc ms : Nat) (v0 : Nat) (v1 : Int32) (v2 : Int32) (v3 : Int32) (r_78 : Hp → Nat → Nat → Nat → Int32 → Prop) (X : Hp) (kc : Nat) (ks : Nat) (b112_4 : Nat) (b112_5 : Int32) : Prop := ∀ x34 : Int32, x34 = b112_5 + (1 : Int32) → r_78 X kc ks b112_4 x34
def bk_X4_fillHour_78 (post : Hp → Prop) (mc ms : Nat) (v0 : Nat) (v1 : Int32) (v2 : Int32) (v3 : Int32)  : Nat → Hp → Nat → Nat → Nat → Int32 → Prop
  | 0, _, _, _, _, _ => False
  | k + 1, X, kc, ks, b78_4, b78_5 => ((10 : Int32) ≤ b78_5 → kc ≤ mc ∧ ks ≤ ms ∧ post X) ∧ (¬ (10 : Int32) ≤ b78_5 → ∃ fs33 : List Value, Hs X v0 (.inr (4, fs33)) ∧ ∃ m25 m26 : Nat, kc + m25 ≤ mc ∧ ks + m26 ≤ ms ∧ wp_X4_planeBehind (fun r28 X27 => (r28 = none → bk_X4_fillHour_112 post mc ms v0 v1 v2 v3 (bk_X4_fillHour_78 post mc ms v0 v1 v2 v3 k) X27 ((kc + m25)) ((ks + m26)) b78_4 b78_5) ∧ (∀ y29 : Nat, r28 = some y29 → ∃ fs32 : List Value, Hs X27 v0 (.inr (4, fs32)) ∧ (kc + m25) ≤ mc ∧ (ks + m26) ≤ ms ∧ wp_X4_weigh (fun X31 => bk_X4_fillHour_112 post mc ms v0 v1 v2 v3 (bk_X4_fillHour_78 post mc ms v0 v1 v2 v3 k) X31 ((kc + m25)) ((ks + m26)) b78_4 b78_5) X27 v0 b78_4 v1 b78_5 y29)) m25 m26 X v0 v1 v2 v3 b78_5)
def bk_X4_fillHour_66 (post : Hp → Prop) (mc ms : Nat) (v0 : Nat) (v1 : Int32) (v2 : Int32) (v3 : Int32) (r_33 : Hp → Nat → Nat → Nat → Int32 → Prop) (X : Hp) (kc : Nat) (ks : Nat) (b66_4 : Nat) (b66_5 : Int32) (b66_s0 : Int32) (b66_s1 : Int32) (b66_s2 : Nat) : Prop := ∃ fs23 : List Value, Hs X b66_s2 (.inr (5, fs23)) ∧ kc ≤ mc ∧ ks ≤ ms ∧ wp_X5_put (fun X21 => ∀ x22 : Int32, x22 = b66_5 + (1 : Int32) → r_33 X21 kc ks b66_4 x22)  X b66_s2 b66_s1 b66_s0
def bk_X4_fillHour_33 (post : Hp → Prop) (mc ms : Nat) (v0 : Nat) (v1 : Int32) (v2 : Int32) (v3 : Int32)  : Nat → Hp → Nat → Nat → Nat → Int32 → Prop
  | 0, _, _, _, _, _ => False
  | k + 1, X, kc, ks, b33_4, b33_5 => ((21 : Int32) ≤ b33_5 → ∃ n15 : Nat, bk_X4_fillHour_78 post mc ms v0 v1 v2 v3 n15 X kc ks b33_4 (0 : Int32)) ∧ (¬ (21 : Int32) ≤ b33_5 → ∃ (fs16 : List Value) (y17 : Nat), Hs X v0 (.inr (4, fs16)) ∧ fs16[0]? = some (.ref y17) ∧ ∃ (fs18 : List Value) (y19 : Int32), Hs X y17 (.inr (8, fs18)) ∧ fs18[1]? = some (.int y19) ∧ (¬ v1 = y19 → bk_X4_fillHour_66 post mc ms v0 v1 v2 v3 (bk_X4_fillHour_33 post mc ms v0 v1 v2 v3 k) X kc ks b33_4 b33_5 (0 : Int32) (((v1 * (21 : Int32)) + b33_5)) b33_4) ∧ (v1 = y19 → bk_X4_fillHour_66 post mc ms v0 v1 v2 v3 (bk_X4_fillHour_33 post mc ms v0 v1 v2 v3 k) X kc ks b33_4 b33_5 (1000000 : Int32) (((v1 * (21 : Int32)) + b33_5)) b33_4))
def wp_X4_fillHour (post : Hp → Prop) (mc ms : Nat) (X : Hp) (v0 : Nat) (v1 : Int32) (v2 : Int32) (v3 : Int32) : Prop := ∃ fs13 : List Value, Hs X v0 (.inr (4, fs13)) ∧ ∃ m1 m2 : Nat, 0 + m1 ≤ mc ∧ 0 + m2 ≤ ms ∧ wp_X4_planeOf (fun r4 X3 => (r4 = none → (0 + m1) ≤ mc ∧ (0 + m2) ≤ ms ∧ post X3) ∧ (∀ y5 : Nat, r4 = some y5 → ∃ (fs7 : List Value) (y8 : Int32), Hs X3 y5 (.inr (5, fs7)) ∧ fs7[0]? = some (.int y8) ∧ (v1 < y8 → ∃ (fs10 : List Value), Hs X3 y5 (.inr (5, fs10)) ∧ 0 < fs10.length ∧ ∀ X11 : Hp, X11 = hput X3 y5 (.inr (5, fs10.set 0 (.int v1))) → ∃ n12 : Nat, bk_X4_fillHour_33 post mc ms v0 v1 v2 v3 n12 X11 ((0 + m1)) ((0 + m2)) y5 (0 : Int32)) ∧ (¬ v1 < y8 → (0 + m1) ≤ mc ∧ (0 + m2) ≤ ms ∧ post X3))) m1 m2 X v0 v1 v2 v3
set_option maxHeartbeats 4000000 in
set_option maxRecDepth 100000 in
theorem c_X4_fillHour (l : Launch) (D : va_G) (kA : Nat → ClassId) (post : Hp → Prop) (mc ms : Nat) (X : Hp) (sz : Nat) (v0 : Nat) (v1 : Int32) (v2 : Int32) (v3 : Int32) (h : wp_X4_fillHour post mc ms X v0 v1 v2 v3) : Met l yX4_fillHour (.code yX4_fillHour cX4_fillHour 7 none :: gd) (rmO 4 mc ms 91) (va_Pc [Value.ref v0, Value.int v1, Value.int v2, Value.int v3] (PreM D kA X sz)) (va_Qv post (PoM D kA X sz) (va_A (hw kA X) sz)) mc ms (va_A (hw kA X) sz) := by
  unfold wp_X4_fillHour at h
  refine x_enM (by decide) (Nat.le_of_ble_eq_true rfl) ?_
  intro p e s m below meth c G hr hlk hin hsz hA S ls hl
  obtain ⟨hx, hb, hml, hown, hts, hE, hK⟩ := id G
  have hl : lv_has ls 7 [(0, .ref v0), (1, .int v1), (2, .int v2), (3, .int v3)] := hl
  obtain ⟨X0, hX0⟩ : ∃ Y : Hp, Y = X := ⟨_, rfl⟩
  subst hX0
  have J_78 : ∀ (n : Nat) (X : Hp) (kc : Nat) (ks : Nat) (b78_4 : Nat) (b78_5 : Int32), ∀ (H : Heap) (locs : List Loc) (_ : bk_X4_fillHour_78 post mc ms v0 v1 v2 v3  n X kc ks b78_4 b78_5), Sx D kA (va_A (hw kA X0) sz) s.heap H locs X → ∀ ls, lv_has ls 7 [(0, .ref v0), (1, .int v1), (2, .int v2), (3, .int v3), (4, .ref b78_4), (5, .int b78_5)] → W p l e (rmO 4 mc ms 91) s m [Value.ref v0, Value.int v1, Value.int v2, Value.int v3].toArray below meth c H locs kc ks (MQ below (va_Qv post (PoM D kA X0 sz) (va_A (hw kA X0) sz)) [Value.ref v0, Value.int v1, Value.int v2, Value.int v3].toArray s mc ms (va_A (hw kA X0) sz)) (F0 m 78 ls []) := by
    intro n
    induction n with
    | zero =>
      intro X kc ks b78_4 b78_5 H locs h S ls hl
      rw [bk_X4_fillHour_78] at h
      exact h.elim
    | succ n_78 ih_78 =>
      have J_112 : ∀ (X : Hp) (kc : Nat) (ks : Nat) (b112_4 : Nat) (b112_5 : Int32), ∀ (H : Heap) (locs : List Loc) (_ : bk_X4_fillHour_112 post mc ms v0 v1 v2 v3 (bk_X4_fillHour_78 post mc ms v0 v1 v2 v3 n_78) X kc ks b112_4 b112_5), Sx D kA (va_A (hw kA X0) sz) s.heap H locs X → ∀ ls, lv_has ls 7 [(0, .ref v0), (1, .int v1), (2, .int v2), (3, .int v3), (4, .ref b112_4), (5, .int b112_5)] → W p l e (rmO 4 mc ms 91) s m [Value.ref v0, Value.int v1, Value.int v2, Value.int v3].toArray below meth c H locs kc ks (MQ below (va_Qv post (PoM D kA X0 sz) (va_A (hw kA X0) sz)) [Value.ref v0, Value.int v1, Value.int v2, Value.int v3].toArray s mc ms (va_A (hw kA X0) sz)) (F0 m 112 ls []) := by
        intro X kc ks b112_4 b112_5 H locs h S ls hl
        unfold bk_X4_fillHour_112 at h
        obtain ⟨x34, ex34⟩ : ∃ y : Int32, y = b112_5 + (1 : Int32) := ⟨_, rfl⟩
        have h := h x34 ex34
        refine lv_iinc (v := x34) (lv' := [(5, .int x34), (0, .ref v0), (1, .int v1), (2, .int v2), (3, .int v3), (4, .ref b112_4)]) hx hb dX4_fillHour_112 hl (k := 5) rfl (by rw [ex34]; rfl) (by decide) rfl (fun ls hl => ?_)
        refine lv_goto (tgt := 78) hx hb dX4_fillHour_115 (by decide) ?_
        exact ih_78 _ _ _ _ _ _ _ h S ls (lv_sub hl [1, 2, 3, 4, 5, 0] rfl)
      intro X kc ks b78_4 b78_5 H locs h S ls hl
      rw [bk_X4_fillHour_78] at h
      refine lv_iload hx hb dX4_fillHour_78 (lv_at hl 5 rfl) ?_
      refine lv_bipush (v := (10 : Int32)) hx hb dX4_fillHour_80 (by decide) ?_
      refine lv_icmp_ge (tgt := 118) hx hb dX4_fillHour_82 (by decide) (fun c24 => ?_) (fun c24 => ?_)
      · have h := h.1 c24
        obtain ⟨hk1, hk2, h⟩ := h
        exact x_vretM G hr hlk S hk1 hk2 h dX4_fillHour_118
      · have h := h.2 c24
        refine lv_aload_n hx hb dX4_fillHour_85 rfl (lv_at hl 0 rfl) ?_
        refine lv_iload_n hx hb dX4_fillHour_86 rfl (lv_at hl 1 rfl) ?_
        refine lv_iload_n hx hb dX4_fillHour_87 rfl (lv_at hl 2 rfl) ?_
        refine lv_iload_n hx hb dX4_fillHour_88 rfl (lv_at hl 3 rfl) ?_
        refine lv_iload hx hb dX4_fillHour_89 (lv_at hl 5 rfl) ?_
        obtain ⟨fs33, hfs33, h⟩ := h
        obtain ⟨m25, m26, hm1, hm2, h⟩ := h
        refine x_cMVq (As := [.int v1, .int v2, .int v3, .int b78_5]) (rest := []) G S hA hfs33 rfl rfl (c_X4_planeBehind l D kA _ _ _ _ _ v0 v1 v2 v3 b78_5 h) cd_X4_planeBehind ml_X4_91 ⟨(Nat.le_of_ble_eq_true rfl), (Nat.le_of_ble_eq_true rfl)⟩ rfl hl.1 rfl (Nat.le_of_ble_eq_true rfl) dX4_fillHour_91 ⟨hm1, hm2⟩ (fun r28 X H locs h S => ?_)
        refine x_spl (fun c30 => ?_) (fun y29 c30 => ?_)
        · have h := h.1 c30
          refine lv_astoreN (lv' := [(6, .null), (0, .ref v0), (1, .int v1), (2, .int v2), (3, .int v3), (4, .ref b78_4), (5, .int b78_5)]) hx hb dX4_fillHour_94 hl (by decide) rfl (fun ls hl => ?_)
          refine lv_aloadN hx hb dX4_fillHour_96 (lv_at hl 0 rfl) ?_
          refine lv_ifnullN (tgt := 112) hx hb dX4_fillHour_98 (by decide) ?_
          exact J_112 _ _ _ _ _ _ _ h S ls (lv_sub hl [1, 2, 3, 4, 5, 6] rfl)
        · have h := h.2 y29 c30
          refine lv_astore (lv' := [(6, .ref y29), (0, .ref v0), (1, .int v1), (2, .int v2), (3, .int v3), (4, .ref b78_4), (5, .int b78_5)]) hx hb dX4_fillHour_94 hl (by decide) rfl (fun ls hl => ?_)
          refine lv_aload hx hb dX4_fillHour_96 (lv_at hl 0 rfl) ?_
          refine lv_ifnull hx hb dX4_fillHour_98 ?_
          refine lv_aload_n hx hb dX4_fillHour_101 rfl (lv_at hl 1 rfl) ?_
          refine lv_aload hx hb dX4_fillHour_102 (lv_at hl 5 rfl) ?_
          refine lv_iload_n hx hb dX4_fillHour_104 rfl (lv_at hl 2 rfl) ?_
          refine lv_iload hx hb dX4_fillHour_105 (lv_at hl 6 rfl) ?_
          refine lv_aload hx hb dX4_fillHour_107 (lv_at hl 0 rfl) ?_
          obtain ⟨fs32, hfs32, h⟩ := h
          obtain ⟨hkc, hks, h⟩ := h
          refine x_cMVv (As := [.ref b78_4, .int v1, .int b78_5, .ref y29]) (rest := []) G S hA hfs32 rfl rfl (c_X4_weigh l D kA _ _ _ v0 b78_4 v1 b78_5 y29 h) cd_X4_weigh ml_X4_95 ⟨(Nat.le_of_ble_eq_true rfl), (Nat.le_of_ble_eq_true rfl)⟩ rfl hl.1 rfl (Nat.le_of_ble_eq_true rfl) dX4_fillHour_109 ⟨hkc, hks⟩ (fun X H locs h S => ?_)
          exact J_112 _ _ _ _ _ _ _ h S ls (lv_sub hl [1, 2, 3, 4, 5, 6] rfl)
  have J_33 : ∀ (n : Nat) (X : Hp) (kc : Nat) (ks : Nat) (b33_4 : Nat) (b33_5 : Int32), ∀ (H : Heap) (locs : List Loc) (_ : bk_X4_fillHour_33 post mc ms v0 v1 v2 v3  n X kc ks b33_4 b33_5), Sx D kA (va_A (hw kA X0) sz) s.heap H locs X → ∀ ls, lv_has ls 7 [(0, .ref v0), (1, .int v1), (2, .int v2), (3, .int v3), (4, .ref b33_4), (5, .int b33_5)] → W p l e (rmO 4 mc ms 91) s m [Value.ref v0, Value.int v1, Value.int v2, Value.int v3].toArray below meth c H locs kc ks (MQ below (va_Qv post (PoM D kA X0 sz) (va_A (hw kA X0) sz)) [Value.ref v0, Value.int v1, Value.int v2, Value.int v3].toArray s mc ms (va_A (hw kA X0) sz)) (F0 m 33 ls []) := by
    intro n
    induction n with
    | zero =>
      intro X kc ks b33_4 b33_5 H locs h S ls hl
      rw [bk_X4_fillHour_33] at h
      exact h.elim
    | succ n_33 ih_33 =>
      have J_66 : ∀ (X : Hp) (kc : Nat) (ks : Nat) (b66_4 : Nat) (b66_5 : Int32) (b66_s0 : Int32) (b66_s1 : Int32) (b66_s2 : Nat), ∀ (H : Heap) (locs : List Loc) (_ : bk_X4_fillHour_66 post mc ms v0 v1 v2 v3 (bk_X4_fillHour_33 post mc ms v0 v1 v2 v3 n_33) X kc ks b66_4 b66_5 b66_s0 b66_s1 b66_s2), Sx D kA (va_A (hw kA X0) sz) s.heap H locs X → ∀ ls, lv_has ls 7 [(0, .ref v0), (1, .int v1), (2, .int v2), (3, .int v3), (4, .ref b66_4), (5, .int b66_5)] → W p l e (rmO 4 mc ms 91) s m [Value.ref v0, Value.int v1, Value.int v2, Value.int v3].toArray below meth c H locs kc ks (MQ below (va_Qv post (PoM D kA X0 sz) (va_A (hw kA X0) sz)) [Value.ref v0, Value.int v1, Value.int v2, Value.int v3].toArray s mc ms (va_A (hw kA X0) sz)) (F0 m 66 ls [.int b66_s0, .int b66_s1, .ref b66_s2]) := by
        intro X kc ks b66_4 b66_5 b66_s0 b66_s1 b66_s2 H locs h S ls hl
        unfold bk_X4_fillHour_66 at h
        obtain ⟨fs23, hfs23, h⟩ := h
        obtain ⟨hkc, hks, h⟩ := h
        refine x_cMVv (As := [.int b66_s1, .int b66_s0]) (rest := []) G S hA hfs23 rfl rfl (c_X5_put l D kA _ _ _ b66_s2 b66_s1 b66_s0 h) cd_X5_put ml_X4_87 ⟨(Nat.le_of_ble_eq_true rfl), (Nat.le_of_ble_eq_true rfl)⟩ rfl hl.1 rfl (Nat.le_of_ble_eq_true rfl) dX4_fillHour_66 ⟨hkc, hks⟩ (fun X H locs h S => ?_)
        obtain ⟨x22, ex22⟩ : ∃ y : Int32, y = b66_5 + (1 : Int32) := ⟨_, rfl⟩
        have h := h x22 ex22
        refine lv_iinc (v := x22) (lv' := [(5, .int x22), (0, .ref v0), (1, .int v1), (2, .int v2), (3, .int v3), (4, .ref b66_4)]) hx hb dX4_fillHour_69 hl (k := 5) rfl (by rw [ex22]; rfl) (by decide) rfl (fun ls hl => ?_)
        refine lv_goto (tgt := 33) hx hb dX4_fillHour_72 (by decide) ?_
        exact ih_33 _ _ _ _ _ _ _ h S ls (lv_sub hl [1, 2, 3, 4, 5, 0] rfl)
      intro X kc ks b33_4 b33_5 H locs h S ls hl
      rw [bk_X4_fillHour_33] at h
      refine lv_iload hx hb dX4_fillHour_33 (lv_at hl 5 rfl) ?_
      refine lv_bipush (v := (21 : Int32)) hx hb dX4_fillHour_35 (by decide) ?_
      refine lv_icmp_ge (tgt := 75) hx hb dX4_fillHour_37 (by decide) (fun c14 => ?_) (fun c14 => ?_)
      · have h := h.1 c14
        refine lv_iconst (v := (0 : Int32)) hx hb dX4_fillHour_75 (by decide) ?_
        refine lv_istore (lv' := [(5, .int (0 : Int32)), (0, .ref v0), (1, .int v1), (2, .int v2), (3, .int v3), (4, .ref b33_4)]) hx hb dX4_fillHour_76 hl (by decide) rfl (fun ls hl => ?_)
        obtain ⟨n15, h⟩ := h
        exact J_78 n15 _ _ _ _ _ _ _ h S ls (lv_sub hl [1, 2, 3, 4, 5, 0] rfl)
      · have h := h.2 c14
        refine lv_aload hx hb dX4_fillHour_40 (lv_at hl 4 rfl) ?_
        refine lv_iload_n hx hb dX4_fillHour_42 rfl (lv_at hl 1 rfl) ?_
        refine lv_bipush (v := (21 : Int32)) hx hb dX4_fillHour_43 (by decide) ?_
        refine lv_imul hx hb dX4_fillHour_45 ?_
        refine lv_iload hx hb dX4_fillHour_46 (lv_at hl 5 rfl) ?_
        refine lv_iadd hx hb dX4_fillHour_48 ?_
        refine lv_iload_n hx hb dX4_fillHour_49 rfl (lv_at hl 1 rfl) ?_
        refine lv_aload_n hx hb dX4_fillHour_50 rfl (lv_at hl 0 rfl) ?_
        obtain ⟨fs16, y17, hfs16, hvfs16, h⟩ := h
        refine x_get G S.1 hfs16 hvfs16 fl_X4_9 dX4_fillHour_51 ?_
        obtain ⟨fs18, y19, hfs18, hvfs18, h⟩ := h
        refine x_get G S.1 hfs18 hvfs18 fl_X4_33 dX4_fillHour_54 ?_
        refine lv_icmp_ne (tgt := 65) hx hb dX4_fillHour_57 (by decide) (fun c20 => ?_) (fun c20 => ?_)
        · have h := h.1 c20
          refine lv_iconst (v := (0 : Int32)) hx hb dX4_fillHour_65 (by decide) ?_
          exact J_66 _ _ _ _ _ _ _ _ _ _ h S ls (lv_sub hl [0, 1, 2, 3, 4, 5] rfl)
        · have h := h.2 c20
          refine lv_ldc hx hb hown (hts _ kc_X4_86) dX4_fillHour_60 ?_
          refine lv_goto (tgt := 66) hx hb dX4_fillHour_62 (by decide) ?_
          exact J_66 _ _ _ _ _ _ _ _ _ _ h S ls (lv_sub hl [0, 1, 2, 3, 4, 5] rfl)
  refine lv_aload_n hx hb dX4_fillHour_0 rfl (lv_at hl 0 rfl) ?_
  refine lv_iload_n hx hb dX4_fillHour_1 rfl (lv_at hl 1 rfl) ?_
  refine lv_iload_n hx hb dX4_fillHour_2 rfl (lv_at hl 2 rfl) ?_
  refine lv_iload_n hx hb dX4_fillHour_3 rfl (lv_at hl 3 rfl) ?_
  obtain ⟨fs13, hfs13, h⟩ := h
  obtain ⟨m1, m2, hm1, hm2, h⟩ := h
  refine x_cMVq (As := [.int v1, .int v2, .int v3]) (rest := []) G S hA hfs13 rfl rfl (c_X4_planeOf l D kA _ _ _ _ _ v0 v1 v2 v3 h) cd_X4_planeOf ml_X4_46 ⟨(Nat.le_of_ble_eq_true rfl), (Nat.le_of_ble_eq_true rfl)⟩ rfl hl.1 rfl (Nat.le_of_ble_eq_true rfl) dX4_fillHour_4 ⟨hm1, hm2⟩ (fun r4 X H locs h S => ?_)
  refine x_spl (fun c6 => ?_) (fun y5 c6 => ?_)
  · have h := h.1 c6
    refine lv_astoreN (lv' := [(4, .null), (0, .ref v0), (1, .int v1), (2, .int v2), (3, .int v3)]) hx hb dX4_fillHour_7 hl (by decide) rfl (fun ls hl => ?_)
    refine lv_aloadN hx hb dX4_fillHour_9 (lv_at hl 0 rfl) ?_
    refine lv_ifnullN (tgt := 23) hx hb dX4_fillHour_11 (by decide) ?_
    obtain ⟨hk1, hk2, h⟩ := h
    exact x_vretM G hr hlk S hk1 hk2 h dX4_fillHour_23
  · have h := h.2 y5 c6
    refine lv_astore (lv' := [(4, .ref y5), (0, .ref v0), (1, .int v1), (2, .int v2), (3, .int v3)]) hx hb dX4_fillHour_7 hl (by decide) rfl (fun ls hl => ?_)
    refine lv_aload hx hb dX4_fillHour_9 (lv_at hl 0 rfl) ?_
    refine lv_ifnull hx hb dX4_fillHour_11 ?_
    refine lv_aload hx hb dX4_fillHour_14 (lv_at hl 0 rfl) ?_
    obtain ⟨fs7, y8, hfs7, hvfs7, h⟩ := h
    refine x_get G S.1 hfs7 hvfs7 fl_X4_29 dX4_fillHour_16 ?_
    refine lv_iload_n hx hb dX4_fillHour_19 rfl (lv_at hl 2 rfl) ?_
    refine lv_icmp_gt (tgt := 24) hx hb dX4_fillHour_20 (by decide) (fun c9 => ?_) (fun c9 => ?_)
    · have h := h.1 c9
      refine lv_aload hx hb dX4_fillHour_24 (lv_at hl 0 rfl) ?_
      refine lv_iload_n hx hb dX4_fillHour_26 rfl (lv_at hl 2 rfl) ?_
      obtain ⟨fs10, hfs10, hkfs10, h⟩ := h
      have h := h _ rfl
      refine x_put G S hfs10 hkfs10 rfl rfl fw_X4_29 dX4_fillHour_27 (fun H locs S => ?_)
      refine lv_iconst (v := (0 : Int32)) hx hb dX4_fillHour_30 (by decide) ?_
      refine lv_istore (lv' := [(5, .int (0 : Int32)), (4, .ref y5), (0, .ref v0), (1, .int v1), (2, .int v2), (3, .int v3)]) hx hb dX4_fillHour_31 hl (by decide) rfl (fun ls hl => ?_)
      obtain ⟨n12, h⟩ := h
      exact J_33 n12 _ _ _ _ _ _ _ h S ls (lv_sub hl [2, 3, 4, 5, 1, 0] rfl)
    · have h := h.2 c9
      obtain ⟨hk1, hk2, h⟩ := h
      exact x_vretM G hr hlk S hk1 hk2 h dX4_fillHour_23
def bk_X4_fill_79 (post : Hp → Prop) (mc ms : Nat) (v0 : Nat) (v1 : Int32) (v2 : Int32) (v3 : Int32) (r_33 : Hp → Nat → Nat → Int32 → Prop) (r_59 : Hp → Nat → Nat → Int32 → Int32 → Prop) : Nat → Hp → Nat → Nat → Int32 → Int32 → Int32 → Int32 → Prop
  | 0, _, _, _, _, _, _, _ => False
  | k + 1, X, kc, ks, b79_5, b79_6, b79_7, b79_8 => (b79_7 < b79_8 → ∀ x32 : Int32, x32 = b79_6 + (1 : Int32) → r_59 X kc ks b79_5 x32) ∧ (¬ b79_7 < b79_8 → ∃ fs37 : List Value, Hs X v0 (.inr (4, fs37)) ∧ ∃ m33 m34 : Nat, kc + m33 ≤ mc ∧ ks + m34 ≤ ms ∧ wp_X4_fillHour (fun X35 => ∀ x36 : Int32, x36 = b79_8 + (1 : Int32) → (bk_X4_fill_79 post mc ms v0 v1 v2 v3 r_33 r_59 k) X35 ((kc + m33)) ((ks + m34)) b79_5 b79_6 b79_7 x36) m33 m34 X v0 b79_5 b79_8 b79_6)
def bk_X4_fill_59 (post : Hp → Prop) (mc ms : Nat) (v0 : Nat) (v1 : Int32) (v2 : Int32) (v3 : Int32) (r_33 : Hp → Nat → Nat → Int32 → Prop) : Nat → Hp → Nat → Nat → Int32 → Int32 → Prop
  | 0, _, _, _, _, _ => False
  | k + 1, X, kc, ks, b59_5, b59_6 => (v3 < b59_6 → ∀ x27 : Int32, x27 = b59_5 + (-1 : Int32) → r_33 X kc ks x27) ∧ (¬ v3 < b59_6 → ∃ fs30 : List Value, Hs X v0 (.inr (4, fs30)) ∧ kc ≤ mc ∧ ks ≤ ms ∧ wp_X4_spendable (fun r28 => ∃ n29 : Nat, bk_X4_fill_79 post mc ms v0 v1 v2 v3 r_33 (bk_X4_fill_59 post mc ms v0 v1 v2 v3 r_33 k) n29 X kc ks b59_5 b59_6 r28 (0 : Int32)) X v0 b59_5 v2 b59_6)
def bk_X4_fill_33 (post : Hp → Prop) (mc ms : Nat) (v0 : Nat) (v1 : Int32) (v2 : Int32) (v3 : Int32)  : Nat → Hp → Nat → Nat → Int32 → Prop
  | 0, _, _, _, _ => False
  | k + 1, X, kc, ks, b33_5 => (b33_5 < v1 → kc ≤ mc ∧ ks ≤ ms ∧ post X) ∧ (¬ b33_5 < v1 → ∃ (fs17 : List Value) (y18 : Nat), Hs X v0 (.inr (4, fs17)) ∧ fs17[2]? = some (.ref y18) ∧ ∃ (fs19 : List Value) (y20 : Nat), Hs X v0 (.inr (4, fs19)) ∧ fs19[0]? = some (.ref y20) ∧ ∃ (fs21 : List Value) (y22 : Nat), Hs X v0 (.inr (4, fs21)) ∧ fs21[1]? = some (.ref y22) ∧ ∃ fs25 : List Value, Hs X y18 (.inr (6, fs25)) ∧ kc ≤ mc ∧ ks ≤ ms ∧ wp_X6_ready (fun X23 => ∃ n24 : Nat, bk_X4_fill_59 post mc ms v0 v1 v2 v3 (bk_X4_fill_33 post mc ms v0 v1 v2 v3 k) n24 X23 kc ks b33_5 (0 : Int32)) X y18 y20 y22 b33_5)
def wp_X4_fill (post : Hp → Prop) (mc ms : Nat) (X : Hp) (v0 : Nat) (v1 : Int32) (v2 : Int32) (v3 : Int32) : Prop := ∃ fs15 : List Value, Hs X v0 (.inr (4, fs15)) ∧ ∃ m1 m2 : Nat, 0 + m1 ≤ mc ∧ 0 + m2 ≤ ms ∧ wp_X4_planeOf (fun r4 X3 => (r4 = none → (0 + m1) ≤ mc ∧ (0 + m2) ≤ ms ∧ post X3) ∧ (∀ y5 : Nat, r4 = some y5 → ∃ (fs7 : List Value) (y8 : Int32), Hs X3 y5 (.inr (5, fs7)) ∧ fs7[0]? = some (.int y8) ∧ (v1 < y8 → ∃ (fs10 : List Value) (y11 : Nat), Hs X3 v0 (.inr (4, fs10)) ∧ fs10[0]? = some (.ref y11) ∧ ∃ (fs12 : List Value) (y13 : Int32), Hs X3 y11 (.inr (8, fs12)) ∧ fs12[1]? = some (.int y13) ∧ ∃ n14 : Nat, bk_X4_fill_33 post mc ms v0 v1 v2 v3 n14 X3 ((0 + m1)) ((0 + m2)) y13) ∧ (¬ v1 < y8 → (0 + m1) ≤ mc ∧ (0 + m2) ≤ ms ∧ post X3))) m1 m2 X v0 v1 v2 v3
set_option maxHeartbeats 4000000 in
set_option maxRecDepth 100000 in
theorem c_X4_fill (l : Launch) (D : va_G) (kA : Nat → ClassId) (post : Hp → Prop) (mc ms : Nat) (X : Hp) (sz : Nat) (v0 : Nat) (v1 : Int32) (v2 : Int32) (v3 : Int32) (h : wp_X4_fill post mc ms X v0 v1 v2 v3) : Met l yX4_fill (.code yX4_fill cX4_fill 9 none :: gd) (rmO 5 mc ms 121) (va_Pc [Value.ref v0, Value.int v1, Value.int v2, Value.int v3] (PreM D kA X sz)) (va_Qv post (PoM D kA X sz) (va_A (hw kA X) sz)) mc ms (va_A (hw kA X) sz) := by
  unfold wp_X4_fill at h
  refine x_enM (by decide) (Nat.le_of_ble_eq_true rfl) ?_
  intro p e s m below meth c G hr hlk hin hsz hA S ls hl
  obtain ⟨hx, hb, hml, hown, hts, hE, hK⟩ := id G
  have hl : lv_has ls 9 [(0, .ref v0), (1, .int v1), (2, .int v2), (3, .int v3)] := hl
  obtain ⟨X0, hX0⟩ : ∃ Y : Hp, Y = X := ⟨_, rfl⟩
  subst hX0
  have J_33 : ∀ (n : Nat) (X : Hp) (kc : Nat) (ks : Nat) (b33_5 : Int32), ∀ (H : Heap) (locs : List Loc) (_ : bk_X4_fill_33 post mc ms v0 v1 v2 v3  n X kc ks b33_5), Sx D kA (va_A (hw kA X0) sz) s.heap H locs X → ∀ ls, lv_has ls 9 [(0, .ref v0), (1, .int v1), (2, .int v2), (3, .int v3), (5, .int b33_5)] → W p l e (rmO 5 mc ms 121) s m [Value.ref v0, Value.int v1, Value.int v2, Value.int v3].toArray below meth c H locs kc ks (MQ below (va_Qv post (PoM D kA X0 sz) (va_A (hw kA X0) sz)) [Value.ref v0, Value.int v1, Value.int v2, Value.int v3].toArray s mc ms (va_A (hw kA X0) sz)) (F0 m 33 ls []) := by
    intro n
    induction n with
    | zero =>
      intro X kc ks b33_5 H locs h S ls hl
      rw [bk_X4_fill_33] at h
      exact h.elim
    | succ n_33 ih_33 =>
      have J_59 : ∀ (n : Nat) (X : Hp) (kc : Nat) (ks : Nat) (b59_5 : Int32) (b59_6 : Int32), ∀ (H : Heap) (locs : List Loc) (_ : bk_X4_fill_59 post mc ms v0 v1 v2 v3 (bk_X4_fill_33 post mc ms v0 v1 v2 v3 n_33) n X kc ks b59_5 b59_6), Sx D kA (va_A (hw kA X0) sz) s.heap H locs X → ∀ ls, lv_has ls 9 [(0, .ref v0), (1, .int v1), (2, .int v2), (3, .int v3), (5, .int b59_5), (6, .int b59_6)] → W p l e (rmO 5 mc ms 121) s m [Value.ref v0, Value.int v1, Value.int v2, Value.int v3].toArray below meth c H locs kc ks (MQ below (va_Qv post (PoM D kA X0 sz) (va_A (hw kA X0) sz)) [Value.ref v0, Value.int v1, Value.int v2, Value.int v3].toArray s mc ms (va_A (hw kA X0) sz)) (F0 m 59 ls []) := by
        intro n
        induction n with
        | zero =>
          intro X kc ks b59_5 b59_6 H locs h S ls hl
          rw [bk_X4_fill_59] at h
          exact h.elim
        | succ n_59 ih_59 =>
          have J_79 : ∀ (n : Nat) (X : Hp) (kc : Nat) (ks : Nat) (b79_5 : Int32) (b79_6 : Int32) (b79_7 : Int32) (b79_8 : Int32), ∀ (H : Heap) (locs : List Loc) (_ : bk_X4_fill_79 post mc ms v0 v1 v2 v3 (bk_X4_fill_33 post mc ms v0 v1 v2 v3 n_33) (bk_X4_fill_59 post mc ms v0 v1 v2 v3 (bk_X4_fill_33 post mc ms v0 v1 v2 v3 n_33) n_59) n X kc ks b79_5 b79_6 b79_7 b79_8), Sx D kA (va_A (hw kA X0) sz) s.heap H locs X → ∀ ls, lv_has ls 9 [(0, .ref v0), (1, .int v1), (2, .int v2), (3, .int v3), (5, .int b79_5), (6, .int b79_6), (7, .int b79_7), (8, .int b79_8)] → W p l e (rmO 5 mc ms 121) s m [Value.ref v0, Value.int v1, Value.int v2, Value.int v3].toArray below meth c H locs kc ks (MQ below (va_Qv post (PoM D kA X0 sz) (va_A (hw kA X0) sz)) [Value.ref v0, Value.int v1, Value.int v2, Value.int v3].toArray s mc ms (va_A (hw kA X0) sz)) (F0 m 79 ls []) := by
            intro n
            induction n with
            | zero =>
              intro X kc ks b79_5 b79_6 b79_7 b79_8 H locs h S ls hl
              rw [bk_X4_fill_79] at h
              exact h.elim
            | succ n_79 ih_79 =>
              intro X kc ks b79_5 b79_6 b79_7 b79_8 H locs h S ls hl
              rw [bk_X4_fill_79] at h
              refine lv_iload hx hb dX4_fill_79 (lv_at hl 7 rfl) ?_
              refine lv_iload hx hb dX4_fill_81 (lv_at hl 6 rfl) ?_
              refine lv_icmp_gt (tgt := 102) hx hb dX4_fill_83 (by decide) (fun c31 => ?_) (fun c31 => ?_)
              · have h := h.1 c31
                obtain ⟨x32, ex32⟩ : ∃ y : Int32, y = b79_6 + (1 : Int32) := ⟨_, rfl⟩
                have h := h x32 ex32
                refine lv_iinc (v := x32) (lv' := [(6, .int x32), (0, .ref v0), (1, .int v1), (2, .int v2), (3, .int v3), (5, .int b79_5), (7, .int b79_7), (8, .int b79_8)]) hx hb dX4_fill_102 hl (k := 5) rfl (by rw [ex32]; rfl) (by decide) rfl (fun ls hl => ?_)
                refine lv_goto (tgt := 59) hx hb dX4_fill_105 (by decide) ?_
                exact ih_59 _ _ _ _ _ _ _ h S ls (lv_sub hl [1, 2, 3, 4, 5, 0] rfl)
              · have h := h.2 c31
                refine lv_aload_n hx hb dX4_fill_86 rfl (lv_at hl 0 rfl) ?_
                refine lv_iload hx hb dX4_fill_87 (lv_at hl 4 rfl) ?_
                refine lv_iload hx hb dX4_fill_89 (lv_at hl 7 rfl) ?_
                refine lv_iload hx hb dX4_fill_91 (lv_at hl 5 rfl) ?_
                obtain ⟨fs37, hfs37, h⟩ := h
                obtain ⟨m33, m34, hm1, hm2, h⟩ := h
                refine x_cMVv (As := [.int b79_5, .int b79_8, .int b79_6]) (rest := []) G S hA hfs37 rfl rfl (c_X4_fillHour l D kA _ _ _ _ _ v0 b79_5 b79_8 b79_6 h) cd_X4_fillHour ml_X4_83 ⟨(Nat.le_of_ble_eq_true rfl), (Nat.le_of_ble_eq_true rfl)⟩ rfl hl.1 rfl (Nat.le_of_ble_eq_true rfl) dX4_fill_93 ⟨hm1, hm2⟩ (fun X H locs h S => ?_)
                obtain ⟨x36, ex36⟩ : ∃ y : Int32, y = b79_8 + (1 : Int32) := ⟨_, rfl⟩
                have h := h x36 ex36
                refine lv_iinc (v := x36) (lv' := [(8, .int x36), (0, .ref v0), (1, .int v1), (2, .int v2), (3, .int v3), (5, .int b79_5), (6, .int b79_6), (7, .int b79_7)]) hx hb dX4_fill_96 hl (k := 7) rfl (by rw [ex36]; rfl) (by decide) rfl (fun ls hl => ?_)
                refine lv_goto (tgt := 79) hx hb dX4_fill_99 (by decide) ?_
                exact ih_79 _ _ _ _ _ _ _ _ _ h S ls (lv_sub hl [1, 2, 3, 4, 5, 6, 7, 0] rfl)
          intro X kc ks b59_5 b59_6 H locs h S ls hl
          rw [bk_X4_fill_59] at h
          refine lv_iload hx hb dX4_fill_59 (lv_at hl 5 rfl) ?_
          refine lv_iload_n hx hb dX4_fill_61 rfl (lv_at hl 3 rfl) ?_
          refine lv_icmp_gt (tgt := 108) hx hb dX4_fill_62 (by decide) (fun c26 => ?_) (fun c26 => ?_)
          · have h := h.1 c26
            obtain ⟨x27, ex27⟩ : ∃ y : Int32, y = b59_5 + (-1 : Int32) := ⟨_, rfl⟩
            have h := h x27 ex27
            refine lv_iinc (v := x27) (lv' := [(5, .int x27), (0, .ref v0), (1, .int v1), (2, .int v2), (3, .int v3), (6, .int b59_6)]) hx hb dX4_fill_108 hl (k := 4) rfl (by rw [ex27]; rfl) (by decide) rfl (fun ls hl => ?_)
            refine lv_goto (tgt := 33) hx hb dX4_fill_111 (by decide) ?_
            exact ih_33 _ _ _ _ _ _ h S ls (lv_sub hl [1, 2, 3, 4, 0] rfl)
          · have h := h.2 c26
            refine lv_aload_n hx hb dX4_fill_65 rfl (lv_at hl 0 rfl) ?_
            refine lv_iload hx hb dX4_fill_66 (lv_at hl 4 rfl) ?_
            refine lv_iload_n hx hb dX4_fill_68 rfl (lv_at hl 2 rfl) ?_
            refine lv_iload hx hb dX4_fill_69 (lv_at hl 5 rfl) ?_
            obtain ⟨fs30, hfs30, h⟩ := h
            obtain ⟨hkc, hks, h⟩ := h
            refine x_cRVi (As := [.int b59_5, .int v2, .int b59_6]) (rest := []) G S.1 hfs30 rfl rfl (c_X4_spendable l D kA _ _ v0 b59_5 v2 b59_6 h) cd_X4_spendable ml_X4_79 ⟨(Nat.le_of_ble_eq_true rfl), (Nat.le_of_ble_eq_true rfl)⟩ rfl hl.1 rfl (Nat.le_of_ble_eq_true rfl) dX4_fill_71 ⟨hkc, hks⟩ (fun r28 h => ?_)
            refine lv_istore (lv' := [(7, .int r28), (0, .ref v0), (1, .int v1), (2, .int v2), (3, .int v3), (5, .int b59_5), (6, .int b59_6)]) hx hb dX4_fill_74 hl (by decide) rfl (fun ls hl => ?_)
            refine lv_iconst (v := (0 : Int32)) hx hb dX4_fill_76 (by decide) ?_
            refine lv_istore (lv' := [(8, .int (0 : Int32)), (7, .int r28), (0, .ref v0), (1, .int v1), (2, .int v2), (3, .int v3), (5, .int b59_5), (6, .int b59_6)]) hx hb dX4_fill_77 hl (by decide) rfl (fun ls hl => ?_)
            obtain ⟨n29, h⟩ := h
            exact J_79 n29 _ _ _ _ _ _ _ _ _ h S ls (lv_sub hl [2, 3, 4, 5, 6, 7, 1, 0] rfl)
      intro X kc ks b33_5 H locs h S ls hl
      rw [bk_X4_fill_33] at h
      refine lv_iload hx hb dX4_fill_33 (lv_at hl 4 rfl) ?_
      refine lv_iload_n hx hb dX4_fill_35 rfl (lv_at hl 1 rfl) ?_
      refine lv_icmp_lt (tgt := 114) hx hb dX4_fill_36 (by decide) (fun c16 => ?_) (fun c16 => ?_)
      · have h := h.1 c16
        obtain ⟨hk1, hk2, h⟩ := h
        exact x_vretM G hr hlk S hk1 hk2 h dX4_fill_114
      · have h := h.2 c16
        refine lv_aload_n hx hb dX4_fill_39 rfl (lv_at hl 0 rfl) ?_
        obtain ⟨fs17, y18, hfs17, hvfs17, h⟩ := h
        refine x_get G S.1 hfs17 hvfs17 fl_X4_19 dX4_fill_40 ?_
        refine lv_aload_n hx hb dX4_fill_43 rfl (lv_at hl 0 rfl) ?_
        obtain ⟨fs19, y20, hfs19, hvfs19, h⟩ := h
        refine x_get G S.1 hfs19 hvfs19 fl_X4_9 dX4_fill_44 ?_
        refine lv_aload_n hx hb dX4_fill_47 rfl (lv_at hl 0 rfl) ?_
        obtain ⟨fs21, y22, hfs21, hvfs21, h⟩ := h
        refine x_get G S.1 hfs21 hvfs21 fl_X4_15 dX4_fill_48 ?_
        refine lv_iload hx hb dX4_fill_51 (lv_at hl 4 rfl) ?_
        obtain ⟨fs25, hfs25, h⟩ := h
        obtain ⟨hkc, hks, h⟩ := h
        refine x_cMVv (As := [.ref y20, .ref y22, .int b33_5]) (rest := []) G S hA hfs25 rfl rfl (c_X6_ready l D kA _ _ _ y18 y20 y22 b33_5 h) cd_X6_ready ml_X4_73 ⟨(Nat.le_of_ble_eq_true rfl), (Nat.le_of_ble_eq_true rfl)⟩ rfl hl.1 rfl (Nat.le_of_ble_eq_true rfl) dX4_fill_53 ⟨hkc, hks⟩ (fun X H locs h S => ?_)
        refine lv_iconst (v := (0 : Int32)) hx hb dX4_fill_56 (by decide) ?_
        refine lv_istore (lv' := [(6, .int (0 : Int32)), (0, .ref v0), (1, .int v1), (2, .int v2), (3, .int v3), (5, .int b33_5)]) hx hb dX4_fill_57 hl (by decide) rfl (fun ls hl => ?_)
        obtain ⟨n24, h⟩ := h
        exact J_59 n24 _ _ _ _ _ _ _ h S ls (lv_sub hl [1, 2, 3, 4, 5, 0] rfl)
  refine lv_aload_n hx hb dX4_fill_0 rfl (lv_at hl 0 rfl) ?_
  refine lv_iload_n hx hb dX4_fill_1 rfl (lv_at hl 1 rfl) ?_
  refine lv_iload_n hx hb dX4_fill_2 rfl (lv_at hl 2 rfl) ?_
  refine lv_iload_n hx hb dX4_fill_3 rfl (lv_at hl 3 rfl) ?_
  obtain ⟨fs15, hfs15, h⟩ := h
  obtain ⟨m1, m2, hm1, hm2, h⟩ := h
  refine x_cMVq (As := [.int v1, .int v2, .int v3]) (rest := []) G S hA hfs15 rfl rfl (c_X4_planeOf l D kA _ _ _ _ _ v0 v1 v2 v3 h) cd_X4_planeOf ml_X4_46 ⟨(Nat.le_of_ble_eq_true rfl), (Nat.le_of_ble_eq_true rfl)⟩ rfl hl.1 rfl (Nat.le_of_ble_eq_true rfl) dX4_fill_4 ⟨hm1, hm2⟩ (fun r4 X H locs h S => ?_)
  refine x_spl (fun c6 => ?_) (fun y5 c6 => ?_)
  · have h := h.1 c6
    refine lv_astoreN (lv' := [(4, .null), (0, .ref v0), (1, .int v1), (2, .int v2), (3, .int v3)]) hx hb dX4_fill_7 hl (by decide) rfl (fun ls hl => ?_)
    refine lv_aloadN hx hb dX4_fill_9 (lv_at hl 0 rfl) ?_
    refine lv_ifnullN (tgt := 23) hx hb dX4_fill_11 (by decide) ?_
    obtain ⟨hk1, hk2, h⟩ := h
    exact x_vretM G hr hlk S hk1 hk2 h dX4_fill_23
  · have h := h.2 y5 c6
    refine lv_astore (lv' := [(4, .ref y5), (0, .ref v0), (1, .int v1), (2, .int v2), (3, .int v3)]) hx hb dX4_fill_7 hl (by decide) rfl (fun ls hl => ?_)
    refine lv_aload hx hb dX4_fill_9 (lv_at hl 0 rfl) ?_
    refine lv_ifnull hx hb dX4_fill_11 ?_
    refine lv_aload hx hb dX4_fill_14 (lv_at hl 0 rfl) ?_
    obtain ⟨fs7, y8, hfs7, hvfs7, h⟩ := h
    refine x_get G S.1 hfs7 hvfs7 fl_X4_29 dX4_fill_16 ?_
    refine lv_iload_n hx hb dX4_fill_19 rfl (lv_at hl 2 rfl) ?_
    refine lv_icmp_gt (tgt := 24) hx hb dX4_fill_20 (by decide) (fun c9 => ?_) (fun c9 => ?_)
    · have h := h.1 c9
      refine lv_aload_n hx hb dX4_fill_24 rfl (lv_at hl 1 rfl) ?_
      obtain ⟨fs10, y11, hfs10, hvfs10, h⟩ := h
      refine x_get G S.1 hfs10 hvfs10 fl_X4_9 dX4_fill_25 ?_
      obtain ⟨fs12, y13, hfs12, hvfs12, h⟩ := h
      refine x_get G S.1 hfs12 hvfs12 fl_X4_33 dX4_fill_28 ?_
      refine lv_istore (lv' := [(5, .int y13), (4, .ref y5), (0, .ref v0), (1, .int v1), (2, .int v2), (3, .int v3)]) hx hb dX4_fill_31 hl (by decide) rfl (fun ls hl => ?_)
      obtain ⟨n14, h⟩ := h
      exact J_33 n14 _ _ _ _ _ _ h S ls (lv_sub hl [2, 3, 4, 5, 0] rfl)
    · have h := h.2 c9
      obtain ⟨hk1, hk2, h⟩ := h
      exact x_vretM G hr hlk S hk1 hk2 h dX4_fill_23
def wp_X4_bestFrom (post : Int32 → Hp → Prop) (mc ms : Nat) (X : Hp) (v0 : Nat) (v1 : Int32) (v2 : Int32) (v3 : Int32) (v4 : Int32) : Prop := ∃ fs13 : List Value, Hs X v0 (.inr (4, fs13)) ∧ ∃ m1 m2 : Nat, 0 + m1 ≤ mc ∧ 0 + m2 ≤ ms ∧ wp_X4_fill (fun X3 => ∃ fs12 : List Value, Hs X3 v0 (.inr (4, fs12)) ∧ ∃ m4 m5 : Nat, (0 + m1) + m4 ≤ mc ∧ (0 + m2) + m5 ≤ ms ∧ wp_X4_planeOf (fun r7 X6 => (r7 = none → ((0 + m1) + m4) ≤ mc ∧ ((0 + m2) + m5) ≤ ms ∧ post (0 : Int32) X6) ∧ (∀ y8 : Nat, r7 = some y8 → ∃ fs11 : List Value, Hs X6 y8 (.inr (5, fs11)) ∧ ((0 + m1) + m4) ≤ mc ∧ ((0 + m2) + m5) ≤ ms ∧ wp_X5_at (fun r10 => ((0 + m1) + m4) ≤ mc ∧ ((0 + m2) + m5) ≤ ms ∧ post r10 X6)  X6 y8 ((v1 * (21 : Int32)) + v2))) m4 m5 X3 v0 v1 v3 v4) m1 m2 X v0 v1 v3 v4
set_option maxHeartbeats 4000000 in
set_option maxRecDepth 100000 in
theorem c_X4_bestFrom (l : Launch) (D : va_G) (kA : Nat → ClassId) (post : Int32 → Hp → Prop) (mc ms : Nat) (X : Hp) (sz : Nat) (v0 : Nat) (v1 : Int32) (v2 : Int32) (v3 : Int32) (v4 : Int32) (h : wp_X4_bestFrom post mc ms X v0 v1 v2 v3 v4) : Met l yX4_bestFrom (.code yX4_bestFrom cX4_bestFrom 6 (some .int) :: gd) (rmO 6 mc ms 149) (va_Pc [Value.ref v0, Value.int v1, Value.int v2, Value.int v3, Value.int v4] (PreM D kA X sz)) (va_Qi post (PoM D kA X sz) (va_A (hw kA X) sz)) mc ms (va_A (hw kA X) sz) := by
  unfold wp_X4_bestFrom at h
  refine x_enM (by decide) (Nat.le_of_ble_eq_true rfl) ?_
  intro p e s m below meth c G hr hlk hin hsz hA S ls hl
  obtain ⟨hx, hb, hml, hown, hts, hE, hK⟩ := id G
  have hl : lv_has ls 6 [(0, .ref v0), (1, .int v1), (2, .int v2), (3, .int v3), (4, .int v4)] := hl
  refine lv_aload_n hx hb dX4_bestFrom_0 rfl (lv_at hl 0 rfl) ?_
  refine lv_iload_n hx hb dX4_bestFrom_1 rfl (lv_at hl 1 rfl) ?_
  refine lv_iload_n hx hb dX4_bestFrom_2 rfl (lv_at hl 3 rfl) ?_
  refine lv_iload hx hb dX4_bestFrom_3 (lv_at hl 4 rfl) ?_
  obtain ⟨fs13, hfs13, h⟩ := h
  obtain ⟨m1, m2, hm1, hm2, h⟩ := h
  refine x_cMVv (As := [.int v1, .int v3, .int v4]) (rest := []) G S hA hfs13 rfl rfl (c_X4_fill l D kA _ _ _ _ _ v0 v1 v3 v4 h) cd_X4_fill ml_X4_42 ⟨(Nat.le_of_ble_eq_true rfl), (Nat.le_of_ble_eq_true rfl)⟩ rfl hl.1 rfl (Nat.le_of_ble_eq_true rfl) dX4_bestFrom_5 ⟨hm1, hm2⟩ (fun X H locs h S => ?_)
  refine lv_aload_n hx hb dX4_bestFrom_8 rfl (lv_at hl 0 rfl) ?_
  refine lv_iload_n hx hb dX4_bestFrom_9 rfl (lv_at hl 1 rfl) ?_
  refine lv_iload_n hx hb dX4_bestFrom_10 rfl (lv_at hl 3 rfl) ?_
  refine lv_iload hx hb dX4_bestFrom_11 (lv_at hl 4 rfl) ?_
  obtain ⟨fs12, hfs12, h⟩ := h
  obtain ⟨m4, m5, hm1, hm2, h⟩ := h
  refine x_cMVq (As := [.int v1, .int v3, .int v4]) (rest := []) G S hA hfs12 rfl rfl (c_X4_planeOf l D kA _ _ _ _ _ v0 v1 v3 v4 h) cd_X4_planeOf ml_X4_46 ⟨(Nat.le_of_ble_eq_true rfl), (Nat.le_of_ble_eq_true rfl)⟩ rfl hl.1 rfl (Nat.le_of_ble_eq_true rfl) dX4_bestFrom_13 ⟨hm1, hm2⟩ (fun r7 X H locs h S => ?_)
  refine x_spl (fun c9 => ?_) (fun y8 c9 => ?_)
  · have h := h.1 c9
    refine lv_astoreN (lv' := [(5, .null), (0, .ref v0), (1, .int v1), (2, .int v2), (3, .int v3), (4, .int v4)]) hx hb dX4_bestFrom_16 hl (by decide) rfl (fun ls hl => ?_)
    refine lv_aloadN hx hb dX4_bestFrom_18 (lv_at hl 0 rfl) ?_
    refine lv_ifnonnullN hx hb dX4_bestFrom_20 ?_
    refine lv_iconst (v := (0 : Int32)) hx hb dX4_bestFrom_23 (by decide) ?_
    refine lv_goto (tgt := 38) hx hb dX4_bestFrom_24 (by decide) ?_
    obtain ⟨hk1, hk2, h⟩ := h
    exact x_iretM G hr hlk S hk1 hk2 h dX4_bestFrom_38
  · have h := h.2 y8 c9
    refine lv_astore (lv' := [(5, .ref y8), (0, .ref v0), (1, .int v1), (2, .int v2), (3, .int v3), (4, .int v4)]) hx hb dX4_bestFrom_16 hl (by decide) rfl (fun ls hl => ?_)
    refine lv_aload hx hb dX4_bestFrom_18 (lv_at hl 0 rfl) ?_
    refine lv_ifnonnull (tgt := 27) hx hb dX4_bestFrom_20 (by decide) ?_
    refine lv_aload hx hb dX4_bestFrom_27 (lv_at hl 0 rfl) ?_
    refine lv_iload_n hx hb dX4_bestFrom_29 rfl (lv_at hl 2 rfl) ?_
    refine lv_bipush (v := (21 : Int32)) hx hb dX4_bestFrom_30 (by decide) ?_
    refine lv_imul hx hb dX4_bestFrom_32 ?_
    refine lv_iload_n hx hb dX4_bestFrom_33 rfl (lv_at hl 3 rfl) ?_
    refine lv_iadd hx hb dX4_bestFrom_34 ?_
    obtain ⟨fs11, hfs11, h⟩ := h
    obtain ⟨hkc, hks, h⟩ := h
    refine x_cRVi (As := [.int ((v1 * (21 : Int32)) + v2)]) (rest := []) G S.1 hfs11 rfl rfl (c_X5_at l D kA _ _ y8 ((v1 * (21 : Int32)) + v2) h) cd_X5_at ml_X4_50 ⟨(Nat.le_of_ble_eq_true rfl), (Nat.le_of_ble_eq_true rfl)⟩ rfl hl.1 rfl (Nat.le_of_ble_eq_true rfl) dX4_bestFrom_35 ⟨hkc, hks⟩ (fun r10 h => ?_)
    obtain ⟨hk1, hk2, h⟩ := h
    exact x_iretM G hr hlk S hk1 hk2 h dX4_bestFrom_38
def bk_X4_deedThere_91 (post : Int32 → Hp → Prop) (mc ms : Nat) (v0 : Nat) (v1 : Int32) (v2 : Int32) (v3 : Int32) (v4 : Int32) (r_38 : Hp → Nat → Nat → Nat → Int32 → Prop) (X : Hp) (kc : Nat) (ks : Nat) (b91_5 : Nat) (b91_6 : Int32) : Prop := ∀ x32 : Int32, x32 = b91_6 + (1 : Int32) → r_38 X kc ks b91_5 x32
def bk_X4_deedThere_38 (post : Int32 → Hp → Prop) (mc ms : Nat) (v0 : Nat) (v1 : Int32) (v2 : Int32) (v3 : Int32) (v4 : Int32)  : Nat → Hp → Nat → Nat → Nat → Int32 → Prop
  | 0, _, _, _, _, _ => False
  | k + 1, X, kc, ks, b38_5, b38_6 => ((10 : Int32) ≤ b38_6 → kc ≤ mc ∧ ks ≤ ms ∧ post (-6 : Int32) X) ∧ (¬ (10 : Int32) ≤ b38_6 → ∃ fs31 : List Value, Hs X v0 (.inr (4, fs31)) ∧ ∃ m18 m19 : Nat, kc + m18 ≤ mc ∧ ks + m19 ≤ ms ∧ wp_X4_planeBehind (fun r21 X20 => (r21 = none → bk_X4_deedThere_91 post mc ms v0 v1 v2 v3 v4 (bk_X4_deedThere_38 post mc ms v0 v1 v2 v3 v4 k) X20 ((kc + m18)) ((ks + m19)) b38_5 b38_6) ∧ (∀ y22 : Nat, r21 = some y22 → ∃ (fs24 : List Value) (y25 : Nat), Hs X20 v0 (.inr (4, fs24)) ∧ fs24[2]? = some (.ref y25) ∧ ∃ fs30 : List Value, Hs X20 y25 (.inr (6, fs30)) ∧ (kc + m18) ≤ mc ∧ (ks + m19) ≤ ms ∧ wp_X6_safeBy (fun r26 => ∃ fs29 : List Value, Hs X20 b38_5 (.inr (5, fs29)) ∧ (kc + m18) ≤ mc ∧ (ks + m19) ≤ ms ∧ wp_X5_at (fun r27 => (¬ r26 = r27 → bk_X4_deedThere_91 post mc ms v0 v1 v2 v3 v4 (bk_X4_deedThere_38 post mc ms v0 v1 v2 v3 v4 k) X20 ((kc + m18)) ((ks + m19)) b38_5 b38_6) ∧ (r26 = r27 → (kc + m18) ≤ mc ∧ (ks + m19) ≤ ms ∧ post b38_6 X20)) X20 b38_5 ((v1 * (21 : Int32)) + v2)) X20 y25 b38_6 v2 y22)) m18 m19 X v0 v1 v3 v4 b38_6)
def wp_X4_deedThere (post : Int32 → Hp → Prop) (mc ms : Nat) (X : Hp) (v0 : Nat) (v1 : Int32) (v2 : Int32) (v3 : Int32) (v4 : Int32) : Prop := ∃ fs16 : List Value, Hs X v0 (.inr (4, fs16)) ∧ ∃ m1 m2 : Nat, 0 + m1 ≤ mc ∧ 0 + m2 ≤ ms ∧ wp_X4_planeOf (fun r4 X3 => (r4 = none → (0 + m1) ≤ mc ∧ (0 + m2) ≤ ms ∧ post (-6 : Int32) X3) ∧ (∀ y5 : Nat, r4 = some y5 → ∃ (fs7 : List Value) (y8 : Nat), Hs X3 v0 (.inr (4, fs7)) ∧ fs7[2]? = some (.ref y8) ∧ ∃ (fs9 : List Value) (y10 : Nat), Hs X3 v0 (.inr (4, fs9)) ∧ fs9[0]? = some (.ref y10) ∧ ∃ (fs11 : List Value) (y12 : Nat), Hs X3 v0 (.inr (4, fs11)) ∧ fs11[1]? = some (.ref y12) ∧ ∃ fs15 : List Value, Hs X3 y8 (.inr (6, fs15)) ∧ (0 + m1) ≤ mc ∧ (0 + m2) ≤ ms ∧ wp_X6_readyFor (fun X13 => ∃ n14 : Nat, bk_X4_deedThere_38 post mc ms v0 v1 v2 v3 v4 n14 X13 ((0 + m1)) ((0 + m2)) y5 (0 : Int32))  X3 y8 y10 y12 v1 v2)) m1 m2 X v0 v1 v3 v4
set_option maxHeartbeats 4000000 in
set_option maxRecDepth 100000 in
theorem c_X4_deedThere (l : Launch) (D : va_G) (kA : Nat → ClassId) (post : Int32 → Hp → Prop) (mc ms : Nat) (X : Hp) (sz : Nat) (v0 : Nat) (v1 : Int32) (v2 : Int32) (v3 : Int32) (v4 : Int32) (h : wp_X4_deedThere post mc ms X v0 v1 v2 v3 v4) : Met l yX4_deedThere (.code yX4_deedThere cX4_deedThere 8 (some .int) :: gd) (rmO 4 mc ms 97) (va_Pc [Value.ref v0, Value.int v1, Value.int v2, Value.int v3, Value.int v4] (PreM D kA X sz)) (va_Qi post (PoM D kA X sz) (va_A (hw kA X) sz)) mc ms (va_A (hw kA X) sz) := by
  unfold wp_X4_deedThere at h
  refine x_enM (by decide) (Nat.le_of_ble_eq_true rfl) ?_
  intro p e s m below meth c G hr hlk hin hsz hA S ls hl
  obtain ⟨hx, hb, hml, hown, hts, hE, hK⟩ := id G
  have hl : lv_has ls 8 [(0, .ref v0), (1, .int v1), (2, .int v2), (3, .int v3), (4, .int v4)] := hl
  obtain ⟨X0, hX0⟩ : ∃ Y : Hp, Y = X := ⟨_, rfl⟩
  subst hX0
  have J_38 : ∀ (n : Nat) (X : Hp) (kc : Nat) (ks : Nat) (b38_5 : Nat) (b38_6 : Int32), ∀ (H : Heap) (locs : List Loc) (_ : bk_X4_deedThere_38 post mc ms v0 v1 v2 v3 v4  n X kc ks b38_5 b38_6), Sx D kA (va_A (hw kA X0) sz) s.heap H locs X → ∀ ls, lv_has ls 8 [(0, .ref v0), (1, .int v1), (2, .int v2), (3, .int v3), (4, .int v4), (5, .ref b38_5), (6, .int b38_6)] → W p l e (rmO 4 mc ms 97) s m [Value.ref v0, Value.int v1, Value.int v2, Value.int v3, Value.int v4].toArray below meth c H locs kc ks (MQ below (va_Qi post (PoM D kA X0 sz) (va_A (hw kA X0) sz)) [Value.ref v0, Value.int v1, Value.int v2, Value.int v3, Value.int v4].toArray s mc ms (va_A (hw kA X0) sz)) (F0 m 38 ls []) := by
    intro n
    induction n with
    | zero =>
      intro X kc ks b38_5 b38_6 H locs h S ls hl
      rw [bk_X4_deedThere_38] at h
      exact h.elim
    | succ n_38 ih_38 =>
      have J_91 : ∀ (X : Hp) (kc : Nat) (ks : Nat) (b91_5 : Nat) (b91_6 : Int32), ∀ (H : Heap) (locs : List Loc) (_ : bk_X4_deedThere_91 post mc ms v0 v1 v2 v3 v4 (bk_X4_deedThere_38 post mc ms v0 v1 v2 v3 v4 n_38) X kc ks b91_5 b91_6), Sx D kA (va_A (hw kA X0) sz) s.heap H locs X → ∀ ls, lv_has ls 8 [(0, .ref v0), (1, .int v1), (2, .int v2), (3, .int v3), (4, .int v4), (5, .ref b91_5), (6, .int b91_6)] → W p l e (rmO 4 mc ms 97) s m [Value.ref v0, Value.int v1, Value.int v2, Value.int v3, Value.int v4].toArray below meth c H locs kc ks (MQ below (va_Qi post (PoM D kA X0 sz) (va_A (hw kA X0) sz)) [Value.ref v0, Value.int v1, Value.int v2, Value.int v3, Value.int v4].toArray s mc ms (va_A (hw kA X0) sz)) (F0 m 91 ls []) := by
        intro X kc ks b91_5 b91_6 H locs h S ls hl
        unfold bk_X4_deedThere_91 at h
        obtain ⟨x32, ex32⟩ : ∃ y : Int32, y = b91_6 + (1 : Int32) := ⟨_, rfl⟩
        have h := h x32 ex32
        refine lv_iinc (v := x32) (lv' := [(6, .int x32), (0, .ref v0), (1, .int v1), (2, .int v2), (3, .int v3), (4, .int v4), (5, .ref b91_5)]) hx hb dX4_deedThere_91 hl (k := 6) rfl (by rw [ex32]; rfl) (by decide) rfl (fun ls hl => ?_)
        refine lv_goto (tgt := 38) hx hb dX4_deedThere_94 (by decide) ?_
        exact ih_38 _ _ _ _ _ _ _ h S ls (lv_sub hl [1, 2, 3, 4, 5, 6, 0] rfl)
      intro X kc ks b38_5 b38_6 H locs h S ls hl
      rw [bk_X4_deedThere_38] at h
      refine lv_iload hx hb dX4_deedThere_38 (lv_at hl 6 rfl) ?_
      refine lv_bipush (v := (10 : Int32)) hx hb dX4_deedThere_40 (by decide) ?_
      refine lv_icmp_ge (tgt := 97) hx hb dX4_deedThere_42 (by decide) (fun c17 => ?_) (fun c17 => ?_)
      · have h := h.1 c17
        refine lv_bipush (v := (-6 : Int32)) hx hb dX4_deedThere_97 (by decide) ?_
        obtain ⟨hk1, hk2, h⟩ := h
        exact x_iretM G hr hlk S hk1 hk2 h dX4_deedThere_99
      · have h := h.2 c17
        refine lv_aload_n hx hb dX4_deedThere_45 rfl (lv_at hl 0 rfl) ?_
        refine lv_iload_n hx hb dX4_deedThere_46 rfl (lv_at hl 1 rfl) ?_
        refine lv_iload_n hx hb dX4_deedThere_47 rfl (lv_at hl 3 rfl) ?_
        refine lv_iload hx hb dX4_deedThere_48 (lv_at hl 4 rfl) ?_
        refine lv_iload hx hb dX4_deedThere_50 (lv_at hl 6 rfl) ?_
        obtain ⟨fs31, hfs31, h⟩ := h
        obtain ⟨m18, m19, hm1, hm2, h⟩ := h
        refine x_cMVq (As := [.int v1, .int v3, .int v4, .int b38_6]) (rest := []) G S hA hfs31 rfl rfl (c_X4_planeBehind l D kA _ _ _ _ _ v0 v1 v3 v4 b38_6 h) cd_X4_planeBehind ml_X4_91 ⟨(Nat.le_of_ble_eq_true rfl), (Nat.le_of_ble_eq_true rfl)⟩ rfl hl.1 rfl (Nat.le_of_ble_eq_true rfl) dX4_deedThere_52 ⟨hm1, hm2⟩ (fun r21 X H locs h S => ?_)
        refine x_spl (fun c23 => ?_) (fun y22 c23 => ?_)
        · have h := h.1 c23
          refine lv_astoreN (lv' := [(7, .null), (0, .ref v0), (1, .int v1), (2, .int v2), (3, .int v3), (4, .int v4), (5, .ref b38_5), (6, .int b38_6)]) hx hb dX4_deedThere_55 hl (by decide) rfl (fun ls hl => ?_)
          refine lv_aloadN hx hb dX4_deedThere_57 (lv_at hl 0 rfl) ?_
          refine lv_ifnullN (tgt := 91) hx hb dX4_deedThere_59 (by decide) ?_
          exact J_91 _ _ _ _ _ _ _ h S ls (lv_sub hl [1, 2, 3, 4, 5, 6, 7] rfl)
        · have h := h.2 y22 c23
          refine lv_astore (lv' := [(7, .ref y22), (0, .ref v0), (1, .int v1), (2, .int v2), (3, .int v3), (4, .int v4), (5, .ref b38_5), (6, .int b38_6)]) hx hb dX4_deedThere_55 hl (by decide) rfl (fun ls hl => ?_)
          refine lv_aload hx hb dX4_deedThere_57 (lv_at hl 0 rfl) ?_
          refine lv_ifnull hx hb dX4_deedThere_59 ?_
          refine lv_aload_n hx hb dX4_deedThere_62 rfl (lv_at hl 1 rfl) ?_
          obtain ⟨fs24, y25, hfs24, hvfs24, h⟩ := h
          refine x_get G S.1 hfs24 hvfs24 fl_X4_19 dX4_deedThere_63 ?_
          refine lv_iload hx hb dX4_deedThere_66 (lv_at hl 7 rfl) ?_
          refine lv_iload_n hx hb dX4_deedThere_68 rfl (lv_at hl 3 rfl) ?_
          refine lv_aload hx hb dX4_deedThere_69 (lv_at hl 0 rfl) ?_
          obtain ⟨fs30, hfs30, h⟩ := h
          obtain ⟨hkc, hks, h⟩ := h
          refine x_cRVi (As := [.int b38_6, .int v2, .ref y22]) (rest := []) G S.1 hfs30 rfl rfl (c_X6_safeBy l D kA _ _ y25 b38_6 v2 y22 h) cd_X6_safeBy ml_X4_99 ⟨(Nat.le_of_ble_eq_true rfl), (Nat.le_of_ble_eq_true rfl)⟩ rfl hl.1 rfl (Nat.le_of_ble_eq_true rfl) dX4_deedThere_71 ⟨hkc, hks⟩ (fun r26 h => ?_)
          refine lv_aload hx hb dX4_deedThere_74 (lv_at hl 6 rfl) ?_
          refine lv_iload_n hx hb dX4_deedThere_76 rfl (lv_at hl 2 rfl) ?_
          refine lv_bipush (v := (21 : Int32)) hx hb dX4_deedThere_77 (by decide) ?_
          refine lv_imul hx hb dX4_deedThere_79 ?_
          refine lv_iload_n hx hb dX4_deedThere_80 rfl (lv_at hl 3 rfl) ?_
          refine lv_iadd hx hb dX4_deedThere_81 ?_
          obtain ⟨fs29, hfs29, h⟩ := h
          obtain ⟨hkc, hks, h⟩ := h
          refine x_cRVi (As := [.int ((v1 * (21 : Int32)) + v2)]) (rest := [.int r26]) G S.1 hfs29 rfl rfl (c_X5_at l D kA _ _ b38_5 ((v1 * (21 : Int32)) + v2) h) cd_X5_at ml_X4_50 ⟨(Nat.le_of_ble_eq_true rfl), (Nat.le_of_ble_eq_true rfl)⟩ rfl hl.1 rfl (Nat.le_of_ble_eq_true rfl) dX4_deedThere_82 ⟨hkc, hks⟩ (fun r27 h => ?_)
          refine lv_icmp_ne (tgt := 91) hx hb dX4_deedThere_85 (by decide) (fun c28 => ?_) (fun c28 => ?_)
          · have h := h.1 c28
            exact J_91 _ _ _ _ _ _ _ h S ls (lv_sub hl [1, 2, 3, 4, 5, 6, 7] rfl)
          · have h := h.2 c28
            refine lv_iload hx hb dX4_deedThere_88 (lv_at hl 7 rfl) ?_
            obtain ⟨hk1, hk2, h⟩ := h
            exact x_iretM G hr hlk S hk1 hk2 h dX4_deedThere_90
  refine lv_aload_n hx hb dX4_deedThere_0 rfl (lv_at hl 0 rfl) ?_
  refine lv_iload_n hx hb dX4_deedThere_1 rfl (lv_at hl 1 rfl) ?_
  refine lv_iload_n hx hb dX4_deedThere_2 rfl (lv_at hl 3 rfl) ?_
  refine lv_iload hx hb dX4_deedThere_3 (lv_at hl 4 rfl) ?_
  obtain ⟨fs16, hfs16, h⟩ := h
  obtain ⟨m1, m2, hm1, hm2, h⟩ := h
  refine x_cMVq (As := [.int v1, .int v3, .int v4]) (rest := []) G S hA hfs16 rfl rfl (c_X4_planeOf l D kA _ _ _ _ _ v0 v1 v3 v4 h) cd_X4_planeOf ml_X4_46 ⟨(Nat.le_of_ble_eq_true rfl), (Nat.le_of_ble_eq_true rfl)⟩ rfl hl.1 rfl (Nat.le_of_ble_eq_true rfl) dX4_deedThere_5 ⟨hm1, hm2⟩ (fun r4 X H locs h S => ?_)
  refine x_spl (fun c6 => ?_) (fun y5 c6 => ?_)
  · have h := h.1 c6
    refine lv_astoreN (lv' := [(5, .null), (0, .ref v0), (1, .int v1), (2, .int v2), (3, .int v3), (4, .int v4)]) hx hb dX4_deedThere_8 hl (by decide) rfl (fun ls hl => ?_)
    refine lv_aloadN hx hb dX4_deedThere_10 (lv_at hl 0 rfl) ?_
    refine lv_ifnonnullN hx hb dX4_deedThere_12 ?_
    refine lv_bipush (v := (-6 : Int32)) hx hb dX4_deedThere_15 (by decide) ?_
    obtain ⟨hk1, hk2, h⟩ := h
    exact x_iretM G hr hlk S hk1 hk2 h dX4_deedThere_17
  · have h := h.2 y5 c6
    refine lv_astore (lv' := [(5, .ref y5), (0, .ref v0), (1, .int v1), (2, .int v2), (3, .int v3), (4, .int v4)]) hx hb dX4_deedThere_8 hl (by decide) rfl (fun ls hl => ?_)
    refine lv_aload hx hb dX4_deedThere_10 (lv_at hl 0 rfl) ?_
    refine lv_ifnonnull (tgt := 18) hx hb dX4_deedThere_12 (by decide) ?_
    refine lv_aload_n hx hb dX4_deedThere_18 rfl (lv_at hl 1 rfl) ?_
    obtain ⟨fs7, y8, hfs7, hvfs7, h⟩ := h
    refine x_get G S.1 hfs7 hvfs7 fl_X4_19 dX4_deedThere_19 ?_
    refine lv_aload_n hx hb dX4_deedThere_22 rfl (lv_at hl 1 rfl) ?_
    obtain ⟨fs9, y10, hfs9, hvfs9, h⟩ := h
    refine x_get G S.1 hfs9 hvfs9 fl_X4_9 dX4_deedThere_23 ?_
    refine lv_aload_n hx hb dX4_deedThere_26 rfl (lv_at hl 1 rfl) ?_
    obtain ⟨fs11, y12, hfs11, hvfs11, h⟩ := h
    refine x_get G S.1 hfs11 hvfs11 fl_X4_15 dX4_deedThere_27 ?_
    refine lv_iload_n hx hb dX4_deedThere_30 rfl (lv_at hl 2 rfl) ?_
    refine lv_iload_n hx hb dX4_deedThere_31 rfl (lv_at hl 3 rfl) ?_
    obtain ⟨fs15, hfs15, h⟩ := h
    obtain ⟨hkc, hks, h⟩ := h
    refine x_cMVv (As := [.ref y10, .ref y12, .int v1, .int v2]) (rest := []) G S hA hfs15 rfl rfl (c_X6_readyFor l D kA _ _ _ y8 y10 y12 v1 v2 h) cd_X6_readyFor ml_X4_103 ⟨(Nat.le_of_ble_eq_true rfl), (Nat.le_of_ble_eq_true rfl)⟩ rfl hl.1 rfl (Nat.le_of_ble_eq_true rfl) dX4_deedThere_32 ⟨hkc, hks⟩ (fun X H locs h S => ?_)
    refine lv_iconst (v := (0 : Int32)) hx hb dX4_deedThere_35 (by decide) ?_
    refine lv_istore (lv' := [(6, .int (0 : Int32)), (5, .ref y5), (0, .ref v0), (1, .int v1), (2, .int v2), (3, .int v3), (4, .int v4)]) hx hb dX4_deedThere_36 hl (by decide) rfl (fun ls hl => ?_)
    obtain ⟨n14, h⟩ := h
    exact J_38 n14 _ _ _ _ _ _ _ h S ls (lv_sub hl [2, 3, 4, 5, 6, 1, 0] rfl)
def wp_X4_firstDeed (post : Int32 → Hp → Prop) (mc ms : Nat) (X : Hp) (v0 : Nat) (v1 : Int32) (v2 : Int32) (v3 : Int32) (v4 : Int32) : Prop := ∃ fs9 : List Value, Hs X v0 (.inr (4, fs9)) ∧ ∃ m1 m2 : Nat, 0 + m1 ≤ mc ∧ 0 + m2 ≤ ms ∧ wp_X4_fill (fun X3 => ∃ fs8 : List Value, Hs X3 v0 (.inr (4, fs8)) ∧ ∃ m4 m5 : Nat, (0 + m1) + m4 ≤ mc ∧ (0 + m2) + m5 ≤ ms ∧ wp_X4_deedThere (fun r7 X6 => ((0 + m1) + m4) ≤ mc ∧ ((0 + m2) + m5) ≤ ms ∧ post r7 X6) m4 m5 X3 v0 v1 v2 v3 v4) m1 m2 X v0 v1 v3 v4
set_option maxHeartbeats 4000000 in
set_option maxRecDepth 100000 in
theorem c_X4_firstDeed (l : Launch) (D : va_G) (kA : Nat → ClassId) (post : Int32 → Hp → Prop) (mc ms : Nat) (X : Hp) (sz : Nat) (v0 : Nat) (v1 : Int32) (v2 : Int32) (v3 : Int32) (v4 : Int32) (h : wp_X4_firstDeed post mc ms X v0 v1 v2 v3 v4) : Met l yX4_firstDeed (.code yX4_firstDeed cX4_firstDeed 5 (some .int) :: gd) (rmO 6 mc ms 149) (va_Pc [Value.ref v0, Value.int v1, Value.int v2, Value.int v3, Value.int v4] (PreM D kA X sz)) (va_Qi post (PoM D kA X sz) (va_A (hw kA X) sz)) mc ms (va_A (hw kA X) sz) := by
  unfold wp_X4_firstDeed at h
  refine x_enM (by decide) (Nat.le_of_ble_eq_true rfl) ?_
  intro p e s m below meth c G hr hlk hin hsz hA S ls hl
  obtain ⟨hx, hb, hml, hown, hts, hE, hK⟩ := id G
  have hl : lv_has ls 5 [(0, .ref v0), (1, .int v1), (2, .int v2), (3, .int v3), (4, .int v4)] := hl
  refine lv_aload_n hx hb dX4_firstDeed_0 rfl (lv_at hl 0 rfl) ?_
  refine lv_iload_n hx hb dX4_firstDeed_1 rfl (lv_at hl 1 rfl) ?_
  refine lv_iload_n hx hb dX4_firstDeed_2 rfl (lv_at hl 3 rfl) ?_
  refine lv_iload hx hb dX4_firstDeed_3 (lv_at hl 4 rfl) ?_
  obtain ⟨fs9, hfs9, h⟩ := h
  obtain ⟨m1, m2, hm1, hm2, h⟩ := h
  refine x_cMVv (As := [.int v1, .int v3, .int v4]) (rest := []) G S hA hfs9 rfl rfl (c_X4_fill l D kA _ _ _ _ _ v0 v1 v3 v4 h) cd_X4_fill ml_X4_42 ⟨(Nat.le_of_ble_eq_true rfl), (Nat.le_of_ble_eq_true rfl)⟩ rfl hl.1 rfl (Nat.le_of_ble_eq_true rfl) dX4_firstDeed_5 ⟨hm1, hm2⟩ (fun X H locs h S => ?_)
  refine lv_aload_n hx hb dX4_firstDeed_8 rfl (lv_at hl 0 rfl) ?_
  refine lv_iload_n hx hb dX4_firstDeed_9 rfl (lv_at hl 1 rfl) ?_
  refine lv_iload_n hx hb dX4_firstDeed_10 rfl (lv_at hl 2 rfl) ?_
  refine lv_iload_n hx hb dX4_firstDeed_11 rfl (lv_at hl 3 rfl) ?_
  refine lv_iload hx hb dX4_firstDeed_12 (lv_at hl 4 rfl) ?_
  obtain ⟨fs8, hfs8, h⟩ := h
  obtain ⟨m4, m5, hm1, hm2, h⟩ := h
  refine x_cMVi (As := [.int v1, .int v2, .int v3, .int v4]) (rest := []) G S hA hfs8 rfl rfl (c_X4_deedThere l D kA _ _ _ _ _ v0 v1 v2 v3 v4 h) cd_X4_deedThere ml_X4_54 ⟨(Nat.le_of_ble_eq_true rfl), (Nat.le_of_ble_eq_true rfl)⟩ rfl hl.1 rfl (Nat.le_of_ble_eq_true rfl) dX4_firstDeed_14 ⟨hm1, hm2⟩ (fun r7 X H locs h S => ?_)
  obtain ⟨hk1, hk2, h⟩ := h
  exact x_iretM G hr hlk S hk1 hk2 h dX4_firstDeed_17
def wp_X9_codeOf (post : Int32 → Prop) (X : Hp) (v0 : Int32) : Prop := (0 ≤ v0 → post ((v0 / (2 : Int32)) + ((10 : Int32) * (v0 - v0 / (2 : Int32) * (2 : Int32))))) ∧ (¬ 0 ≤ v0 → post (-6 : Int32))
set_option maxHeartbeats 4000000 in
set_option maxRecDepth 100000 in
theorem c_X9_codeOf (l : Launch) (D : va_G) (kA : Nat → ClassId) (post : Int32 → Prop) (X : Hp) (v0 : Int32) (h : wp_X9_codeOf post X v0) : Met l yX9_codeOf (.code yX9_codeOf cX9_codeOf 1 (some .int) :: gd) (rmO 0 0 0 0) (va_Pc [Value.int v0] (Pre D kA X)) (vp_Si post) 0 0 (fun _ => False) := by
  unfold wp_X9_codeOf at h
  refine x_enR (by decide) (Nat.le_of_ble_eq_true rfl) ?_
  intro p e s m below meth c G hr hlk hP ls hl
  obtain ⟨hx, hb, hml, hown, hts, hE, hK⟩ := id G
  have hl : lv_has ls 1 [(0, .int v0)] := hl
  refine lv_iload_n hx hb dX9_codeOf_0 rfl (lv_at hl 0 rfl) ?_
  refine lv_if_ge (tgt := 9) hx hb dX9_codeOf_1 (by decide) (fun c1 => ?_) (fun c1 => ?_)
  · have h := h.1 c1
    refine lv_iload_n hx hb dX9_codeOf_9 rfl (lv_at hl 0 rfl) ?_
    refine lv_iconst (v := (2 : Int32)) hx hb dX9_codeOf_10 (by decide) ?_
    refine lv_idiv hx hb dX9_codeOf_11 (by decide) ?_
    refine lv_bipush (v := (10 : Int32)) hx hb dX9_codeOf_12 (by decide) ?_
    refine lv_iload_n hx hb dX9_codeOf_14 rfl (lv_at hl 0 rfl) ?_
    refine lv_iconst (v := (2 : Int32)) hx hb dX9_codeOf_15 (by decide) ?_
    refine lv_irem hx hb dX9_codeOf_16 (by decide) ?_
    refine lv_imul hx hb dX9_codeOf_17 ?_
    refine lv_iadd hx hb dX9_codeOf_18 ?_
    exact x_iretR G hr hlk h dX9_codeOf_19
  · have h := h.2 c1
    refine lv_bipush (v := (-6 : Int32)) hx hb dX9_codeOf_4 (by decide) ?_
    refine lv_goto (tgt := 19) hx hb dX9_codeOf_6 (by decide) ?_
    exact x_iretR G hr hlk h dX9_codeOf_19
def bk_X4_follow_124 (post : Int32 → Hp → Prop) (mc ms : Nat) (v0 : Nat) (v1 : Int32) (v2 : Int32) (v3 : Int32) (r_25 : Hp → Nat → Nat → Int32 → Int32 → Int32 → Int32 → Int32 → Prop) (X : Hp) (kc : Nat) (ks : Nat) (b124_4 : Int32) (b124_5 : Int32) (b124_6 : Int32) (b124_8 : Int32) (b124_9 : Int32) (b124_s0 : Int32) (b124_s1 : Int32) : Prop := ∀ x25 : Int32, x25 = (b124_s1 - b124_s0) → kc ≤ mc ∧ ks ≤ ms ∧ wp_X9_hoursOf (fun r26 => ∀ x27 : Int32, x27 = (b124_4 + r26) → ∀ x28 : Int32, x28 = b124_8 + (1 : Int32) → r_25 X kc ks x27 b124_5 b124_6 x25 x28)  X (b124_9 / (2 : Int32))
def bk_X4_follow_25 (post : Int32 → Hp → Prop) (mc ms : Nat) (v0 : Nat) (v1 : Int32) (v2 : Int32) (v3 : Int32)  : Nat → Hp → Nat → Nat → Int32 → Int32 → Int32 → Int32 → Int32 → Prop
  | 0, _, _, _, _, _, _, _, _ => False
  | k + 1, X, kc, ks, b25_4, b25_5, b25_6, b25_7, b25_8 => ((52 : Int32) < b25_8 → kc ≤ mc ∧ ks ≤ ms ∧ post (-6 : Int32) X) ∧ (¬ (52 : Int32) < b25_8 → ∃ fs24 : List Value, Hs X v0 (.inr (4, fs24)) ∧ ∃ m7 m8 : Nat, kc + m7 ≤ mc ∧ ks + m8 ≤ ms ∧ wp_X4_deedThere (fun r10 X9 => (¬ r10 = (-6 : Int32) → (¬ b25_8 = v3 → ∃ (fs13 : List Value) (y14 : Nat), Hs X9 v0 (.inr (4, fs13)) ∧ fs13[1]? = some (.ref y14) ∧ ∃ (fs15 : List Value) (y16 : Nat), Hs X9 v0 (.inr (4, fs15)) ∧ fs15[0]? = some (.ref y16) ∧ ∃ fs21 : List Value, Hs X9 y14 (.inr (2, fs21)) ∧ (kc + m7) ≤ mc ∧ (ks + m8) ≤ ms ∧ wp_X2_owedBehind (fun r17 => (kc + m7) ≤ mc ∧ (ks + m8) ≤ ms ∧ wp_X9_batteryOf (fun r18 => ∀ x19 : Int32, x19 = (b25_6 - r18) → (¬ (r10 / (2 : Int32)) = (4 : Int32) → bk_X4_follow_124 post mc ms v0 v1 v2 v3 (bk_X4_follow_25 post mc ms v0 v1 v2 v3 k) X9 ((kc + m7)) ((ks + m8)) b25_4 r17 x19 b25_8 r10 (0 : Int32) b25_7) ∧ ((r10 / (2 : Int32)) = (4 : Int32) → bk_X4_follow_124 post mc ms v0 v1 v2 v3 (bk_X4_follow_25 post mc ms v0 v1 v2 v3 k) X9 ((kc + m7)) ((ks + m8)) b25_4 r17 x19 b25_8 r10 (1 : Int32) b25_7)) X9 r10) X9 y14 y16 b25_4 b25_5 (r10 / (2 : Int32))) ∧ (b25_8 = v3 → (kc + m7) ≤ mc ∧ (ks + m8) ≤ ms ∧ wp_X9_codeOf (fun r22 => (kc + m7) ≤ mc ∧ (ks + m8) ≤ ms ∧ post r22 X9) X9 r10)) ∧ (r10 = (-6 : Int32) → (¬ v3 = (-1 : Int32) → (kc + m7) ≤ mc ∧ (ks + m8) ≤ ms ∧ post (-6 : Int32) X9) ∧ (v3 = (-1 : Int32) → (kc + m7) ≤ mc ∧ (ks + m8) ≤ ms ∧ post b25_8 X9))) m7 m8 X v0 b25_4 b25_5 b25_6 b25_7)
def wp_X4_follow (post : Int32 → Hp → Prop) (mc ms : Nat) (X : Hp) (v0 : Nat) (v1 : Int32) (v2 : Int32) (v3 : Int32) : Prop := ∃ fs5 : List Value, Hs X v0 (.inr (4, fs5)) ∧ ∃ m1 m2 : Nat, 0 + m1 ≤ mc ∧ 0 + m2 ≤ ms ∧ wp_X4_fill (fun X3 => ∃ n4 : Nat, bk_X4_follow_25 post mc ms v0 v1 v2 v3 n4 X3 ((0 + m1)) ((0 + m2)) (0 : Int32) v1 v2 (4 : Int32) (0 : Int32)) m1 m2 X v0 (0 : Int32) v2 (4 : Int32)
set_option maxHeartbeats 4000000 in
set_option maxRecDepth 100000 in
theorem c_X4_follow (l : Launch) (D : va_G) (kA : Nat → ClassId) (post : Int32 → Hp → Prop) (mc ms : Nat) (X : Hp) (sz : Nat) (v0 : Nat) (v1 : Int32) (v2 : Int32) (v3 : Int32) (h : wp_X4_follow post mc ms X v0 v1 v2 v3) : Met l yX4_follow (.code yX4_follow cX4_follow 10 (some .int) :: gd) (rmO 6 mc ms 149) (va_Pc [Value.ref v0, Value.int v1, Value.int v2, Value.int v3] (PreM D kA X sz)) (va_Qi post (PoM D kA X sz) (va_A (hw kA X) sz)) mc ms (va_A (hw kA X) sz) := by
  unfold wp_X4_follow at h
  refine x_enM (by decide) (Nat.le_of_ble_eq_true rfl) ?_
  intro p e s m below meth c G hr hlk hin hsz hA S ls hl
  obtain ⟨hx, hb, hml, hown, hts, hE, hK⟩ := id G
  have hl : lv_has ls 10 [(0, .ref v0), (1, .int v1), (2, .int v2), (3, .int v3)] := hl
  obtain ⟨X0, hX0⟩ : ∃ Y : Hp, Y = X := ⟨_, rfl⟩
  subst hX0
  have J_25 : ∀ (n : Nat) (X : Hp) (kc : Nat) (ks : Nat) (b25_4 : Int32) (b25_5 : Int32) (b25_6 : Int32) (b25_7 : Int32) (b25_8 : Int32), ∀ (H : Heap) (locs : List Loc) (_ : bk_X4_follow_25 post mc ms v0 v1 v2 v3  n X kc ks b25_4 b25_5 b25_6 b25_7 b25_8), Sx D kA (va_A (hw kA X0) sz) s.heap H locs X → ∀ ls, lv_has ls 10 [(0, .ref v0), (3, .int v3), (4, .int b25_4), (5, .int b25_5), (6, .int b25_6), (7, .int b25_7), (8, .int b25_8)] → W p l e (rmO 6 mc ms 149) s m [Value.ref v0, Value.int v1, Value.int v2, Value.int v3].toArray below meth c H locs kc ks (MQ below (va_Qi post (PoM D kA X0 sz) (va_A (hw kA X0) sz)) [Value.ref v0, Value.int v1, Value.int v2, Value.int v3].toArray s mc ms (va_A (hw kA X0) sz)) (F0 m 25 ls []) := by
    intro n
    induction n with
    | zero =>
      intro X kc ks b25_4 b25_5 b25_6 b25_7 b25_8 H locs h S ls hl
      rw [bk_X4_follow_25] at h
      exact h.elim
    | succ n_25 ih_25 =>
      have J_124 : ∀ (X : Hp) (kc : Nat) (ks : Nat) (b124_4 : Int32) (b124_5 : Int32) (b124_6 : Int32) (b124_8 : Int32) (b124_9 : Int32) (b124_s0 : Int32) (b124_s1 : Int32), ∀ (H : Heap) (locs : List Loc) (_ : bk_X4_follow_124 post mc ms v0 v1 v2 v3 (bk_X4_follow_25 post mc ms v0 v1 v2 v3 n_25) X kc ks b124_4 b124_5 b124_6 b124_8 b124_9 b124_s0 b124_s1), Sx D kA (va_A (hw kA X0) sz) s.heap H locs X → ∀ ls, lv_has ls 10 [(0, .ref v0), (3, .int v3), (4, .int b124_4), (5, .int b124_5), (6, .int b124_6), (8, .int b124_8), (9, .int b124_9)] → W p l e (rmO 6 mc ms 149) s m [Value.ref v0, Value.int v1, Value.int v2, Value.int v3].toArray below meth c H locs kc ks (MQ below (va_Qi post (PoM D kA X0 sz) (va_A (hw kA X0) sz)) [Value.ref v0, Value.int v1, Value.int v2, Value.int v3].toArray s mc ms (va_A (hw kA X0) sz)) (F0 m 124 ls [.int b124_s0, .int b124_s1]) := by
        intro X kc ks b124_4 b124_5 b124_6 b124_8 b124_9 b124_s0 b124_s1 H locs h S ls hl
        unfold bk_X4_follow_124 at h
        refine lv_isub hx hb dX4_follow_124 ?_
        refine lv_topi (fun x25 ex25 => ?_)
        have h := h x25 ex25
        refine lv_istore (lv' := [(7, .int x25), (0, .ref v0), (3, .int v3), (4, .int b124_4), (5, .int b124_5), (6, .int b124_6), (8, .int b124_8), (9, .int b124_9)]) hx hb dX4_follow_125 hl (by decide) rfl (fun ls hl => ?_)
        refine lv_iload hx hb dX4_follow_127 (lv_at hl 3 rfl) ?_
        refine lv_iload hx hb dX4_follow_129 (lv_at hl 7 rfl) ?_
        refine lv_iconst (v := (2 : Int32)) hx hb dX4_follow_131 (by decide) ?_
        refine lv_idiv hx hb dX4_follow_132 (by decide) ?_
        obtain ⟨hkc, hks, h⟩ := h
        refine x_cRSi (As := [.int (b124_9 / (2 : Int32))]) (rest := [.int b124_4]) G S.1 (c_X9_hoursOf l D kA _ _ (b124_9 / (2 : Int32)) h) cd_X9_hoursOf ml_X4_70 ⟨(Nat.le_of_ble_eq_true rfl), (Nat.le_of_ble_eq_true rfl)⟩ rfl hl.1 rfl (Nat.le_of_ble_eq_true rfl) dX4_follow_133 ⟨hkc, hks⟩ (fun r26 h => ?_)
        refine lv_iadd hx hb dX4_follow_136 ?_
        refine lv_topi (fun x27 ex27 => ?_)
        have h := h x27 ex27
        refine lv_istore (lv' := [(4, .int x27), (7, .int x25), (0, .ref v0), (3, .int v3), (5, .int b124_5), (6, .int b124_6), (8, .int b124_8), (9, .int b124_9)]) hx hb dX4_follow_137 hl (by decide) rfl (fun ls hl => ?_)
        obtain ⟨x28, ex28⟩ : ∃ y : Int32, y = b124_8 + (1 : Int32) := ⟨_, rfl⟩
        have h := h x28 ex28
        refine lv_iinc (v := x28) (lv' := [(8, .int x28), (4, .int x27), (7, .int x25), (0, .ref v0), (3, .int v3), (5, .int b124_5), (6, .int b124_6), (9, .int b124_9)]) hx hb dX4_follow_139 hl (k := 6) rfl (by rw [ex28]; rfl) (by decide) rfl (fun ls hl => ?_)
        refine lv_goto (tgt := 25) hx hb dX4_follow_142 (by decide) ?_
        exact ih_25 _ _ _ _ _ _ _ _ _ _ h S ls (lv_sub hl [3, 4, 1, 5, 6, 2, 0] rfl)
      intro X kc ks b25_4 b25_5 b25_6 b25_7 b25_8 H locs h S ls hl
      rw [bk_X4_follow_25] at h
      refine lv_iload hx hb dX4_follow_25 (lv_at hl 6 rfl) ?_
      refine lv_bipush (v := (52 : Int32)) hx hb dX4_follow_27 (by decide) ?_
      refine lv_icmp_gt (tgt := 145) hx hb dX4_follow_29 (by decide) (fun c6 => ?_) (fun c6 => ?_)
      · have h := h.1 c6
        refine lv_bipush (v := (-6 : Int32)) hx hb dX4_follow_145 (by decide) ?_
        obtain ⟨hk1, hk2, h⟩ := h
        exact x_iretM G hr hlk S hk1 hk2 h dX4_follow_147
      · have h := h.2 c6
        refine lv_aload_n hx hb dX4_follow_32 rfl (lv_at hl 0 rfl) ?_
        refine lv_iload hx hb dX4_follow_33 (lv_at hl 2 rfl) ?_
        refine lv_iload hx hb dX4_follow_35 (lv_at hl 3 rfl) ?_
        refine lv_iload hx hb dX4_follow_37 (lv_at hl 4 rfl) ?_
        refine lv_iload hx hb dX4_follow_39 (lv_at hl 5 rfl) ?_
        obtain ⟨fs24, hfs24, h⟩ := h
        obtain ⟨m7, m8, hm1, hm2, h⟩ := h
        refine x_cMVi (As := [.int b25_4, .int b25_5, .int b25_6, .int b25_7]) (rest := []) G S hA hfs24 rfl rfl (c_X4_deedThere l D kA _ _ _ _ _ v0 b25_4 b25_5 b25_6 b25_7 h) cd_X4_deedThere ml_X4_54 ⟨(Nat.le_of_ble_eq_true rfl), (Nat.le_of_ble_eq_true rfl)⟩ rfl hl.1 rfl (Nat.le_of_ble_eq_true rfl) dX4_follow_41 ⟨hm1, hm2⟩ (fun r10 X H locs h S => ?_)
        refine lv_istore (lv' := [(9, .int r10), (0, .ref v0), (3, .int v3), (4, .int b25_4), (5, .int b25_5), (6, .int b25_6), (7, .int b25_7), (8, .int b25_8)]) hx hb dX4_follow_44 hl (by decide) rfl (fun ls hl => ?_)
        refine lv_iload hx hb dX4_follow_46 (lv_at hl 0 rfl) ?_
        refine lv_bipush (v := (-6 : Int32)) hx hb dX4_follow_48 (by decide) ?_
        refine lv_icmp_ne (tgt := 66) hx hb dX4_follow_50 (by decide) (fun c11 => ?_) (fun c11 => ?_)
        · have h := h.1 c11
          refine lv_iload hx hb dX4_follow_66 (lv_at hl 7 rfl) ?_
          refine lv_iload_n hx hb dX4_follow_68 rfl (lv_at hl 2 rfl) ?_
          refine lv_icmp_ne (tgt := 78) hx hb dX4_follow_69 (by decide) (fun c12 => ?_) (fun c12 => ?_)
          · have h := h.1 c12
            refine lv_aload_n hx hb dX4_follow_78 rfl (lv_at hl 1 rfl) ?_
            obtain ⟨fs13, y14, hfs13, hvfs13, h⟩ := h
            refine x_get G S.1 hfs13 hvfs13 fl_X4_15 dX4_follow_79 ?_
            refine lv_aload_n hx hb dX4_follow_82 rfl (lv_at hl 1 rfl) ?_
            obtain ⟨fs15, y16, hfs15, hvfs15, h⟩ := h
            refine x_get G S.1 hfs15 hvfs15 fl_X4_9 dX4_follow_83 ?_
            refine lv_iload hx hb dX4_follow_86 (lv_at hl 3 rfl) ?_
            refine lv_iload hx hb dX4_follow_88 (lv_at hl 4 rfl) ?_
            refine lv_iload hx hb dX4_follow_90 (lv_at hl 0 rfl) ?_
            refine lv_iconst (v := (2 : Int32)) hx hb dX4_follow_92 (by decide) ?_
            refine lv_idiv hx hb dX4_follow_93 (by decide) ?_
            obtain ⟨fs21, hfs21, h⟩ := h
            obtain ⟨hkc, hks, h⟩ := h
            refine x_cRVi (As := [.ref y16, .int b25_4, .int b25_5, .int (r10 / (2 : Int32))]) (rest := []) G S.1 hfs21 rfl rfl (c_X2_owedBehind l D kA _ _ y14 y16 b25_4 b25_5 (r10 / (2 : Int32)) h) cd_X2_owedBehind ml_X4_61 ⟨(Nat.le_of_ble_eq_true rfl), (Nat.le_of_ble_eq_true rfl)⟩ rfl hl.1 rfl (Nat.le_of_ble_eq_true rfl) dX4_follow_94 ⟨hkc, hks⟩ (fun r17 h => ?_)
            refine lv_istore (lv' := [(5, .int r17), (9, .int r10), (0, .ref v0), (3, .int v3), (4, .int b25_4), (6, .int b25_6), (7, .int b25_7), (8, .int b25_8)]) hx hb dX4_follow_97 hl (by decide) rfl (fun ls hl => ?_)
            refine lv_iload hx hb dX4_follow_99 (lv_at hl 5 rfl) ?_
            refine lv_iload hx hb dX4_follow_101 (lv_at hl 1 rfl) ?_
            obtain ⟨hkc, hks, h⟩ := h
            refine x_cRSi (As := [.int r10]) (rest := [.int b25_6]) G S.1 (c_X9_batteryOf l D kA _ _ r10 h) cd_X9_batteryOf ml_X4_67 ⟨(Nat.le_of_ble_eq_true rfl), (Nat.le_of_ble_eq_true rfl)⟩ rfl hl.1 rfl (Nat.le_of_ble_eq_true rfl) dX4_follow_103 ⟨hkc, hks⟩ (fun r18 h => ?_)
            refine lv_isub hx hb dX4_follow_106 ?_
            refine lv_topi (fun x19 ex19 => ?_)
            have h := h x19 ex19
            refine lv_istore (lv' := [(6, .int x19), (5, .int r17), (9, .int r10), (0, .ref v0), (3, .int v3), (4, .int b25_4), (7, .int b25_7), (8, .int b25_8)]) hx hb dX4_follow_107 hl (by decide) rfl (fun ls hl => ?_)
            refine lv_iload hx hb dX4_follow_109 (lv_at hl 6 rfl) ?_
            refine lv_iload hx hb dX4_follow_111 (lv_at hl 2 rfl) ?_
            refine lv_iconst (v := (2 : Int32)) hx hb dX4_follow_113 (by decide) ?_
            refine lv_idiv hx hb dX4_follow_114 (by decide) ?_
            refine lv_iconst (v := (4 : Int32)) hx hb dX4_follow_115 (by decide) ?_
            refine lv_icmp_ne (tgt := 123) hx hb dX4_follow_116 (by decide) (fun c20 => ?_) (fun c20 => ?_)
            · have h := h.1 c20
              refine lv_iconst (v := (0 : Int32)) hx hb dX4_follow_123 (by decide) ?_
              exact J_124 _ _ _ _ _ _ _ _ _ _ _ _ h S ls (lv_sub hl [3, 4, 5, 1, 0, 7, 2] rfl)
            · have h := h.2 c20
              refine lv_iconst (v := (1 : Int32)) hx hb dX4_follow_119 (by decide) ?_
              refine lv_goto (tgt := 124) hx hb dX4_follow_120 (by decide) ?_
              exact J_124 _ _ _ _ _ _ _ _ _ _ _ _ h S ls (lv_sub hl [3, 4, 5, 1, 0, 7, 2] rfl)
          · have h := h.2 c12
            refine lv_iload hx hb dX4_follow_72 (lv_at hl 0 rfl) ?_
            obtain ⟨hkc, hks, h⟩ := h
            refine x_cRSi (As := [.int r10]) (rest := []) G S.1 (c_X9_codeOf l D kA _ _ r10 h) cd_X9_codeOf ml_X4_58 ⟨(Nat.le_of_ble_eq_true rfl), (Nat.le_of_ble_eq_true rfl)⟩ rfl hl.1 rfl (Nat.le_of_ble_eq_true rfl) dX4_follow_74 ⟨hkc, hks⟩ (fun r22 h => ?_)
            obtain ⟨hk1, hk2, h⟩ := h
            exact x_iretM G hr hlk S hk1 hk2 h dX4_follow_77
        · have h := h.2 c11
          refine lv_iload_n hx hb dX4_follow_53 rfl (lv_at hl 2 rfl) ?_
          refine lv_iconst (v := (-1 : Int32)) hx hb dX4_follow_54 (by decide) ?_
          refine lv_icmp_ne (tgt := 63) hx hb dX4_follow_55 (by decide) (fun c23 => ?_) (fun c23 => ?_)
          · have h := h.1 c23
            refine lv_bipush (v := (-6 : Int32)) hx hb dX4_follow_63 (by decide) ?_
            obtain ⟨hk1, hk2, h⟩ := h
            exact x_iretM G hr hlk S hk1 hk2 h dX4_follow_65
          · have h := h.2 c23
            refine lv_iload hx hb dX4_follow_58 (lv_at hl 7 rfl) ?_
            refine lv_goto (tgt := 65) hx hb dX4_follow_60 (by decide) ?_
            obtain ⟨hk1, hk2, h⟩ := h
            exact x_iretM G hr hlk S hk1 hk2 h dX4_follow_65
  refine lv_iconst (v := (0 : Int32)) hx hb dX4_follow_0 (by decide) ?_
  refine lv_istore (lv' := [(4, .int (0 : Int32)), (0, .ref v0), (1, .int v1), (2, .int v2), (3, .int v3)]) hx hb dX4_follow_1 hl (by decide) rfl (fun ls hl => ?_)
  refine lv_iload_n hx hb dX4_follow_3 rfl (lv_at hl 2 rfl) ?_
  refine lv_istore (lv' := [(5, .int v1), (4, .int (0 : Int32)), (0, .ref v0), (1, .int v1), (2, .int v2), (3, .int v3)]) hx hb dX4_follow_4 hl (by decide) rfl (fun ls hl => ?_)
  refine lv_iload_n hx hb dX4_follow_6 rfl (lv_at hl 4 rfl) ?_
  refine lv_istore (lv' := [(6, .int v2), (5, .int v1), (4, .int (0 : Int32)), (0, .ref v0), (1, .int v1), (2, .int v2), (3, .int v3)]) hx hb dX4_follow_7 hl (by decide) rfl (fun ls hl => ?_)
  refine lv_iconst (v := (4 : Int32)) hx hb dX4_follow_9 (by decide) ?_
  refine lv_istore (lv' := [(7, .int (4 : Int32)), (6, .int v2), (5, .int v1), (4, .int (0 : Int32)), (0, .ref v0), (1, .int v1), (2, .int v2), (3, .int v3)]) hx hb dX4_follow_10 hl (by decide) rfl (fun ls hl => ?_)
  refine lv_aload_n hx hb dX4_follow_12 rfl (lv_at hl 4 rfl) ?_
  refine lv_iload hx hb dX4_follow_13 (lv_at hl 3 rfl) ?_
  refine lv_iload hx hb dX4_follow_15 (lv_at hl 1 rfl) ?_
  refine lv_iload hx hb dX4_follow_17 (lv_at hl 0 rfl) ?_
  obtain ⟨fs5, hfs5, h⟩ := h
  obtain ⟨m1, m2, hm1, hm2, h⟩ := h
  refine x_cMVv (As := [.int (0 : Int32), .int v2, .int (4 : Int32)]) (rest := []) G S hA hfs5 rfl rfl (c_X4_fill l D kA _ _ _ _ _ v0 (0 : Int32) v2 (4 : Int32) h) cd_X4_fill ml_X4_42 ⟨(Nat.le_of_ble_eq_true rfl), (Nat.le_of_ble_eq_true rfl)⟩ rfl hl.1 rfl (Nat.le_of_ble_eq_true rfl) dX4_follow_19 ⟨hm1, hm2⟩ (fun X H locs h S => ?_)
  refine lv_iconst (v := (0 : Int32)) hx hb dX4_follow_22 (by decide) ?_
  refine lv_istore (lv' := [(8, .int (0 : Int32)), (7, .int (4 : Int32)), (6, .int v2), (5, .int v1), (4, .int (0 : Int32)), (0, .ref v0), (1, .int v1), (2, .int v2), (3, .int v3)]) hx hb dX4_follow_23 hl (by decide) rfl (fun ls hl => ?_)
  obtain ⟨n4, h⟩ := h
  exact J_25 n4 _ _ _ _ _ _ _ _ _ _ h S ls (lv_sub hl [5, 8, 4, 3, 2, 1, 0] rfl)
