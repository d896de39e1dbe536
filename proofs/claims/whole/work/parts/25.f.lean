def wp_X10_at (post : Int32 → Prop) (X : Hp) (v0 : Int32) (v1 : Int32) (v2 : Int32) (v3 : Int32) (v4 : Int32) : Prop := post ((((((((v0 * (49 : Int32)) + v1) * (21 : Int32)) + v2) * (25 : Int32)) + v3) * (5 : Int32)) + v4)
set_option maxHeartbeats 4000000 in
set_option maxRecDepth 100000 in
theorem c_X10_at (l : Launch) (D : va_G) (kA : Nat → ClassId) (post : Int32 → Prop) (X : Hp) (v0 : Int32) (v1 : Int32) (v2 : Int32) (v3 : Int32) (v4 : Int32) (h : wp_X10_at post X v0 v1 v2 v3 v4) : Met l yX10_at (.code yX10_at cX10_at 5 (some .int) :: gd) (rmO 0 0 0 0) (va_Pc [Value.int v0, Value.int v1, Value.int v2, Value.int v3, Value.int v4] (Pre D kA X)) (vp_Si post) 0 0 (fun _ => False) := by
  unfold wp_X10_at at h
  refine x_enR (by decide) (Nat.le_of_ble_eq_true rfl) ?_
  intro p e s m below meth c G hr hlk hP ls hl
  obtain ⟨hx, hb, hml, hown, hts, hE, hK⟩ := id G
  have hl : lv_has ls 5 [(0, .int v0), (1, .int v1), (2, .int v2), (3, .int v3), (4, .int v4)] := hl
  refine lv_iload_n hx hb dX10_at_0 rfl (lv_at hl 0 rfl) ?_
  refine lv_bipush (v := (49 : Int32)) hx hb dX10_at_1 (by decide) ?_
  refine lv_imul hx hb dX10_at_3 ?_
  refine lv_iload_n hx hb dX10_at_4 rfl (lv_at hl 1 rfl) ?_
  refine lv_iadd hx hb dX10_at_5 ?_
  refine lv_bipush (v := (21 : Int32)) hx hb dX10_at_6 (by decide) ?_
  refine lv_imul hx hb dX10_at_8 ?_
  refine lv_iload_n hx hb dX10_at_9 rfl (lv_at hl 2 rfl) ?_
  refine lv_iadd hx hb dX10_at_10 ?_
  refine lv_bipush (v := (25 : Int32)) hx hb dX10_at_11 (by decide) ?_
  refine lv_imul hx hb dX10_at_13 ?_
  refine lv_iload_n hx hb dX10_at_14 rfl (lv_at hl 3 rfl) ?_
  refine lv_iadd hx hb dX10_at_15 ?_
  refine lv_iconst (v := (5 : Int32)) hx hb dX10_at_16 (by decide) ?_
  refine lv_imul hx hb dX10_at_17 ?_
  refine lv_iload hx hb dX10_at_18 (lv_at hl 4 rfl) ?_
  refine lv_iadd hx hb dX10_at_20 ?_
  exact x_iretR G hr hlk h dX10_at_21
def bk_X10_valueOf_54 (post : Int32 → Prop) (X : Hp) (v0 : Nat) (v1 : Int32) (v2 : Int32) (v3 : Int32) (v4 : Int32) (v5 : Int32) (v6 : Int32) (v7 : Int32)  (b54_8 : Int32) : Prop := ∃ fs36 : List Value, Hs X v0 (.inr (10, fs36)) ∧ wp_X10_owedBehind (fun r9 => ∀ x10 : Int32, x10 = (v4 - b54_8) → ∃ fs35 : List Value, Hs X v0 (.inr (10, fs35)) ∧ wp_X10_riskOf (fun r11 => (¬ v6 = (4 : Int32) → (v6 = (3 : Int32) → ∃ (fs14 : List Value) (y15 : Nat), Hs X v0 (.inr (10, fs14)) ∧ fs14[19]? = some (.ref y15) ∧ wp_X10_at (fun r16 => ∃ (n17 : Nat) (f18 : Nat → Int32), Hs X y15 (.inl (0, n17, .inl f18)) ∧ vp_in r16 n17 ∧ ∃ fs22 : List Value, Hs X v0 (.inr (10, fs22)) ∧ wp_X10_riskOf (fun r19 => wp_X10_lessened (fun r20 => wp_X10_lessened (fun r21 => post r21)  X r20 r11)  X (f18 r16.toNatClampNeg) r19)  X v0 v1 (v2 + (1 : Int32)) v3 v6 v7)  X v1 (v2 + (2 : Int32)) r9 x10 v5) ∧ (¬ v6 = (3 : Int32) → ∃ (fs23 : List Value) (y24 : Nat), Hs X v0 (.inr (10, fs23)) ∧ fs23[19]? = some (.ref y24) ∧ wp_X10_at (fun r25 => ∃ (n26 : Nat) (f27 : Nat → Int32), Hs X y24 (.inl (0, n26, .inl f27)) ∧ vp_in r25 n26 ∧ wp_X10_lessened (fun r28 => post r28)  X (f27 r25.toNatClampNeg) r11)  X v1 (v2 + (1 : Int32)) r9 x10 v5)) ∧ (v6 = (4 : Int32) → ∃ (fs29 : List Value) (y30 : Nat), Hs X v0 (.inr (10, fs29)) ∧ fs29[19]? = some (.ref y30) ∧ wp_X10_at (fun r31 => ∃ (n32 : Nat) (f33 : Nat → Int32), Hs X y30 (.inl (0, n32, .inl f33)) ∧ vp_in r31 n32 ∧ wp_X10_lessened (fun r34 => post r34)  X (f33 r31.toNatClampNeg) r11)  X v1 v2 r9 x10 (v5 - (1 : Int32))))  X v0 v1 v2 v3 v6 v7)  X v0 v1 v2 v3 v6
def bk_X10_valueOf_20 (post : Int32 → Prop) (X : Hp) (v0 : Nat) (v1 : Int32) (v2 : Int32) (v3 : Int32) (v4 : Int32) (v5 : Int32) (v6 : Int32) (v7 : Int32)  (b20_s0 : Int32) : Prop := ∃ fs8 : List Value, Hs X v0 (.inr (10, fs8)) ∧ wp_X10_canBe (fun r3 => (r3 = 0 → post (-6 : Int32)) ∧ (¬ r3 = 0 → (v4 < b20_s0 → post (-6 : Int32)) ∧ (¬ v4 < b20_s0 → (¬ v6 = (4 : Int32) → bk_X10_valueOf_54 post X v0 v1 v2 v3 v4 v5 v6 v7 b20_s0) ∧ (v6 = (4 : Int32) → (¬ v5 = 0 → bk_X10_valueOf_54 post X v0 v1 v2 v3 v4 v5 v6 v7 b20_s0) ∧ (v5 = 0 → post (-6 : Int32))))))  X v0 v1 v2 v6
def wp_X10_valueOf (post : Int32 → Prop) (X : Hp) (v0 : Nat) (v1 : Int32) (v2 : Int32) (v3 : Int32) (v4 : Int32) (v5 : Int32) (v6 : Int32) (v7 : Int32) : Prop := (¬ v7 = 0 → (¬ v6 = (3 : Int32) → bk_X10_valueOf_20 post X v0 v1 v2 v3 v4 v5 v6 v7 (1 : Int32)) ∧ (v6 = (3 : Int32) → bk_X10_valueOf_20 post X v0 v1 v2 v3 v4 v5 v6 v7 (2 : Int32))) ∧ (v7 = 0 → bk_X10_valueOf_20 post X v0 v1 v2 v3 v4 v5 v6 v7 (0 : Int32))
set_option maxHeartbeats 4000000 in
set_option maxRecDepth 100000 in
theorem c_X10_valueOf (l : Launch) (D : va_G) (kA : Nat → ClassId) (post : Int32 → Prop) (X : Hp) (v0 : Nat) (v1 : Int32) (v2 : Int32) (v3 : Int32) (v4 : Int32) (v5 : Int32) (v6 : Int32) (v7 : Int32) (h : wp_X10_valueOf post X v0 v1 v2 v3 v4 v5 v6 v7) : Met l yX10_valueOf (.code yX10_valueOf cX10_valueOf 13 (some .int) :: gd) (rmO 2 0 0 51) (va_Pc [Value.ref v0, Value.int v1, Value.int v2, Value.int v3, Value.int v4, Value.int v5, Value.int v6, Value.int v7] (Pre D kA X)) (vp_Si post) 0 0 (fun _ => False) := by
  unfold wp_X10_valueOf at h
  refine x_enR (by decide) (Nat.le_of_ble_eq_true rfl) ?_
  intro p e s m below meth c G hr hlk hP ls hl
  obtain ⟨hx, hb, hml, hown, hts, hE, hK⟩ := id G
  have hl : lv_has ls 13 [(0, .ref v0), (1, .int v1), (2, .int v2), (3, .int v3), (4, .int v4), (5, .int v5), (6, .int v6), (7, .int v7)] := hl
  have J_54 : ∀ (b54_8 : Int32), ∀ (_ : bk_X10_valueOf_54 post X v0 v1 v2 v3 v4 v5 v6 v7  b54_8), ∀ ls, lv_has ls 13 [(0, .ref v0), (1, .int v1), (2, .int v2), (3, .int v3), (4, .int v4), (5, .int v5), (6, .int v6), (7, .int v7), (8, .int b54_8)] → W p l e (rmO 2 0 0 51) s m [Value.ref v0, Value.int v1, Value.int v2, Value.int v3, Value.int v4, Value.int v5, Value.int v6, Value.int v7].toArray below meth c s.heap [] 0 0 (MQ below (vp_Si post) [Value.ref v0, Value.int v1, Value.int v2, Value.int v3, Value.int v4, Value.int v5, Value.int v6, Value.int v7].toArray s 0 0 (fun _ => False)) (F0 m 54 ls []) := by
    intro b54_8 h ls hl
    unfold bk_X10_valueOf_54 at h
    refine lv_aload_n hx hb dX10_valueOf_54 rfl (lv_at hl 0 rfl) ?_
    refine lv_iload_n hx hb dX10_valueOf_55 rfl (lv_at hl 1 rfl) ?_
    refine lv_iload_n hx hb dX10_valueOf_56 rfl (lv_at hl 2 rfl) ?_
    refine lv_iload_n hx hb dX10_valueOf_57 rfl (lv_at hl 3 rfl) ?_
    refine lv_iload hx hb dX10_valueOf_58 (lv_at hl 6 rfl) ?_
    obtain ⟨fs36, hfs36, h⟩ := h
    refine x_cRVi (As := [.int v1, .int v2, .int v3, .int v6]) (rest := []) G hP hfs36 rfl rfl (c_X10_owedBehind l D kA _ _ v0 v1 v2 v3 v6 h) cd_X10_owedBehind ml_X10_119 ⟨(Nat.le_of_ble_eq_true rfl), (Nat.le_of_ble_eq_true rfl)⟩ rfl hl.1 rfl (Nat.le_of_ble_eq_true rfl) dX10_valueOf_60 ⟨Nat.zero_le _, Nat.zero_le _⟩ (fun r9 h => ?_)
    refine lv_istore (lv' := [(9, .int r9), (0, .ref v0), (1, .int v1), (2, .int v2), (3, .int v3), (4, .int v4), (5, .int v5), (6, .int v6), (7, .int v7), (8, .int b54_8)]) hx hb dX10_valueOf_63 hl (by decide) rfl (fun ls hl => ?_)
    refine lv_iload hx hb dX10_valueOf_65 (lv_at hl 5 rfl) ?_
    refine lv_iload hx hb dX10_valueOf_67 (lv_at hl 9 rfl) ?_
    refine lv_isub hx hb dX10_valueOf_69 ?_
    refine lv_topi (fun x10 ex10 => ?_)
    have h := h x10 ex10
    refine lv_istore (lv' := [(10, .int x10), (9, .int r9), (0, .ref v0), (1, .int v1), (2, .int v2), (3, .int v3), (4, .int v4), (5, .int v5), (6, .int v6), (7, .int v7), (8, .int b54_8)]) hx hb dX10_valueOf_70 hl (by decide) rfl (fun ls hl => ?_)
    refine lv_aload_n hx hb dX10_valueOf_72 rfl (lv_at hl 2 rfl) ?_
    refine lv_iload_n hx hb dX10_valueOf_73 rfl (lv_at hl 3 rfl) ?_
    refine lv_iload_n hx hb dX10_valueOf_74 rfl (lv_at hl 4 rfl) ?_
    refine lv_iload_n hx hb dX10_valueOf_75 rfl (lv_at hl 5 rfl) ?_
    refine lv_iload hx hb dX10_valueOf_76 (lv_at hl 8 rfl) ?_
    refine lv_iload hx hb dX10_valueOf_78 (lv_at hl 9 rfl) ?_
    obtain ⟨fs35, hfs35, h⟩ := h
    refine x_cRVi (As := [.int v1, .int v2, .int v3, .int v6, .int v7]) (rest := []) G hP hfs35 rfl rfl (c_X10_riskOf l D kA _ _ v0 v1 v2 v3 v6 v7 h) cd_X10_riskOf ml_X10_123 ⟨(Nat.le_of_ble_eq_true rfl), (Nat.le_of_ble_eq_true rfl)⟩ rfl hl.1 rfl (Nat.le_of_ble_eq_true rfl) dX10_valueOf_80 ⟨Nat.zero_le _, Nat.zero_le _⟩ (fun r11 h => ?_)
    refine lv_istore (lv' := [(11, .int r11), (10, .int x10), (9, .int r9), (0, .ref v0), (1, .int v1), (2, .int v2), (3, .int v3), (4, .int v4), (5, .int v5), (6, .int v6), (7, .int v7), (8, .int b54_8)]) hx hb dX10_valueOf_83 hl (by decide) rfl (fun ls hl => ?_)
    refine lv_iload hx hb dX10_valueOf_85 (lv_at hl 9 rfl) ?_
    refine lv_iconst (v := (4 : Int32)) hx hb dX10_valueOf_87 (by decide) ?_
    refine lv_icmp_ne (tgt := 115) hx hb dX10_valueOf_88 (by decide) (fun c12 => ?_) (fun c12 => ?_)
    · have h := h.1 c12
      refine lv_iload hx hb dX10_valueOf_115 (lv_at hl 9 rfl) ?_
      refine lv_iconst (v := (3 : Int32)) hx hb dX10_valueOf_117 (by decide) ?_
      refine lv_icmp_eq (tgt := 145) hx hb dX10_valueOf_118 (by decide) (fun c13 => ?_) (fun c13 => ?_)
      · have h := h.1 c13
        refine lv_aload_n hx hb dX10_valueOf_145 rfl (lv_at hl 3 rfl) ?_
        obtain ⟨fs14, y15, hfs14, hvfs14, h⟩ := h
        refine x_get G hP hfs14 hvfs14 fl_X10_50 dX10_valueOf_146 ?_
        refine lv_iload_n hx hb dX10_valueOf_149 rfl (lv_at hl 4 rfl) ?_
        refine lv_iload_n hx hb dX10_valueOf_150 rfl (lv_at hl 5 rfl) ?_
        refine lv_iconst (v := (2 : Int32)) hx hb dX10_valueOf_151 (by decide) ?_
        refine lv_iadd hx hb dX10_valueOf_152 ?_
        refine lv_iload hx hb dX10_valueOf_153 (lv_at hl 2 rfl) ?_
        refine lv_iload hx hb dX10_valueOf_155 (lv_at hl 1 rfl) ?_
        refine lv_iload hx hb dX10_valueOf_157 (lv_at hl 8 rfl) ?_
        refine x_cRSi (As := [.int v1, .int (v2 + (2 : Int32)), .int r9, .int x10, .int v5]) (rest := [.ref y15]) G hP (c_X10_at l D kA _ _ v1 (v2 + (2 : Int32)) r9 x10 v5 h) cd_X10_at ml_X10_179 ⟨(Nat.le_of_ble_eq_true rfl), (Nat.le_of_ble_eq_true rfl)⟩ rfl hl.1 rfl (Nat.le_of_ble_eq_true rfl) dX10_valueOf_159 ⟨Nat.zero_le _, Nat.zero_le _⟩ (fun r16 h => ?_)
        obtain ⟨n17, f18, hf18, hif18, h⟩ := h
        refine x_iald G hP hf18 hif18 dX10_valueOf_162 ?_
        refine lv_aload_n hx hb dX10_valueOf_163 rfl (lv_at hl 3 rfl) ?_
        refine lv_iload_n hx hb dX10_valueOf_164 rfl (lv_at hl 4 rfl) ?_
        refine lv_iload_n hx hb dX10_valueOf_165 rfl (lv_at hl 5 rfl) ?_
        refine lv_iconst (v := (1 : Int32)) hx hb dX10_valueOf_166 (by decide) ?_
        refine lv_iadd hx hb dX10_valueOf_167 ?_
        refine lv_iload_n hx hb dX10_valueOf_168 rfl (lv_at hl 6 rfl) ?_
        refine lv_iload hx hb dX10_valueOf_169 (lv_at hl 9 rfl) ?_
        refine lv_iload hx hb dX10_valueOf_171 (lv_at hl 10 rfl) ?_
        obtain ⟨fs22, hfs22, h⟩ := h
        refine x_cRVi (As := [.int v1, .int (v2 + (1 : Int32)), .int v3, .int v6, .int v7]) (rest := [.int (f18 r16.toNatClampNeg)]) G hP hfs22 rfl rfl (c_X10_riskOf l D kA _ _ v0 v1 (v2 + (1 : Int32)) v3 v6 v7 h) cd_X10_riskOf ml_X10_123 ⟨(Nat.le_of_ble_eq_true rfl), (Nat.le_of_ble_eq_true rfl)⟩ rfl hl.1 rfl (Nat.le_of_ble_eq_true rfl) dX10_valueOf_173 ⟨Nat.zero_le _, Nat.zero_le _⟩ (fun r19 h => ?_)
        refine x_cRSi (As := [.int (f18 r16.toNatClampNeg), .int r19]) (rest := []) G hP (c_X10_lessened l D kA _ _ (f18 r16.toNatClampNeg) r19 h) cd_X10_lessened ml_X10_157 ⟨(Nat.le_of_ble_eq_true rfl), (Nat.le_of_ble_eq_true rfl)⟩ rfl hl.1 rfl (Nat.le_of_ble_eq_true rfl) dX10_valueOf_176 ⟨Nat.zero_le _, Nat.zero_le _⟩ (fun r20 h => ?_)
        refine lv_istore (lv' := [(12, .int r20), (11, .int r11), (10, .int x10), (9, .int r9), (0, .ref v0), (1, .int v1), (2, .int v2), (3, .int v3), (4, .int v4), (5, .int v5), (6, .int v6), (7, .int v7), (8, .int b54_8)]) hx hb dX10_valueOf_179 hl (by decide) rfl (fun ls hl => ?_)
        refine lv_iload hx hb dX10_valueOf_181 (lv_at hl 0 rfl) ?_
        refine lv_iload hx hb dX10_valueOf_183 (lv_at hl 1 rfl) ?_
        refine x_cRSi (As := [.int r20, .int r11]) (rest := []) G hP (c_X10_lessened l D kA _ _ r20 r11 h) cd_X10_lessened ml_X10_157 ⟨(Nat.le_of_ble_eq_true rfl), (Nat.le_of_ble_eq_true rfl)⟩ rfl hl.1 rfl (Nat.le_of_ble_eq_true rfl) dX10_valueOf_185 ⟨Nat.zero_le _, Nat.zero_le _⟩ (fun r21 h => ?_)
        exact x_iretR G hr hlk h dX10_valueOf_188
      · have h := h.2 c13
        refine lv_aload_n hx hb dX10_valueOf_121 rfl (lv_at hl 3 rfl) ?_
        obtain ⟨fs23, y24, hfs23, hvfs23, h⟩ := h
        refine x_get G hP hfs23 hvfs23 fl_X10_50 dX10_valueOf_122 ?_
        refine lv_iload_n hx hb dX10_valueOf_125 rfl (lv_at hl 4 rfl) ?_
        refine lv_iload_n hx hb dX10_valueOf_126 rfl (lv_at hl 5 rfl) ?_
        refine lv_iconst (v := (1 : Int32)) hx hb dX10_valueOf_127 (by decide) ?_
        refine lv_iadd hx hb dX10_valueOf_128 ?_
        refine lv_iload hx hb dX10_valueOf_129 (lv_at hl 2 rfl) ?_
        refine lv_iload hx hb dX10_valueOf_131 (lv_at hl 1 rfl) ?_
        refine lv_iload hx hb dX10_valueOf_133 (lv_at hl 8 rfl) ?_
        refine x_cRSi (As := [.int v1, .int (v2 + (1 : Int32)), .int r9, .int x10, .int v5]) (rest := [.ref y24]) G hP (c_X10_at l D kA _ _ v1 (v2 + (1 : Int32)) r9 x10 v5 h) cd_X10_at ml_X10_179 ⟨(Nat.le_of_ble_eq_true rfl), (Nat.le_of_ble_eq_true rfl)⟩ rfl hl.1 rfl (Nat.le_of_ble_eq_true rfl) dX10_valueOf_135 ⟨Nat.zero_le _, Nat.zero_le _⟩ (fun r25 h => ?_)
        obtain ⟨n26, f27, hf27, hif27, h⟩ := h
        refine x_iald G hP hf27 hif27 dX10_valueOf_138 ?_
        refine lv_iload hx hb dX10_valueOf_139 (lv_at hl 0 rfl) ?_
        refine x_cRSi (As := [.int (f27 r25.toNatClampNeg), .int r11]) (rest := []) G hP (c_X10_lessened l D kA _ _ (f27 r25.toNatClampNeg) r11 h) cd_X10_lessened ml_X10_157 ⟨(Nat.le_of_ble_eq_true rfl), (Nat.le_of_ble_eq_true rfl)⟩ rfl hl.1 rfl (Nat.le_of_ble_eq_true rfl) dX10_valueOf_141 ⟨Nat.zero_le _, Nat.zero_le _⟩ (fun r28 h => ?_)
        exact x_iretR G hr hlk h dX10_valueOf_144
    · have h := h.2 c12
      refine lv_aload_n hx hb dX10_valueOf_91 rfl (lv_at hl 3 rfl) ?_
      obtain ⟨fs29, y30, hfs29, hvfs29, h⟩ := h
      refine x_get G hP hfs29 hvfs29 fl_X10_50 dX10_valueOf_92 ?_
      refine lv_iload_n hx hb dX10_valueOf_95 rfl (lv_at hl 4 rfl) ?_
      refine lv_iload_n hx hb dX10_valueOf_96 rfl (lv_at hl 5 rfl) ?_
      refine lv_iload hx hb dX10_valueOf_97 (lv_at hl 2 rfl) ?_
      refine lv_iload hx hb dX10_valueOf_99 (lv_at hl 1 rfl) ?_
      refine lv_iload hx hb dX10_valueOf_101 (lv_at hl 8 rfl) ?_
      refine lv_iconst (v := (1 : Int32)) hx hb dX10_valueOf_103 (by decide) ?_
      refine lv_isub hx hb dX10_valueOf_104 ?_
      refine x_cRSi (As := [.int v1, .int v2, .int r9, .int x10, .int (v5 - (1 : Int32))]) (rest := [.ref y30]) G hP (c_X10_at l D kA _ _ v1 v2 r9 x10 (v5 - (1 : Int32)) h) cd_X10_at ml_X10_179 ⟨(Nat.le_of_ble_eq_true rfl), (Nat.le_of_ble_eq_true rfl)⟩ rfl hl.1 rfl (Nat.le_of_ble_eq_true rfl) dX10_valueOf_105 ⟨Nat.zero_le _, Nat.zero_le _⟩ (fun r31 h => ?_)
      obtain ⟨n32, f33, hf33, hif33, h⟩ := h
      refine x_iald G hP hf33 hif33 dX10_valueOf_108 ?_
      refine lv_iload hx hb dX10_valueOf_109 (lv_at hl 0 rfl) ?_
      refine x_cRSi (As := [.int (f33 r31.toNatClampNeg), .int r11]) (rest := []) G hP (c_X10_lessened l D kA _ _ (f33 r31.toNatClampNeg) r11 h) cd_X10_lessened ml_X10_157 ⟨(Nat.le_of_ble_eq_true rfl), (Nat.le_of_ble_eq_true rfl)⟩ rfl hl.1 rfl (Nat.le_of_ble_eq_true rfl) dX10_valueOf_111 ⟨Nat.zero_le _, Nat.zero_le _⟩ (fun r34 h => ?_)
      exact x_iretR G hr hlk h dX10_valueOf_114
  have J_20 : ∀ (b20_s0 : Int32), ∀ (_ : bk_X10_valueOf_20 post X v0 v1 v2 v3 v4 v5 v6 v7  b20_s0), ∀ ls, lv_has ls 13 [(0, .ref v0), (1, .int v1), (2, .int v2), (3, .int v3), (4, .int v4), (5, .int v5), (6, .int v6), (7, .int v7)] → W p l e (rmO 2 0 0 51) s m [Value.ref v0, Value.int v1, Value.int v2, Value.int v3, Value.int v4, Value.int v5, Value.int v6, Value.int v7].toArray below meth c s.heap [] 0 0 (MQ below (vp_Si post) [Value.ref v0, Value.int v1, Value.int v2, Value.int v3, Value.int v4, Value.int v5, Value.int v6, Value.int v7].toArray s 0 0 (fun _ => False)) (F0 m 20 ls [.int b20_s0]) := by
    intro b20_s0 h ls hl
    unfold bk_X10_valueOf_20 at h
    refine lv_istore (lv' := [(8, .int b20_s0), (0, .ref v0), (1, .int v1), (2, .int v2), (3, .int v3), (4, .int v4), (5, .int v5), (6, .int v6), (7, .int v7)]) hx hb dX10_valueOf_20 hl (by decide) rfl (fun ls hl => ?_)
    refine lv_aload_n hx hb dX10_valueOf_22 rfl (lv_at hl 1 rfl) ?_
    refine lv_iload_n hx hb dX10_valueOf_23 rfl (lv_at hl 2 rfl) ?_
    refine lv_iload_n hx hb dX10_valueOf_24 rfl (lv_at hl 3 rfl) ?_
    refine lv_iload hx hb dX10_valueOf_25 (lv_at hl 7 rfl) ?_
    obtain ⟨fs8, hfs8, h⟩ := h
    refine x_cRVi (As := [.int v1, .int v2, .int v6]) (rest := []) G hP hfs8 rfl rfl (c_X10_canBe l D kA _ _ v0 v1 v2 v6 h) cd_X10_canBe ml_X10_115 ⟨(Nat.le_of_ble_eq_true rfl), (Nat.le_of_ble_eq_true rfl)⟩ rfl hl.1 rfl (Nat.le_of_ble_eq_true rfl) dX10_valueOf_27 ⟨Nat.zero_le _, Nat.zero_le _⟩ (fun r3 h => ?_)
    refine lv_if_eq (tgt := 51) hx hb dX10_valueOf_30 (by decide) (fun c4 => ?_) (fun c4 => ?_)
    · have h := h.1 c4
      refine lv_bipush (v := (-6 : Int32)) hx hb dX10_valueOf_51 (by decide) ?_
      exact x_iretR G hr hlk h dX10_valueOf_53
    · have h := h.2 c4
      refine lv_iload hx hb dX10_valueOf_33 (lv_at hl 0 rfl) ?_
      refine lv_iload hx hb dX10_valueOf_35 (lv_at hl 5 rfl) ?_
      refine lv_icmp_gt (tgt := 51) hx hb dX10_valueOf_37 (by decide) (fun c5 => ?_) (fun c5 => ?_)
      · have h := h.1 c5
        refine lv_bipush (v := (-6 : Int32)) hx hb dX10_valueOf_51 (by decide) ?_
        exact x_iretR G hr hlk h dX10_valueOf_53
      · have h := h.2 c5
        refine lv_iload hx hb dX10_valueOf_40 (lv_at hl 7 rfl) ?_
        refine lv_iconst (v := (4 : Int32)) hx hb dX10_valueOf_42 (by decide) ?_
        refine lv_icmp_ne (tgt := 54) hx hb dX10_valueOf_43 (by decide) (fun c6 => ?_) (fun c6 => ?_)
        · have h := h.1 c6
          exact J_54 _ h ls (lv_sub hl [1, 2, 3, 4, 5, 6, 7, 8, 0] rfl)
        · have h := h.2 c6
          refine lv_iload hx hb dX10_valueOf_46 (lv_at hl 6 rfl) ?_
          refine lv_if_ne (tgt := 54) hx hb dX10_valueOf_48 (by decide) (fun c7 => ?_) (fun c7 => ?_)
          · have h := h.1 c7
            exact J_54 _ h ls (lv_sub hl [1, 2, 3, 4, 5, 6, 7, 8, 0] rfl)
          · have h := h.2 c7
            refine lv_bipush (v := (-6 : Int32)) hx hb dX10_valueOf_51 (by decide) ?_
            exact x_iretR G hr hlk h dX10_valueOf_53
  refine lv_iload hx hb dX10_valueOf_0 (lv_at hl 7 rfl) ?_
  refine lv_if_ne (tgt := 9) hx hb dX10_valueOf_2 (by decide) (fun c1 => ?_) (fun c1 => ?_)
  · have h := h.1 c1
    refine lv_iload hx hb dX10_valueOf_9 (lv_at hl 6 rfl) ?_
    refine lv_iconst (v := (3 : Int32)) hx hb dX10_valueOf_11 (by decide) ?_
    refine lv_icmp_ne (tgt := 19) hx hb dX10_valueOf_12 (by decide) (fun c2 => ?_) (fun c2 => ?_)
    · have h := h.1 c2
      refine lv_iconst (v := (1 : Int32)) hx hb dX10_valueOf_19 (by decide) ?_
      exact J_20 _ h ls (lv_sub hl [0, 1, 2, 3, 4, 5, 6, 7] rfl)
    · have h := h.2 c2
      refine lv_iconst (v := (2 : Int32)) hx hb dX10_valueOf_15 (by decide) ?_
      refine lv_goto (tgt := 20) hx hb dX10_valueOf_16 (by decide) ?_
      exact J_20 _ h ls (lv_sub hl [0, 1, 2, 3, 4, 5, 6, 7] rfl)
  · have h := h.2 c1
    refine lv_iconst (v := (0 : Int32)) hx hb dX10_valueOf_5 (by decide) ?_
    refine lv_goto (tgt := 20) hx hb dX10_valueOf_6 (by decide) ?_
    exact J_20 _ h ls (lv_sub hl [0, 1, 2, 3, 4, 5, 6, 7] rfl)
def bk_X10_triedAt_25 (post : Int32 → Prop) (X : Hp) (v0 : Int32)  (b25_s0 : Int32) (b25_s1 : Int32) : Prop := post (b25_s1 + b25_s0)
def wp_X10_triedAt (post : Int32 → Prop) (X : Hp) (v0 : Int32) : Prop := (¬ v0 = 0 → (¬ (v0 - v0 / (2 : Int32) * (2 : Int32)) = 0 → bk_X10_triedAt_25 post X v0 (0 : Int32) (((v0 + (1 : Int32)) / (2 : Int32)))) ∧ ((v0 - v0 / (2 : Int32) * (2 : Int32)) = 0 → bk_X10_triedAt_25 post X v0 (10 : Int32) (((v0 + (1 : Int32)) / (2 : Int32))))) ∧ (v0 = 0 → post (0 : Int32))
set_option maxHeartbeats 4000000 in
set_option maxRecDepth 100000 in
theorem c_X10_triedAt (l : Launch) (D : va_G) (kA : Nat → ClassId) (post : Int32 → Prop) (X : Hp) (v0 : Int32) (h : wp_X10_triedAt post X v0) : Met l yX10_triedAt (.code yX10_triedAt cX10_triedAt 1 (some .int) :: gd) (rmO 0 0 0 0) (va_Pc [Value.int v0] (Pre D kA X)) (vp_Si post) 0 0 (fun _ => False) := by
  unfold wp_X10_triedAt at h
  refine x_enR (by decide) (Nat.le_of_ble_eq_true rfl) ?_
  intro p e s m below meth c G hr hlk hP ls hl
  obtain ⟨hx, hb, hml, hown, hts, hE, hK⟩ := id G
  have hl : lv_has ls 1 [(0, .int v0)] := hl
  have J_25 : ∀ (b25_s0 : Int32) (b25_s1 : Int32), ∀ (_ : bk_X10_triedAt_25 post X v0  b25_s0 b25_s1), ∀ ls, lv_has ls 1 [] → W p l e (rmO 0 0 0 0) s m [Value.int v0].toArray below meth c s.heap [] 0 0 (MQ below (vp_Si post) [Value.int v0].toArray s 0 0 (fun _ => False)) (F0 m 25 ls [.int b25_s0, .int b25_s1]) := by
    intro b25_s0 b25_s1 h ls hl
    unfold bk_X10_triedAt_25 at h
    refine lv_iadd hx hb dX10_triedAt_25 ?_
    exact x_iretR G hr hlk h dX10_triedAt_26
  refine lv_iload_n hx hb dX10_triedAt_0 rfl (lv_at hl 0 rfl) ?_
  refine lv_if_ne (tgt := 8) hx hb dX10_triedAt_1 (by decide) (fun c1 => ?_) (fun c1 => ?_)
  · have h := h.1 c1
    refine lv_iload_n hx hb dX10_triedAt_8 rfl (lv_at hl 0 rfl) ?_
    refine lv_iconst (v := (1 : Int32)) hx hb dX10_triedAt_9 (by decide) ?_
    refine lv_iadd hx hb dX10_triedAt_10 ?_
    refine lv_iconst (v := (2 : Int32)) hx hb dX10_triedAt_11 (by decide) ?_
    refine lv_idiv hx hb dX10_triedAt_12 (by decide) ?_
    refine lv_iload_n hx hb dX10_triedAt_13 rfl (lv_at hl 0 rfl) ?_
    refine lv_iconst (v := (2 : Int32)) hx hb dX10_triedAt_14 (by decide) ?_
    refine lv_irem hx hb dX10_triedAt_15 (by decide) ?_
    refine lv_if_ne (tgt := 24) hx hb dX10_triedAt_16 (by decide) (fun c2 => ?_) (fun c2 => ?_)
    · have h := h.1 c2
      refine lv_iconst (v := (0 : Int32)) hx hb dX10_triedAt_24 (by decide) ?_
      exact J_25 _ _ h ls (lv_sub hl [] rfl)
    · have h := h.2 c2
      refine lv_bipush (v := (10 : Int32)) hx hb dX10_triedAt_19 (by decide) ?_
      refine lv_goto (tgt := 25) hx hb dX10_triedAt_21 (by decide) ?_
      exact J_25 _ _ h ls (lv_sub hl [] rfl)
  · have h := h.2 c1
    refine lv_iconst (v := (0 : Int32)) hx hb dX10_triedAt_4 (by decide) ?_
    refine lv_goto (tgt := 26) hx hb dX10_triedAt_5 (by decide) ?_
    exact x_iretR G hr hlk h dX10_triedAt_26
def bk_X10_lay_145 (post : Hp → Prop) (v0 : Nat) (v1 : Int32) (r_24 : Hp → Int32 → Prop) (r_30 : Hp → Int32 → Int32 → Prop) (r_38 : Hp → Int32 → Int32 → Int32 → Prop) (r_48 : Hp → Int32 → Int32 → Int32 → Int32 → Prop) (X : Hp) (b145_2 : Int32) (b145_3 : Int32) (b145_4 : Int32) (b145_5 : Int32) (b145_6 : Int32) : Prop := ∃ (fs44 : List Value) (y45 : Nat), Hs X v0 (.inr (10, fs44)) ∧ fs44[19]? = some (.ref y45) ∧ wp_X10_at (fun r46 => ∃ (n47 : Nat) (f48 : Nat → Int32), Hs X y45 (.inl (0, n47, .inl f48)) ∧ vp_in r46 n47 ∧ ∀ X49 : Hp, X49 = hput X y45 (.inl (0, n47, .inl (upd f48 r46.toNatClampNeg b145_6))) → ∀ x50 : Int32, x50 = b145_5 + (1 : Int32) → r_48 X49 b145_2 b145_3 b145_4 x50)  X v1 b145_2 b145_4 b145_5 b145_3
def bk_X10_lay_137 (post : Hp → Prop) (v0 : Nat) (v1 : Int32) (r_24 : Hp → Int32 → Prop) (r_30 : Hp → Int32 → Int32 → Prop) (r_38 : Hp → Int32 → Int32 → Int32 → Prop) (r_48 : Hp → Int32 → Int32 → Int32 → Int32 → Prop) (r_76 : Hp → Int32 → Int32 → Int32 → Int32 → Int32 → Int32 → Prop) (X : Hp) (b137_2 : Int32) (b137_3 : Int32) (b137_4 : Int32) (b137_5 : Int32) (b137_7 : Int32) (b137_s0 : Int32) : Prop := ∀ x43 : Int32, x43 = b137_7 + (1 : Int32) → r_76 X b137_2 b137_3 b137_4 b137_5 b137_s0 x43
def bk_X10_lay_76 (post : Hp → Prop) (v0 : Nat) (v1 : Int32) (r_24 : Hp → Int32 → Prop) (r_30 : Hp → Int32 → Int32 → Prop) (r_38 : Hp → Int32 → Int32 → Int32 → Prop) (r_48 : Hp → Int32 → Int32 → Int32 → Int32 → Prop) : Nat → Hp → Int32 → Int32 → Int32 → Int32 → Int32 → Int32 → Prop
  | 0, _, _, _, _, _, _, _ => False
  | k + 1, X, b76_2, b76_3, b76_4, b76_5, b76_6, b76_7 => ((9 : Int32) ≤ b76_7 → bk_X10_lay_145 post v0 v1 r_24 r_30 r_38 r_48 X b76_2 b76_3 b76_4 b76_5 b76_6) ∧ (¬ (9 : Int32) ≤ b76_7 → ∃ (fs34 : List Value) (y35 : Nat), Hs X v0 (.inr (10, fs34)) ∧ fs34[4]? = some (.ref y35) ∧ ∃ (n36 : Nat) (f37 : Nat → Int32), Hs X y35 (.inl (0, n36, .inl f37)) ∧ vp_in v1 n36 ∧ ((f37 v1.toNatClampNeg) ≤ b76_2 → bk_X10_lay_145 post v0 v1 r_24 r_30 r_38 r_48 X b76_2 b76_3 b76_4 b76_5 b76_6) ∧ (¬ (f37 v1.toNatClampNeg) ≤ b76_2 → wp_X10_triedAt (fun r39 => ∃ fs42 : List Value, Hs X v0 (.inr (10, fs42)) ∧ wp_X10_valueOf (fun r40 => (r40 ≤ b76_6 → bk_X10_lay_137 post v0 v1 r_24 r_30 r_38 r_48 (bk_X10_lay_76 post v0 v1 r_24 r_30 r_38 r_48 k) X b76_2 b76_3 b76_4 b76_5 b76_7 b76_6) ∧ (¬ r40 ≤ b76_6 → bk_X10_lay_137 post v0 v1 r_24 r_30 r_38 r_48 (bk_X10_lay_76 post v0 v1 r_24 r_30 r_38 r_48 k) X b76_2 b76_3 b76_4 b76_5 b76_7 r40)) X v0 v1 b76_2 b76_4 b76_5 b76_3 (r39 - r39 / (10 : Int32) * (10 : Int32)) (r39 / (10 : Int32))) X b76_7))
def bk_X10_lay_71 (post : Hp → Prop) (v0 : Nat) (v1 : Int32) (r_24 : Hp → Int32 → Prop) (r_30 : Hp → Int32 → Int32 → Prop) (r_38 : Hp → Int32 → Int32 → Int32 → Prop) (r_48 : Hp → Int32 → Int32 → Int32 → Int32 → Prop) (X : Hp) (b71_2 : Int32) (b71_3 : Int32) (b71_4 : Int32) (b71_5 : Int32) (b71_s0 : Int32) : Prop := ∃ n32 : Nat, bk_X10_lay_76 post v0 v1 r_24 r_30 r_38 r_48 n32 X b71_2 b71_3 b71_4 b71_5 b71_s0 (0 : Int32)
def bk_X10_lay_48 (post : Hp → Prop) (v0 : Nat) (v1 : Int32) (r_24 : Hp → Int32 → Prop) (r_30 : Hp → Int32 → Int32 → Prop) (r_38 : Hp → Int32 → Int32 → Int32 → Prop) : Nat → Hp → Int32 → Int32 → Int32 → Int32 → Prop
  | 0, _, _, _, _, _ => False
  | k + 1, X, b48_2, b48_3, b48_4, b48_5 => ((24 : Int32) < b48_5 → ∀ x26 : Int32, x26 = b48_4 + (1 : Int32) → r_38 X b48_2 b48_3 x26) ∧ (¬ (24 : Int32) < b48_5 → ∃ (fs27 : List Value) (y28 : Nat), Hs X v0 (.inr (10, fs27)) ∧ fs27[4]? = some (.ref y28) ∧ ∃ (n29 : Nat) (f30 : Nat → Int32), Hs X y28 (.inl (0, n29, .inl f30)) ∧ vp_in v1 n29 ∧ (¬ b48_2 = (f30 v1.toNatClampNeg) → bk_X10_lay_71 post v0 v1 r_24 r_30 r_38 (bk_X10_lay_48 post v0 v1 r_24 r_30 r_38 k) X b48_2 b48_3 b48_4 b48_5 (0 : Int32)) ∧ (b48_2 = (f30 v1.toNatClampNeg) → bk_X10_lay_71 post v0 v1 r_24 r_30 r_38 (bk_X10_lay_48 post v0 v1 r_24 r_30 r_38 k) X b48_2 b48_3 b48_4 b48_5 (1000000 : Int32)))
def bk_X10_lay_38 (post : Hp → Prop) (v0 : Nat) (v1 : Int32) (r_24 : Hp → Int32 → Prop) (r_30 : Hp → Int32 → Int32 → Prop) : Nat → Hp → Int32 → Int32 → Int32 → Prop
  | 0, _, _, _, _ => False
  | k + 1, X, b38_2, b38_3, b38_4 => ((20 : Int32) < b38_4 → ∀ x23 : Int32, x23 = b38_3 + (1 : Int32) → r_30 X b38_2 x23) ∧ (¬ (20 : Int32) < b38_4 → ∃ n24 : Nat, bk_X10_lay_48 post v0 v1 r_24 r_30 (bk_X10_lay_38 post v0 v1 r_24 r_30 k) n24 X b38_2 b38_3 b38_4 (0 : Int32))
def bk_X10_lay_30 (post : Hp → Prop) (v0 : Nat) (v1 : Int32) (r_24 : Hp → Int32 → Prop) : Nat → Hp → Int32 → Int32 → Prop
  | 0, _, _, _ => False
  | k + 1, X, b30_2, b30_3 => ((4 : Int32) < b30_3 → ∀ x20 : Int32, x20 = b30_2 + (-1 : Int32) → r_24 X x20) ∧ (¬ (4 : Int32) < b30_3 → ∃ n21 : Nat, bk_X10_lay_38 post v0 v1 r_24 (bk_X10_lay_30 post v0 v1 r_24 k) n21 X b30_2 b30_3 (0 : Int32))
def bk_X10_lay_24 (post : Hp → Prop) (v0 : Nat) (v1 : Int32)  : Nat → Hp → Int32 → Prop
  | 0, _, _ => False
  | k + 1, X, b24_2 => (b24_2 < 0 → post X) ∧ (¬ b24_2 < 0 → ∃ n18 : Nat, bk_X10_lay_30 post v0 v1 (bk_X10_lay_24 post v0 v1 k) n18 X b24_2 (0 : Int32))
def wp_X10_lay (post : Hp → Prop) (X : Hp) (v0 : Nat) (v1 : Int32) : Prop := ∃ (fs1 : List Value) (y2 : Nat), Hs X v0 (.inr (10, fs1)) ∧ fs1[20]? = some (.ref y2) ∧ ∃ (n3 : Nat) (f4 : Nat → Int32), Hs X y2 (.inl (1, n3, .inl f4)) ∧ vp_in v1 n3 ∧ ((f4 v1.toNatClampNeg) = 0 → ∃ (fs6 : List Value) (y7 : Nat), Hs X v0 (.inr (10, fs6)) ∧ fs6[20]? = some (.ref y7) ∧ ∃ (n8 : Nat) (f9 : Nat → Int32), Hs X y7 (.inl (1, n8, .inl f9)) ∧ vp_in v1 n8 ∧ ∀ X10 : Hp, X10 = hput X y7 (.inl (1, n8, .inl (upd f9 v1.toNatClampNeg (vp_nar .boolean (1 : Int32))))) → ∃ (fs11 : List Value) (y12 : Nat), Hs X10 v0 (.inr (10, fs11)) ∧ fs11[4]? = some (.ref y12) ∧ ∃ (n13 : Nat) (f14 : Nat → Int32), Hs X10 y12 (.inl (0, n13, .inl f14)) ∧ vp_in v1 n13 ∧ ∀ x15 : Int32, x15 = (f14 v1.toNatClampNeg) → ∃ n16 : Nat, bk_X10_lay_24 post v0 v1 n16 X10 x15) ∧ (¬ (f4 v1.toNatClampNeg) = 0 → post X)
set_option maxHeartbeats 4000000 in
set_option maxRecDepth 100000 in
theorem c_X10_lay (l : Launch) (D : va_G) (kA : Nat → ClassId) (post : Hp → Prop) (X : Hp) (sz : Nat) (v0 : Nat) (v1 : Int32) (h : wp_X10_lay post X v0 v1) : Met l yX10_lay (.code yX10_lay cX10_lay 10 none :: gd) (rmO 3 0 0 83) (va_Pc [Value.ref v0, Value.int v1] (PreM D kA X sz)) (va_Qv post (PoM D kA X sz) (va_A (hw kA X) sz)) 0 0 (va_A (hw kA X) sz) := by
  unfold wp_X10_lay at h
  refine x_enM (by decide) (Nat.le_of_ble_eq_true rfl) ?_
  intro p e s m below meth c G hr hlk hin hsz hA S ls hl
  obtain ⟨hx, hb, hml, hown, hts, hE, hK⟩ := id G
  have hl : lv_has ls 10 [(0, .ref v0), (1, .int v1)] := hl
  obtain ⟨X0, hX0⟩ : ∃ Y : Hp, Y = X := ⟨_, rfl⟩
  subst hX0
  have J_24 : ∀ (n : Nat) (X : Hp) (b24_2 : Int32), ∀ (H : Heap) (locs : List Loc) (_ : bk_X10_lay_24 post v0 v1  n X b24_2), Sx D kA (va_A (hw kA X0) sz) s.heap H locs X → ∀ ls, lv_has ls 10 [(0, .ref v0), (1, .int v1), (2, .int b24_2)] → W p l e (rmO 3 0 0 83) s m [Value.ref v0, Value.int v1].toArray below meth c H locs 0 0 (MQ below (va_Qv post (PoM D kA X0 sz) (va_A (hw kA X0) sz)) [Value.ref v0, Value.int v1].toArray s 0 0 (va_A (hw kA X0) sz)) (F0 m 24 ls []) := by
    intro n
    induction n with
    | zero =>
      intro X b24_2 H locs h S ls hl
      rw [bk_X10_lay_24] at h
      exact h.elim
    | succ n_24 ih_24 =>
      have J_30 : ∀ (n : Nat) (X : Hp) (b30_2 : Int32) (b30_3 : Int32), ∀ (H : Heap) (locs : List Loc) (_ : bk_X10_lay_30 post v0 v1 (bk_X10_lay_24 post v0 v1 n_24) n X b30_2 b30_3), Sx D kA (va_A (hw kA X0) sz) s.heap H locs X → ∀ ls, lv_has ls 10 [(0, .ref v0), (1, .int v1), (2, .int b30_2), (3, .int b30_3)] → W p l e (rmO 3 0 0 83) s m [Value.ref v0, Value.int v1].toArray below meth c H locs 0 0 (MQ below (va_Qv post (PoM D kA X0 sz) (va_A (hw kA X0) sz)) [Value.ref v0, Value.int v1].toArray s 0 0 (va_A (hw kA X0) sz)) (F0 m 30 ls []) := by
        intro n
        induction n with
        | zero =>
          intro X b30_2 b30_3 H locs h S ls hl
          rw [bk_X10_lay_30] at h
          exact h.elim
        | succ n_30 ih_30 =>
          have J_38 : ∀ (n : Nat) (X : Hp) (b38_2 : Int32) (b38_3 : Int32) (b38_4 : Int32), ∀ (H : Heap) (locs : List Loc) (_ : bk_X10_lay_38 post v0 v1 (bk_X10_lay_24 post v0 v1 n_24) (bk_X10_lay_30 post v0 v1 (bk_X10_lay_24 post v0 v1 n_24) n_30) n X b38_2 b38_3 b38_4), Sx D kA (va_A (hw kA X0) sz) s.heap H locs X → ∀ ls, lv_has ls 10 [(0, .ref v0), (1, .int v1), (2, .int b38_2), (3, .int b38_3), (4, .int b38_4)] → W p l e (rmO 3 0 0 83) s m [Value.ref v0, Value.int v1].toArray below meth c H locs 0 0 (MQ below (va_Qv post (PoM D kA X0 sz) (va_A (hw kA X0) sz)) [Value.ref v0, Value.int v1].toArray s 0 0 (va_A (hw kA X0) sz)) (F0 m 38 ls []) := by
            intro n
            induction n with
            | zero =>
              intro X b38_2 b38_3 b38_4 H locs h S ls hl
              rw [bk_X10_lay_38] at h
              exact h.elim
            | succ n_38 ih_38 =>
              have J_48 : ∀ (n : Nat) (X : Hp) (b48_2 : Int32) (b48_3 : Int32) (b48_4 : Int32) (b48_5 : Int32), ∀ (H : Heap) (locs : List Loc) (_ : bk_X10_lay_48 post v0 v1 (bk_X10_lay_24 post v0 v1 n_24) (bk_X10_lay_30 post v0 v1 (bk_X10_lay_24 post v0 v1 n_24) n_30) (bk_X10_lay_38 post v0 v1 (bk_X10_lay_24 post v0 v1 n_24) (bk_X10_lay_30 post v0 v1 (bk_X10_lay_24 post v0 v1 n_24) n_30) n_38) n X b48_2 b48_3 b48_4 b48_5), Sx D kA (va_A (hw kA X0) sz) s.heap H locs X → ∀ ls, lv_has ls 10 [(0, .ref v0), (1, .int v1), (2, .int b48_2), (3, .int b48_3), (4, .int b48_4), (5, .int b48_5)] → W p l e (rmO 3 0 0 83) s m [Value.ref v0, Value.int v1].toArray below meth c H locs 0 0 (MQ below (va_Qv post (PoM D kA X0 sz) (va_A (hw kA X0) sz)) [Value.ref v0, Value.int v1].toArray s 0 0 (va_A (hw kA X0) sz)) (F0 m 48 ls []) := by
                intro n
                induction n with
                | zero =>
                  intro X b48_2 b48_3 b48_4 b48_5 H locs h S ls hl
                  rw [bk_X10_lay_48] at h
                  exact h.elim
                | succ n_48 ih_48 =>
                  have J_145 : ∀ (X : Hp) (b145_2 : Int32) (b145_3 : Int32) (b145_4 : Int32) (b145_5 : Int32) (b145_6 : Int32), ∀ (H : Heap) (locs : List Loc) (_ : bk_X10_lay_145 post v0 v1 (bk_X10_lay_24 post v0 v1 n_24) (bk_X10_lay_30 post v0 v1 (bk_X10_lay_24 post v0 v1 n_24) n_30) (bk_X10_lay_38 post v0 v1 (bk_X10_lay_24 post v0 v1 n_24) (bk_X10_lay_30 post v0 v1 (bk_X10_lay_24 post v0 v1 n_24) n_30) n_38) (bk_X10_lay_48 post v0 v1 (bk_X10_lay_24 post v0 v1 n_24) (bk_X10_lay_30 post v0 v1 (bk_X10_lay_24 post v0 v1 n_24) n_30) (bk_X10_lay_38 post v0 v1 (bk_X10_lay_24 post v0 v1 n_24) (bk_X10_lay_30 post v0 v1 (bk_X10_lay_24 post v0 v1 n_24) n_30) n_38) n_48) X b145_2 b145_3 b145_4 b145_5 b145_6), Sx D kA (va_A (hw kA X0) sz) s.heap H locs X → ∀ ls, lv_has ls 10 [(0, .ref v0), (1, .int v1), (2, .int b145_2), (3, .int b145_3), (4, .int b145_4), (5, .int b145_5), (6, .int b145_6)] → W p l e (rmO 3 0 0 83) s m [Value.ref v0, Value.int v1].toArray below meth c H locs 0 0 (MQ below (va_Qv post (PoM D kA X0 sz) (va_A (hw kA X0) sz)) [Value.ref v0, Value.int v1].toArray s 0 0 (va_A (hw kA X0) sz)) (F0 m 145 ls []) := by
                    intro X b145_2 b145_3 b145_4 b145_5 b145_6 H locs h S ls hl
                    unfold bk_X10_lay_145 at h
                    refine lv_aload_n hx hb dX10_lay_145 rfl (lv_at hl 0 rfl) ?_
                    obtain ⟨fs44, y45, hfs44, hvfs44, h⟩ := h
                    refine x_get G S.1 hfs44 hvfs44 fl_X10_50 dX10_lay_146 ?_
                    refine lv_iload_n hx hb dX10_lay_149 rfl (lv_at hl 1 rfl) ?_
                    refine lv_iload_n hx hb dX10_lay_150 rfl (lv_at hl 2 rfl) ?_
                    refine lv_iload hx hb dX10_lay_151 (lv_at hl 4 rfl) ?_
                    refine lv_iload hx hb dX10_lay_153 (lv_at hl 5 rfl) ?_
                    refine lv_iload_n hx hb dX10_lay_155 rfl (lv_at hl 3 rfl) ?_
                    refine x_cRSi (As := [.int v1, .int b145_2, .int b145_4, .int b145_5, .int b145_3]) (rest := [.ref y45]) G S.1 (c_X10_at l D kA _ _ v1 b145_2 b145_4 b145_5 b145_3 h) cd_X10_at ml_X10_179 ⟨(Nat.le_of_ble_eq_true rfl), (Nat.le_of_ble_eq_true rfl)⟩ rfl hl.1 rfl (Nat.le_of_ble_eq_true rfl) dX10_lay_156 ⟨Nat.zero_le _, Nat.zero_le _⟩ (fun r46 h => ?_)
                    refine lv_iload hx hb dX10_lay_159 (lv_at hl 6 rfl) ?_
                    obtain ⟨n47, f48, hf48, hif48, h⟩ := h
                    have h := h _ rfl
                    refine x_iast G S hf48 hif48 dX10_lay_161 (fun H locs S => ?_)
                    obtain ⟨x50, ex50⟩ : ∃ y : Int32, y = b145_5 + (1 : Int32) := ⟨_, rfl⟩
                    have h := h x50 ex50
                    refine lv_iinc (v := x50) (lv' := [(5, .int x50), (0, .ref v0), (1, .int v1), (2, .int b145_2), (3, .int b145_3), (4, .int b145_4), (6, .int b145_6)]) hx hb dX10_lay_162 hl (k := 5) rfl (by rw [ex50]; rfl) (by decide) rfl (fun ls hl => ?_)
                    refine lv_goto (tgt := 48) hx hb dX10_lay_165 (by decide) ?_
                    exact ih_48 _ _ _ _ _ _ _ h S ls (lv_sub hl [1, 2, 3, 4, 5, 0] rfl)
                  have J_76 : ∀ (n : Nat) (X : Hp) (b76_2 : Int32) (b76_3 : Int32) (b76_4 : Int32) (b76_5 : Int32) (b76_6 : Int32) (b76_7 : Int32), ∀ (H : Heap) (locs : List Loc) (_ : bk_X10_lay_76 post v0 v1 (bk_X10_lay_24 post v0 v1 n_24) (bk_X10_lay_30 post v0 v1 (bk_X10_lay_24 post v0 v1 n_24) n_30) (bk_X10_lay_38 post v0 v1 (bk_X10_lay_24 post v0 v1 n_24) (bk_X10_lay_30 post v0 v1 (bk_X10_lay_24 post v0 v1 n_24) n_30) n_38) (bk_X10_lay_48 post v0 v1 (bk_X10_lay_24 post v0 v1 n_24) (bk_X10_lay_30 post v0 v1 (bk_X10_lay_24 post v0 v1 n_24) n_30) (bk_X10_lay_38 post v0 v1 (bk_X10_lay_24 post v0 v1 n_24) (bk_X10_lay_30 post v0 v1 (bk_X10_lay_24 post v0 v1 n_24) n_30) n_38) n_48) n X b76_2 b76_3 b76_4 b76_5 b76_6 b76_7), Sx D kA (va_A (hw kA X0) sz) s.heap H locs X → ∀ ls, lv_has ls 10 [(0, .ref v0), (1, .int v1), (2, .int b76_2), (3, .int b76_3), (4, .int b76_4), (5, .int b76_5), (6, .int b76_6), (7, .int b76_7)] → W p l e (rmO 3 0 0 83) s m [Value.ref v0, Value.int v1].toArray below meth c H locs 0 0 (MQ below (va_Qv post (PoM D kA X0 sz) (va_A (hw kA X0) sz)) [Value.ref v0, Value.int v1].toArray s 0 0 (va_A (hw kA X0) sz)) (F0 m 76 ls []) := by
                    intro n
                    induction n with
                    | zero =>
                      intro X b76_2 b76_3 b76_4 b76_5 b76_6 b76_7 H locs h S ls hl
                      rw [bk_X10_lay_76] at h
                      exact h.elim
                    | succ n_76 ih_76 =>
                      have J_137 : ∀ (X : Hp) (b137_2 : Int32) (b137_3 : Int32) (b137_4 : Int32) (b137_5 : Int32) (b137_7 : Int32) (b137_s0 : Int32), ∀ (H : Heap) (locs : List Loc) (_ : bk_X10_lay_137 post v0 v1 (bk_X10_lay_24 post v0 v1 n_24) (bk_X10_lay_30 post v0 v1 (bk_X10_lay_24 post v0 v1 n_24) n_30) (bk_X10_lay_38 post v0 v1 (bk_X10_lay_24 post v0 v1 n_24) (bk_X10_lay_30 post v0 v1 (bk_X10_lay_24 post v0 v1 n_24) n_30) n_38) (bk_X10_lay_48 post v0 v1 (bk_X10_lay_24 post v0 v1 n_24) (bk_X10_lay_30 post v0 v1 (bk_X10_lay_24 post v0 v1 n_24) n_30) (bk_X10_lay_38 post v0 v1 (bk_X10_lay_24 post v0 v1 n_24) (bk_X10_lay_30 post v0 v1 (bk_X10_lay_24 post v0 v1 n_24) n_30) n_38) n_48) (bk_X10_lay_76 post v0 v1 (bk_X10_lay_24 post v0 v1 n_24) (bk_X10_lay_30 post v0 v1 (bk_X10_lay_24 post v0 v1 n_24) n_30) (bk_X10_lay_38 post v0 v1 (bk_X10_lay_24 post v0 v1 n_24) (bk_X10_lay_30 post v0 v1 (bk_X10_lay_24 post v0 v1 n_24) n_30) n_38) (bk_X10_lay_48 post v0 v1 (bk_X10_lay_24 post v0 v1 n_24) (bk_X10_lay_30 post v0 v1 (bk_X10_lay_24 post v0 v1 n_24) n_30) (bk_X10_lay_38 post v0 v1 (bk_X10_lay_24 post v0 v1 n_24) (bk_X10_lay_30 post v0 v1 (bk_X10_lay_24 post v0 v1 n_24) n_30) n_38) n_48) n_76) X b137_2 b137_3 b137_4 b137_5 b137_7 b137_s0), Sx D kA (va_A (hw kA X0) sz) s.heap H locs X → ∀ ls, lv_has ls 10 [(0, .ref v0), (1, .int v1), (2, .int b137_2), (3, .int b137_3), (4, .int b137_4), (5, .int b137_5), (7, .int b137_7)] → W p l e (rmO 3 0 0 83) s m [Value.ref v0, Value.int v1].toArray below meth c H locs 0 0 (MQ below (va_Qv post (PoM D kA X0 sz) (va_A (hw kA X0) sz)) [Value.ref v0, Value.int v1].toArray s 0 0 (va_A (hw kA X0) sz)) (F0 m 137 ls [.int b137_s0]) := by
                        intro X b137_2 b137_3 b137_4 b137_5 b137_7 b137_s0 H locs h S ls hl
                        unfold bk_X10_lay_137 at h
                        refine lv_istore (lv' := [(6, .int b137_s0), (0, .ref v0), (1, .int v1), (2, .int b137_2), (3, .int b137_3), (4, .int b137_4), (5, .int b137_5), (7, .int b137_7)]) hx hb dX10_lay_137 hl (by decide) rfl (fun ls hl => ?_)
                        obtain ⟨x43, ex43⟩ : ∃ y : Int32, y = b137_7 + (1 : Int32) := ⟨_, rfl⟩
                        have h := h x43 ex43
                        refine lv_iinc (v := x43) (lv' := [(7, .int x43), (6, .int b137_s0), (0, .ref v0), (1, .int v1), (2, .int b137_2), (3, .int b137_3), (4, .int b137_4), (5, .int b137_5)]) hx hb dX10_lay_139 hl (k := 7) rfl (by rw [ex43]; rfl) (by decide) rfl (fun ls hl => ?_)
                        refine lv_goto (tgt := 76) hx hb dX10_lay_142 (by decide) ?_
                        exact ih_76 _ _ _ _ _ _ _ _ _ h S ls (lv_sub hl [2, 3, 4, 5, 6, 7, 1, 0] rfl)
                      intro X b76_2 b76_3 b76_4 b76_5 b76_6 b76_7 H locs h S ls hl
                      rw [bk_X10_lay_76] at h
                      refine lv_iload hx hb dX10_lay_76 (lv_at hl 7 rfl) ?_
                      refine lv_bipush (v := (9 : Int32)) hx hb dX10_lay_78 (by decide) ?_
                      refine lv_icmp_ge (tgt := 145) hx hb dX10_lay_80 (by decide) (fun c33 => ?_) (fun c33 => ?_)
                      · have h := h.1 c33
                        exact J_145 _ _ _ _ _ _ _ _ h S ls (lv_sub hl [0, 1, 2, 3, 4, 5, 6] rfl)
                      · have h := h.2 c33
                        refine lv_iload_n hx hb dX10_lay_83 rfl (lv_at hl 2 rfl) ?_
                        refine lv_aload_n hx hb dX10_lay_84 rfl (lv_at hl 0 rfl) ?_
                        obtain ⟨fs34, y35, hfs34, hvfs34, h⟩ := h
                        refine x_get G S.1 hfs34 hvfs34 fl_X10_22 dX10_lay_85 ?_
                        refine lv_iload_n hx hb dX10_lay_88 rfl (lv_at hl 1 rfl) ?_
                        obtain ⟨n36, f37, hf37, hif37, h⟩ := h
                        refine x_iald G S.1 hf37 hif37 dX10_lay_89 ?_
                        refine lv_icmp_ge (tgt := 145) hx hb dX10_lay_90 (by decide) (fun c38 => ?_) (fun c38 => ?_)
                        · have h := h.1 c38
                          exact J_145 _ _ _ _ _ _ _ _ h S ls (lv_sub hl [0, 1, 2, 3, 4, 5, 6] rfl)
                        · have h := h.2 c38
                          refine lv_iload hx hb dX10_lay_93 (lv_at hl 7 rfl) ?_
                          refine x_cRSi (As := [.int b76_7]) (rest := []) G S.1 (c_X10_triedAt l D kA _ _ b76_7 h) cd_X10_triedAt ml_X10_182 ⟨(Nat.le_of_ble_eq_true rfl), (Nat.le_of_ble_eq_true rfl)⟩ rfl hl.1 rfl (Nat.le_of_ble_eq_true rfl) dX10_lay_95 ⟨Nat.zero_le _, Nat.zero_le _⟩ (fun r39 h => ?_)
                          refine lv_istore (lv' := [(8, .int r39), (0, .ref v0), (1, .int v1), (2, .int b76_2), (3, .int b76_3), (4, .int b76_4), (5, .int b76_5), (6, .int b76_6), (7, .int b76_7)]) hx hb dX10_lay_98 hl (by decide) rfl (fun ls hl => ?_)
                          refine lv_aload_n hx hb dX10_lay_100 rfl (lv_at hl 1 rfl) ?_
                          refine lv_iload_n hx hb dX10_lay_101 rfl (lv_at hl 2 rfl) ?_
                          refine lv_iload_n hx hb dX10_lay_102 rfl (lv_at hl 3 rfl) ?_
                          refine lv_iload hx hb dX10_lay_103 (lv_at hl 5 rfl) ?_
                          refine lv_iload hx hb dX10_lay_105 (lv_at hl 6 rfl) ?_
                          refine lv_iload_n hx hb dX10_lay_107 rfl (lv_at hl 4 rfl) ?_
                          refine lv_iload hx hb dX10_lay_108 (lv_at hl 0 rfl) ?_
                          refine lv_bipush (v := (10 : Int32)) hx hb dX10_lay_110 (by decide) ?_
                          refine lv_irem hx hb dX10_lay_112 (by decide) ?_
                          refine lv_iload hx hb dX10_lay_113 (lv_at hl 0 rfl) ?_
                          refine lv_bipush (v := (10 : Int32)) hx hb dX10_lay_115 (by decide) ?_
                          refine lv_idiv hx hb dX10_lay_117 (by decide) ?_
                          obtain ⟨fs42, hfs42, h⟩ := h
                          refine x_cRVi (As := [.int v1, .int b76_2, .int b76_4, .int b76_5, .int b76_3, .int (r39 - r39 / (10 : Int32) * (10 : Int32)), .int (r39 / (10 : Int32))]) (rest := []) G S.1 hfs42 rfl rfl (c_X10_valueOf l D kA _ _ v0 v1 b76_2 b76_4 b76_5 b76_3 (r39 - r39 / (10 : Int32) * (10 : Int32)) (r39 / (10 : Int32)) h) cd_X10_valueOf ml_X10_186 ⟨(Nat.le_of_ble_eq_true rfl), (Nat.le_of_ble_eq_true rfl)⟩ rfl hl.1 rfl (Nat.le_of_ble_eq_true rfl) dX10_lay_118 ⟨Nat.zero_le _, Nat.zero_le _⟩ (fun r40 h => ?_)
                          refine lv_istore (lv' := [(9, .int r40), (8, .int r39), (0, .ref v0), (1, .int v1), (2, .int b76_2), (3, .int b76_3), (4, .int b76_4), (5, .int b76_5), (6, .int b76_6), (7, .int b76_7)]) hx hb dX10_lay_121 hl (by decide) rfl (fun ls hl => ?_)
                          refine lv_iload hx hb dX10_lay_123 (lv_at hl 0 rfl) ?_
                          refine lv_iload hx hb dX10_lay_125 (lv_at hl 8 rfl) ?_
                          refine lv_icmp_le (tgt := 135) hx hb dX10_lay_127 (by decide) (fun c41 => ?_) (fun c41 => ?_)
                          · have h := h.1 c41
                            refine lv_iload hx hb dX10_lay_135 (lv_at hl 8 rfl) ?_
                            exact J_137 _ _ _ _ _ _ _ _ _ h S ls (lv_sub hl [2, 3, 4, 5, 6, 7, 9] rfl)
                          · have h := h.2 c41
                            refine lv_iload hx hb dX10_lay_130 (lv_at hl 0 rfl) ?_
                            refine lv_goto (tgt := 137) hx hb dX10_lay_132 (by decide) ?_
                            exact J_137 _ _ _ _ _ _ _ _ _ h S ls (lv_sub hl [2, 3, 4, 5, 6, 7, 9] rfl)
                  have J_71 : ∀ (X : Hp) (b71_2 : Int32) (b71_3 : Int32) (b71_4 : Int32) (b71_5 : Int32) (b71_s0 : Int32), ∀ (H : Heap) (locs : List Loc) (_ : bk_X10_lay_71 post v0 v1 (bk_X10_lay_24 post v0 v1 n_24) (bk_X10_lay_30 post v0 v1 (bk_X10_lay_24 post v0 v1 n_24) n_30) (bk_X10_lay_38 post v0 v1 (bk_X10_lay_24 post v0 v1 n_24) (bk_X10_lay_30 post v0 v1 (bk_X10_lay_24 post v0 v1 n_24) n_30) n_38) (bk_X10_lay_48 post v0 v1 (bk_X10_lay_24 post v0 v1 n_24) (bk_X10_lay_30 post v0 v1 (bk_X10_lay_24 post v0 v1 n_24) n_30) (bk_X10_lay_38 post v0 v1 (bk_X10_lay_24 post v0 v1 n_24) (bk_X10_lay_30 post v0 v1 (bk_X10_lay_24 post v0 v1 n_24) n_30) n_38) n_48) X b71_2 b71_3 b71_4 b71_5 b71_s0), Sx D kA (va_A (hw kA X0) sz) s.heap H locs X → ∀ ls, lv_has ls 10 [(0, .ref v0), (1, .int v1), (2, .int b71_2), (3, .int b71_3), (4, .int b71_4), (5, .int b71_5)] → W p l e (rmO 3 0 0 83) s m [Value.ref v0, Value.int v1].toArray below meth c H locs 0 0 (MQ below (va_Qv post (PoM D kA X0 sz) (va_A (hw kA X0) sz)) [Value.ref v0, Value.int v1].toArray s 0 0 (va_A (hw kA X0) sz)) (F0 m 71 ls [.int b71_s0]) := by
                    intro X b71_2 b71_3 b71_4 b71_5 b71_s0 H locs h S ls hl
                    unfold bk_X10_lay_71 at h
                    refine lv_istore (lv' := [(6, .int b71_s0), (0, .ref v0), (1, .int v1), (2, .int b71_2), (3, .int b71_3), (4, .int b71_4), (5, .int b71_5)]) hx hb dX10_lay_71 hl (by decide) rfl (fun ls hl => ?_)
                    refine lv_iconst (v := (0 : Int32)) hx hb dX10_lay_73 (by decide) ?_
                    refine lv_istore (lv' := [(7, .int (0 : Int32)), (6, .int b71_s0), (0, .ref v0), (1, .int v1), (2, .int b71_2), (3, .int b71_3), (4, .int b71_4), (5, .int b71_5)]) hx hb dX10_lay_74 hl (by decide) rfl (fun ls hl => ?_)
                    obtain ⟨n32, h⟩ := h
                    exact J_76 n32 _ _ _ _ _ _ _ _ _ h S ls (lv_sub hl [2, 3, 4, 5, 6, 7, 1, 0] rfl)
                  intro X b48_2 b48_3 b48_4 b48_5 H locs h S ls hl
                  rw [bk_X10_lay_48] at h
                  refine lv_iload hx hb dX10_lay_48 (lv_at hl 5 rfl) ?_
                  refine lv_bipush (v := (24 : Int32)) hx hb dX10_lay_50 (by decide) ?_
                  refine lv_icmp_gt (tgt := 168) hx hb dX10_lay_52 (by decide) (fun c25 => ?_) (fun c25 => ?_)
                  · have h := h.1 c25
                    obtain ⟨x26, ex26⟩ : ∃ y : Int32, y = b48_4 + (1 : Int32) := ⟨_, rfl⟩
                    have h := h x26 ex26
                    refine lv_iinc (v := x26) (lv' := [(4, .int x26), (0, .ref v0), (1, .int v1), (2, .int b48_2), (3, .int b48_3), (5, .int b48_5)]) hx hb dX10_lay_168 hl (k := 4) rfl (by rw [ex26]; rfl) (by decide) rfl (fun ls hl => ?_)
                    refine lv_goto (tgt := 38) hx hb dX10_lay_171 (by decide) ?_
                    exact ih_38 _ _ _ _ _ _ h S ls (lv_sub hl [1, 2, 3, 4, 0] rfl)
                  · have h := h.2 c25
                    refine lv_iload_n hx hb dX10_lay_55 rfl (lv_at hl 2 rfl) ?_
                    refine lv_aload_n hx hb dX10_lay_56 rfl (lv_at hl 0 rfl) ?_
                    obtain ⟨fs27, y28, hfs27, hvfs27, h⟩ := h
                    refine x_get G S.1 hfs27 hvfs27 fl_X10_22 dX10_lay_57 ?_
                    refine lv_iload_n hx hb dX10_lay_60 rfl (lv_at hl 1 rfl) ?_
                    obtain ⟨n29, f30, hf30, hif30, h⟩ := h
                    refine x_iald G S.1 hf30 hif30 dX10_lay_61 ?_
                    refine lv_icmp_ne (tgt := 70) hx hb dX10_lay_62 (by decide) (fun c31 => ?_) (fun c31 => ?_)
                    · have h := h.1 c31
                      refine lv_iconst (v := (0 : Int32)) hx hb dX10_lay_70 (by decide) ?_
                      exact J_71 _ _ _ _ _ _ _ _ h S ls (lv_sub hl [0, 1, 2, 3, 4, 5] rfl)
                    · have h := h.2 c31
                      refine lv_ldc hx hb hown (hts _ kc_X10_104) dX10_lay_65 ?_
                      refine lv_goto (tgt := 71) hx hb dX10_lay_67 (by decide) ?_
                      exact J_71 _ _ _ _ _ _ _ _ h S ls (lv_sub hl [0, 1, 2, 3, 4, 5] rfl)
              intro X b38_2 b38_3 b38_4 H locs h S ls hl
              rw [bk_X10_lay_38] at h
              refine lv_iload hx hb dX10_lay_38 (lv_at hl 4 rfl) ?_
              refine lv_bipush (v := (20 : Int32)) hx hb dX10_lay_40 (by decide) ?_
              refine lv_icmp_gt (tgt := 174) hx hb dX10_lay_42 (by decide) (fun c22 => ?_) (fun c22 => ?_)
              · have h := h.1 c22
                obtain ⟨x23, ex23⟩ : ∃ y : Int32, y = b38_3 + (1 : Int32) := ⟨_, rfl⟩
                have h := h x23 ex23
                refine lv_iinc (v := x23) (lv' := [(3, .int x23), (0, .ref v0), (1, .int v1), (2, .int b38_2), (4, .int b38_4)]) hx hb dX10_lay_174 hl (k := 3) rfl (by rw [ex23]; rfl) (by decide) rfl (fun ls hl => ?_)
                refine lv_goto (tgt := 30) hx hb dX10_lay_177 (by decide) ?_
                exact ih_30 _ _ _ _ _ h S ls (lv_sub hl [1, 2, 3, 0] rfl)
              · have h := h.2 c22
                refine lv_iconst (v := (0 : Int32)) hx hb dX10_lay_45 (by decide) ?_
                refine lv_istore (lv' := [(5, .int (0 : Int32)), (0, .ref v0), (1, .int v1), (2, .int b38_2), (3, .int b38_3), (4, .int b38_4)]) hx hb dX10_lay_46 hl (by decide) rfl (fun ls hl => ?_)
                obtain ⟨n24, h⟩ := h
                exact J_48 n24 _ _ _ _ _ _ _ h S ls (lv_sub hl [1, 2, 3, 4, 5, 0] rfl)
          intro X b30_2 b30_3 H locs h S ls hl
          rw [bk_X10_lay_30] at h
          refine lv_iload_n hx hb dX10_lay_30 rfl (lv_at hl 3 rfl) ?_
          refine lv_iconst (v := (4 : Int32)) hx hb dX10_lay_31 (by decide) ?_
          refine lv_icmp_gt (tgt := 180) hx hb dX10_lay_32 (by decide) (fun c19 => ?_) (fun c19 => ?_)
          · have h := h.1 c19
            obtain ⟨x20, ex20⟩ : ∃ y : Int32, y = b30_2 + (-1 : Int32) := ⟨_, rfl⟩
            have h := h x20 ex20
            refine lv_iinc (v := x20) (lv' := [(2, .int x20), (0, .ref v0), (1, .int v1), (3, .int b30_3)]) hx hb dX10_lay_180 hl (k := 2) rfl (by rw [ex20]; rfl) (by decide) rfl (fun ls hl => ?_)
            refine lv_goto (tgt := 24) hx hb dX10_lay_183 (by decide) ?_
            exact ih_24 _ _ _ _ h S ls (lv_sub hl [1, 2, 0] rfl)
          · have h := h.2 c19
            refine lv_iconst (v := (0 : Int32)) hx hb dX10_lay_35 (by decide) ?_
            refine lv_istore (lv' := [(4, .int (0 : Int32)), (0, .ref v0), (1, .int v1), (2, .int b30_2), (3, .int b30_3)]) hx hb dX10_lay_36 hl (by decide) rfl (fun ls hl => ?_)
            obtain ⟨n21, h⟩ := h
            exact J_38 n21 _ _ _ _ _ _ h S ls (lv_sub hl [1, 2, 3, 4, 0] rfl)
      intro X b24_2 H locs h S ls hl
      rw [bk_X10_lay_24] at h
      refine lv_iload_n hx hb dX10_lay_24 rfl (lv_at hl 2 rfl) ?_
      refine lv_if_lt (tgt := 186) hx hb dX10_lay_25 (by decide) (fun c17 => ?_) (fun c17 => ?_)
      · have h := h.1 c17
        exact x_vretM G hr hlk S (Nat.le_refl _) (Nat.le_refl _) h dX10_lay_186
      · have h := h.2 c17
        refine lv_iconst (v := (0 : Int32)) hx hb dX10_lay_28 (by decide) ?_
        refine lv_istore_n (lv' := [(3, .int (0 : Int32)), (0, .ref v0), (1, .int v1), (2, .int b24_2)]) hx hb dX10_lay_29 rfl hl (by decide) rfl (fun ls hl => ?_)
        obtain ⟨n18, h⟩ := h
        exact J_30 n18 _ _ _ _ _ h S ls (lv_sub hl [1, 2, 3, 0] rfl)
  refine lv_aload_n hx hb dX10_lay_0 rfl (lv_at hl 0 rfl) ?_
  obtain ⟨fs1, y2, hfs1, hvfs1, h⟩ := h
  refine x_get G S.1 hfs1 hvfs1 fl_X10_53 dX10_lay_1 ?_
  refine lv_iload_n hx hb dX10_lay_4 rfl (lv_at hl 1 rfl) ?_
  obtain ⟨n3, f4, hf4, hif4, h⟩ := h
  refine x_zald G S.1 hf4 hif4 dX10_lay_5 ?_
  refine lv_if_eq (tgt := 10) hx hb dX10_lay_6 (by decide) (fun c5 => ?_) (fun c5 => ?_)
  · have h := h.1 c5
    refine lv_aload_n hx hb dX10_lay_10 rfl (lv_at hl 0 rfl) ?_
    obtain ⟨fs6, y7, hfs6, hvfs6, h⟩ := h
    refine x_get G S.1 hfs6 hvfs6 fl_X10_53 dX10_lay_11 ?_
    refine lv_iload_n hx hb dX10_lay_14 rfl (lv_at hl 1 rfl) ?_
    refine lv_iconst (v := (1 : Int32)) hx hb dX10_lay_15 (by decide) ?_
    obtain ⟨n8, f9, hf9, hif9, h⟩ := h
    have h := h _ rfl
    refine x_zast G S hf9 hif9 dX10_lay_16 (fun H locs S => ?_)
    refine lv_aload_n hx hb dX10_lay_17 rfl (lv_at hl 0 rfl) ?_
    obtain ⟨fs11, y12, hfs11, hvfs11, h⟩ := h
    refine x_get G S.1 hfs11 hvfs11 fl_X10_22 dX10_lay_18 ?_
    refine lv_iload_n hx hb dX10_lay_21 rfl (lv_at hl 1 rfl) ?_
    obtain ⟨n13, f14, hf14, hif14, h⟩ := h
    refine x_iald G S.1 hf14 hif14 dX10_lay_22 ?_
    refine lv_topi (fun x15 ex15 => ?_)
    have h := h x15 ex15
    refine lv_istore_n (lv' := [(2, .int x15), (0, .ref v0), (1, .int v1)]) hx hb dX10_lay_23 rfl hl (by decide) rfl (fun ls hl => ?_)
    obtain ⟨n16, h⟩ := h
    exact J_24 n16 _ _ _ _ h S ls (lv_sub hl [1, 2, 0] rfl)
  · have h := h.2 c5
    exact x_vretM G hr hlk S (Nat.le_refl _) (Nat.le_refl _) h dX10_lay_9
def wp_X10_bestOf (post : Int32 → Hp → Prop) (X : Hp) (v0 : Nat) (v1 : Int32) (v2 : Int32) (v3 : Int32) (v4 : Int32) (v5 : Int32) : Prop := ∃ fs7 : List Value, Hs X v0 (.inr (10, fs7)) ∧ wp_X10_lay (fun X1 => ∃ (fs2 : List Value) (y3 : Nat), Hs X1 v0 (.inr (10, fs2)) ∧ fs2[19]? = some (.ref y3) ∧ wp_X10_at (fun r4 => ∃ (n5 : Nat) (f6 : Nat → Int32), Hs X1 y3 (.inl (0, n5, .inl f6)) ∧ vp_in r4 n5 ∧ post (f6 r4.toNatClampNeg) X1)  X1 v1 v2 v3 v4 v5)  X v0 v1
set_option maxHeartbeats 4000000 in
set_option maxRecDepth 100000 in
theorem c_X10_bestOf (l : Launch) (D : va_G) (kA : Nat → ClassId) (post : Int32 → Hp → Prop) (X : Hp) (sz : Nat) (v0 : Nat) (v1 : Int32) (v2 : Int32) (v3 : Int32) (v4 : Int32) (v5 : Int32) (h : wp_X10_bestOf post X v0 v1 v2 v3 v4 v5) : Met l yX10_bestOf (.code yX10_bestOf cX10_bestOf 6 (some .int) :: gd) (rmO 4 0 0 112) (va_Pc [Value.ref v0, Value.int v1, Value.int v2, Value.int v3, Value.int v4, Value.int v5] (PreM D kA X sz)) (va_Qi post (PoM D kA X sz) (va_A (hw kA X) sz)) 0 0 (va_A (hw kA X) sz) := by
  unfold wp_X10_bestOf at h
  refine x_enM (by decide) (Nat.le_of_ble_eq_true rfl) ?_
  intro p e s m below meth c G hr hlk hin hsz hA S ls hl
  obtain ⟨hx, hb, hml, hown, hts, hE, hK⟩ := id G
  have hl : lv_has ls 6 [(0, .ref v0), (1, .int v1), (2, .int v2), (3, .int v3), (4, .int v4), (5, .int v5)] := hl
  refine lv_aload_n hx hb dX10_bestOf_0 rfl (lv_at hl 0 rfl) ?_
  refine lv_iload_n hx hb dX10_bestOf_1 rfl (lv_at hl 1 rfl) ?_
  obtain ⟨fs7, hfs7, h⟩ := h
  refine x_cMVv (As := [.int v1]) (rest := []) G S hA hfs7 rfl rfl (c_X10_lay l D kA _ _ _ v0 v1 h) cd_X10_lay ml_X10_190 ⟨(Nat.le_of_ble_eq_true rfl), (Nat.le_of_ble_eq_true rfl)⟩ rfl hl.1 rfl (Nat.le_of_ble_eq_true rfl) dX10_bestOf_2 ⟨Nat.zero_le _, Nat.zero_le _⟩ (fun X H locs h S => ?_)
  refine lv_aload_n hx hb dX10_bestOf_5 rfl (lv_at hl 0 rfl) ?_
  obtain ⟨fs2, y3, hfs2, hvfs2, h⟩ := h
  refine x_get G S.1 hfs2 hvfs2 fl_X10_50 dX10_bestOf_6 ?_
  refine lv_iload_n hx hb dX10_bestOf_9 rfl (lv_at hl 1 rfl) ?_
  refine lv_iload_n hx hb dX10_bestOf_10 rfl (lv_at hl 2 rfl) ?_
  refine lv_iload_n hx hb dX10_bestOf_11 rfl (lv_at hl 3 rfl) ?_
  refine lv_iload hx hb dX10_bestOf_12 (lv_at hl 4 rfl) ?_
  refine lv_iload hx hb dX10_bestOf_14 (lv_at hl 5 rfl) ?_
  refine x_cRSi (As := [.int v1, .int v2, .int v3, .int v4, .int v5]) (rest := [.ref y3]) G S.1 (c_X10_at l D kA _ _ v1 v2 v3 v4 v5 h) cd_X10_at ml_X10_179 ⟨(Nat.le_of_ble_eq_true rfl), (Nat.le_of_ble_eq_true rfl)⟩ rfl hl.1 rfl (Nat.le_of_ble_eq_true rfl) dX10_bestOf_16 ⟨Nat.zero_le _, Nat.zero_le _⟩ (fun r4 h => ?_)
  obtain ⟨n5, f6, hf6, hif6, h⟩ := h
  refine x_iald G S.1 hf6 hif6 dX10_bestOf_19 ?_
  exact x_iretM G hr hlk S (Nat.le_refl _) (Nat.le_refl _) h dX10_bestOf_20
def bk_X10_doesOf_16 (post : Int32 → Hp → Prop) (v0 : Nat) (v1 : Int32) (v2 : Int32) (v3 : Int32) (v4 : Int32) (v5 : Int32)  : Nat → Hp → Int32 → Int32 → Prop
  | 0, _, _, _ => False
  | k + 1, X, b16_6, b16_7 => ((9 : Int32) ≤ b16_7 → post (-6 : Int32) X) ∧ (¬ (9 : Int32) ≤ b16_7 → wp_X10_triedAt (fun r6 => ∃ fs10 : List Value, Hs X v0 (.inr (10, fs10)) ∧ wp_X10_valueOf (fun r7 => (¬ r7 = b16_6 → ∀ x9 : Int32, x9 = b16_7 + (1 : Int32) → (bk_X10_doesOf_16 post v0 v1 v2 v3 v4 v5 k) X b16_6 x9) ∧ (r7 = b16_6 → post r6 X)) X v0 v1 v2 v3 v4 v5 (r6 - r6 / (10 : Int32) * (10 : Int32)) (r6 / (10 : Int32))) X b16_7)
def wp_X10_doesOf (post : Int32 → Hp → Prop) (X : Hp) (v0 : Nat) (v1 : Int32) (v2 : Int32) (v3 : Int32) (v4 : Int32) (v5 : Int32) : Prop := ∃ fs4 : List Value, Hs X v0 (.inr (10, fs4)) ∧ wp_X10_bestOf (fun r2 X1 => ∃ n3 : Nat, bk_X10_doesOf_16 post v0 v1 v2 v3 v4 v5 n3 X1 r2 (0 : Int32))  X v0 v1 v2 v3 v4 v5
set_option maxHeartbeats 4000000 in
set_option maxRecDepth 100000 in
theorem c_X10_doesOf (l : Launch) (D : va_G) (kA : Nat → ClassId) (post : Int32 → Hp → Prop) (X : Hp) (sz : Nat) (v0 : Nat) (v1 : Int32) (v2 : Int32) (v3 : Int32) (v4 : Int32) (v5 : Int32) (h : wp_X10_doesOf post X v0 v1 v2 v3 v4 v5) : Met l yX10_doesOf (.code yX10_doesOf cX10_doesOf 9 (some .int) :: gd) (rmO 5 0 0 137) (va_Pc [Value.ref v0, Value.int v1, Value.int v2, Value.int v3, Value.int v4, Value.int v5] (PreM D kA X sz)) (va_Qi post (PoM D kA X sz) (va_A (hw kA X) sz)) 0 0 (va_A (hw kA X) sz) := by
  unfold wp_X10_doesOf at h
  refine x_enM (by decide) (Nat.le_of_ble_eq_true rfl) ?_
  intro p e s m below meth c G hr hlk hin hsz hA S ls hl
  obtain ⟨hx, hb, hml, hown, hts, hE, hK⟩ := id G
  have hl : lv_has ls 9 [(0, .ref v0), (1, .int v1), (2, .int v2), (3, .int v3), (4, .int v4), (5, .int v5)] := hl
  obtain ⟨X0, hX0⟩ : ∃ Y : Hp, Y = X := ⟨_, rfl⟩
  subst hX0
  have J_16 : ∀ (n : Nat) (X : Hp) (b16_6 : Int32) (b16_7 : Int32), ∀ (H : Heap) (locs : List Loc) (_ : bk_X10_doesOf_16 post v0 v1 v2 v3 v4 v5  n X b16_6 b16_7), Sx D kA (va_A (hw kA X0) sz) s.heap H locs X → ∀ ls, lv_has ls 9 [(0, .ref v0), (1, .int v1), (2, .int v2), (3, .int v3), (4, .int v4), (5, .int v5), (6, .int b16_6), (7, .int b16_7)] → W p l e (rmO 5 0 0 137) s m [Value.ref v0, Value.int v1, Value.int v2, Value.int v3, Value.int v4, Value.int v5].toArray below meth c H locs 0 0 (MQ below (va_Qi post (PoM D kA X0 sz) (va_A (hw kA X0) sz)) [Value.ref v0, Value.int v1, Value.int v2, Value.int v3, Value.int v4, Value.int v5].toArray s 0 0 (va_A (hw kA X0) sz)) (F0 m 16 ls []) := by
    intro n
    induction n with
    | zero =>
      intro X b16_6 b16_7 H locs h S ls hl
      rw [bk_X10_doesOf_16] at h
      exact h.elim
    | succ n_16 ih_16 =>
      intro X b16_6 b16_7 H locs h S ls hl
      rw [bk_X10_doesOf_16] at h
      refine lv_iload hx hb dX10_doesOf_16 (lv_at hl 7 rfl) ?_
      refine lv_bipush (v := (9 : Int32)) hx hb dX10_doesOf_18 (by decide) ?_
      refine lv_icmp_ge (tgt := 65) hx hb dX10_doesOf_20 (by decide) (fun c5 => ?_) (fun c5 => ?_)
      · have h := h.1 c5
        refine lv_bipush (v := (-6 : Int32)) hx hb dX10_doesOf_65 (by decide) ?_
        exact x_iretM G hr hlk S (Nat.le_refl _) (Nat.le_refl _) h dX10_doesOf_67
      · have h := h.2 c5
        refine lv_iload hx hb dX10_doesOf_23 (lv_at hl 7 rfl) ?_
        refine x_cRSi (As := [.int b16_7]) (rest := []) G S.1 (c_X10_triedAt l D kA _ _ b16_7 h) cd_X10_triedAt ml_X10_182 ⟨(Nat.le_of_ble_eq_true rfl), (Nat.le_of_ble_eq_true rfl)⟩ rfl hl.1 rfl (Nat.le_of_ble_eq_true rfl) dX10_doesOf_25 ⟨Nat.zero_le _, Nat.zero_le _⟩ (fun r6 h => ?_)
        refine lv_istore (lv' := [(8, .int r6), (0, .ref v0), (1, .int v1), (2, .int v2), (3, .int v3), (4, .int v4), (5, .int v5), (6, .int b16_6), (7, .int b16_7)]) hx hb dX10_doesOf_28 hl (by decide) rfl (fun ls hl => ?_)
        refine lv_aload_n hx hb dX10_doesOf_30 rfl (lv_at hl 1 rfl) ?_
        refine lv_iload_n hx hb dX10_doesOf_31 rfl (lv_at hl 2 rfl) ?_
        refine lv_iload_n hx hb dX10_doesOf_32 rfl (lv_at hl 3 rfl) ?_
        refine lv_iload_n hx hb dX10_doesOf_33 rfl (lv_at hl 4 rfl) ?_
        refine lv_iload hx hb dX10_doesOf_34 (lv_at hl 5 rfl) ?_
        refine lv_iload hx hb dX10_doesOf_36 (lv_at hl 6 rfl) ?_
        refine lv_iload hx hb dX10_doesOf_38 (lv_at hl 0 rfl) ?_
        refine lv_bipush (v := (10 : Int32)) hx hb dX10_doesOf_40 (by decide) ?_
        refine lv_irem hx hb dX10_doesOf_42 (by decide) ?_
        refine lv_iload hx hb dX10_doesOf_43 (lv_at hl 0 rfl) ?_
        refine lv_bipush (v := (10 : Int32)) hx hb dX10_doesOf_45 (by decide) ?_
        refine lv_idiv hx hb dX10_doesOf_47 (by decide) ?_
        obtain ⟨fs10, hfs10, h⟩ := h
        refine x_cRVi (As := [.int v1, .int v2, .int v3, .int v4, .int v5, .int (r6 - r6 / (10 : Int32) * (10 : Int32)), .int (r6 / (10 : Int32))]) (rest := []) G S.1 hfs10 rfl rfl (c_X10_valueOf l D kA _ _ v0 v1 v2 v3 v4 v5 (r6 - r6 / (10 : Int32) * (10 : Int32)) (r6 / (10 : Int32)) h) cd_X10_valueOf ml_X10_186 ⟨(Nat.le_of_ble_eq_true rfl), (Nat.le_of_ble_eq_true rfl)⟩ rfl hl.1 rfl (Nat.le_of_ble_eq_true rfl) dX10_doesOf_48 ⟨Nat.zero_le _, Nat.zero_le _⟩ (fun r7 h => ?_)
        refine lv_iload hx hb dX10_doesOf_51 (lv_at hl 7 rfl) ?_
        refine lv_icmp_ne (tgt := 59) hx hb dX10_doesOf_53 (by decide) (fun c8 => ?_) (fun c8 => ?_)
        · have h := h.1 c8
          obtain ⟨x9, ex9⟩ : ∃ y : Int32, y = b16_7 + (1 : Int32) := ⟨_, rfl⟩
          have h := h x9 ex9
          refine lv_iinc (v := x9) (lv' := [(7, .int x9), (8, .int r6), (0, .ref v0), (1, .int v1), (2, .int v2), (3, .int v3), (4, .int v4), (5, .int v5), (6, .int b16_6)]) hx hb dX10_doesOf_59 hl (k := 8) rfl (by rw [ex9]; rfl) (by decide) rfl (fun ls hl => ?_)
          refine lv_goto (tgt := 16) hx hb dX10_doesOf_62 (by decide) ?_
          exact ih_16 _ _ _ _ _ h S ls (lv_sub hl [2, 3, 4, 5, 6, 7, 8, 0] rfl)
        · have h := h.2 c8
          refine lv_iload hx hb dX10_doesOf_56 (lv_at hl 0 rfl) ?_
          exact x_iretM G hr hlk S (Nat.le_refl _) (Nat.le_refl _) h dX10_doesOf_58
  refine lv_aload_n hx hb dX10_doesOf_0 rfl (lv_at hl 0 rfl) ?_
  refine lv_iload_n hx hb dX10_doesOf_1 rfl (lv_at hl 1 rfl) ?_
  refine lv_iload_n hx hb dX10_doesOf_2 rfl (lv_at hl 2 rfl) ?_
  refine lv_iload_n hx hb dX10_doesOf_3 rfl (lv_at hl 3 rfl) ?_
  refine lv_iload hx hb dX10_doesOf_4 (lv_at hl 4 rfl) ?_
  refine lv_iload hx hb dX10_doesOf_6 (lv_at hl 5 rfl) ?_
  obtain ⟨fs4, hfs4, h⟩ := h
  refine x_cMVi (As := [.int v1, .int v2, .int v3, .int v4, .int v5]) (rest := []) G S hA hfs4 rfl rfl (c_X10_bestOf l D kA _ _ _ v0 v1 v2 v3 v4 v5 h) cd_X10_bestOf ml_X10_193 ⟨(Nat.le_of_ble_eq_true rfl), (Nat.le_of_ble_eq_true rfl)⟩ rfl hl.1 rfl (Nat.le_of_ble_eq_true rfl) dX10_doesOf_8 ⟨Nat.zero_le _, Nat.zero_le _⟩ (fun r2 X H locs h S => ?_)
  refine lv_istore (lv' := [(6, .int r2), (0, .ref v0), (1, .int v1), (2, .int v2), (3, .int v3), (4, .int v4), (5, .int v5)]) hx hb dX10_doesOf_11 hl (by decide) rfl (fun ls hl => ?_)
  refine lv_iconst (v := (0 : Int32)) hx hb dX10_doesOf_13 (by decide) ?_
  refine lv_istore (lv' := [(7, .int (0 : Int32)), (6, .int r2), (0, .ref v0), (1, .int v1), (2, .int v2), (3, .int v3), (4, .int v4), (5, .int v5)]) hx hb dX10_doesOf_14 hl (by decide) rfl (fun ls hl => ?_)
  obtain ⟨n3, h⟩ := h
  exact J_16 n3 _ _ _ _ _ h S ls (lv_sub hl [2, 3, 4, 5, 6, 7, 1, 0] rfl)
def wp_X10_isPlace (post : Int32 → Prop) (X : Hp) (v0 : Nat) (v1 : Int32) (v2 : Int32) (v3 : Int32) (v4 : Int32) (v5 : Int32) : Prop := ∃ (fs1 : List Value) (y2 : Nat), Hs X v0 (.inr (10, fs1)) ∧ fs1[4]? = some (.ref y2) ∧ ∃ (n3 : Nat) (f4 : Nat → Int32), Hs X y2 (.inl (0, n3, .inl f4)) ∧ vp_in v1 n3 ∧ wp_X10_in (fun r5 => (r5 = 0 → post (0 : Int32)) ∧ (¬ r5 = 0 → wp_X10_isOwed (fun r7 => (r7 = 0 → post (0 : Int32)) ∧ (¬ r7 = 0 → wp_X10_isBattery (fun r9 => (r9 = 0 → post (0 : Int32)) ∧ (¬ r9 = 0 → wp_X10_in (fun r11 => (r11 = 0 → post (0 : Int32)) ∧ (¬ r11 = 0 → post (1 : Int32)))  X (v5.toInt64) (0 : Int64) (4 : Int64)))  X v4))  X v3))  X (v2.toInt64) (0 : Int64) ((f4 v1.toNatClampNeg).toInt64)
set_option maxHeartbeats 4000000 in
set_option maxRecDepth 100000 in
theorem c_X10_isPlace (l : Launch) (D : va_G) (kA : Nat → ClassId) (post : Int32 → Prop) (X : Hp) (v0 : Nat) (v1 : Int32) (v2 : Int32) (v3 : Int32) (v4 : Int32) (v5 : Int32) (h : wp_X10_isPlace post X v0 v1 v2 v3 v4 v5) : Met l yX10_isPlace (.code yX10_isPlace cX10_isPlace 6 (some .boolean) :: gd) (rmO 2 0 0 45) (va_Pc [Value.ref v0, Value.int v1, Value.int v2, Value.int v3, Value.int v4, Value.int v5] (Pre D kA X)) (vp_Si post) 0 0 (fun _ => False) := by
  unfold wp_X10_isPlace at h
  refine x_enR (by decide) (Nat.le_of_ble_eq_true rfl) ?_
  intro p e s m below meth c G hr hlk hP ls hl
  obtain ⟨hx, hb, hml, hown, hts, hE, hK⟩ := id G
  have hl : lv_has ls 6 [(0, .ref v0), (1, .int v1), (2, .int v2), (3, .int v3), (4, .int v4), (5, .int v5)] := hl
  refine lv_iload_n hx hb dX10_isPlace_0 rfl (lv_at hl 2 rfl) ?_
  refine lv_i2l (v := v2.toInt64) hx hb dX10_isPlace_1 rfl ?_
  refine lv_lconst (v := (0 : Int64)) hx hb dX10_isPlace_2 (by decide) ?_
  refine lv_aload_n hx hb dX10_isPlace_3 rfl (lv_at hl 0 rfl) ?_
  obtain ⟨fs1, y2, hfs1, hvfs1, h⟩ := h
  refine x_get G hP hfs1 hvfs1 fl_X10_22 dX10_isPlace_4 ?_
  refine lv_iload_n hx hb dX10_isPlace_7 rfl (lv_at hl 1 rfl) ?_
  obtain ⟨n3, f4, hf4, hif4, h⟩ := h
  refine x_iald G hP hf4 hif4 dX10_isPlace_8 ?_
  refine lv_i2l (v := (f4 v1.toNatClampNeg).toInt64) hx hb dX10_isPlace_9 rfl ?_
  refine x_cRSi (As := [.long (v2.toInt64), .long (0 : Int64), .long ((f4 v1.toNatClampNeg).toInt64)]) (rest := []) G hP (c_X10_in l D kA _ _ (v2.toInt64) (0 : Int64) ((f4 v1.toNatClampNeg).toInt64) h) cd_X10_in ml_X10_66 ⟨(Nat.le_of_ble_eq_true rfl), (Nat.le_of_ble_eq_true rfl)⟩ rfl hl.1 rfl (Nat.le_of_ble_eq_true rfl) dX10_isPlace_10 ⟨Nat.zero_le _, Nat.zero_le _⟩ (fun r5 h => ?_)
  refine lv_if_eq (tgt := 48) hx hb dX10_isPlace_13 (by decide) (fun c6 => ?_) (fun c6 => ?_)
  · have h := h.1 c6
    refine lv_iconst (v := (0 : Int32)) hx hb dX10_isPlace_48 (by decide) ?_
    exact x_zretR G hr hlk (Or.inl rfl) h dX10_isPlace_49
  · have h := h.2 c6
    refine lv_iload_n hx hb dX10_isPlace_16 rfl (lv_at hl 3 rfl) ?_
    refine x_cRSi (As := [.int v3]) (rest := []) G hP (c_X10_isOwed l D kA _ _ v3 h) cd_X10_isOwed ml_X10_110 ⟨(Nat.le_of_ble_eq_true rfl), (Nat.le_of_ble_eq_true rfl)⟩ rfl hl.1 rfl (Nat.le_of_ble_eq_true rfl) dX10_isPlace_17 ⟨Nat.zero_le _, Nat.zero_le _⟩ (fun r7 h => ?_)
    refine lv_if_eq (tgt := 48) hx hb dX10_isPlace_20 (by decide) (fun c8 => ?_) (fun c8 => ?_)
    · have h := h.1 c8
      refine lv_iconst (v := (0 : Int32)) hx hb dX10_isPlace_48 (by decide) ?_
      exact x_zretR G hr hlk (Or.inl rfl) h dX10_isPlace_49
    · have h := h.2 c8
      refine lv_iload hx hb dX10_isPlace_23 (lv_at hl 4 rfl) ?_
      refine x_cRSi (As := [.int v4]) (rest := []) G hP (c_X10_isBattery l D kA _ _ v4 h) cd_X10_isBattery ml_X10_161 ⟨(Nat.le_of_ble_eq_true rfl), (Nat.le_of_ble_eq_true rfl)⟩ rfl hl.1 rfl (Nat.le_of_ble_eq_true rfl) dX10_isPlace_25 ⟨Nat.zero_le _, Nat.zero_le _⟩ (fun r9 h => ?_)
      refine lv_if_eq (tgt := 48) hx hb dX10_isPlace_28 (by decide) (fun c10 => ?_) (fun c10 => ?_)
      · have h := h.1 c10
        refine lv_iconst (v := (0 : Int32)) hx hb dX10_isPlace_48 (by decide) ?_
        exact x_zretR G hr hlk (Or.inl rfl) h dX10_isPlace_49
      · have h := h.2 c10
        refine lv_iload hx hb dX10_isPlace_31 (lv_at hl 5 rfl) ?_
        refine lv_i2l (v := v5.toInt64) hx hb dX10_isPlace_33 rfl ?_
        refine lv_lconst (v := (0 : Int64)) hx hb dX10_isPlace_34 (by decide) ?_
        refine lv_ldc2 hx hb hown (hts _ kc_X10_113) dX10_isPlace_35 ?_
        refine x_cRSi (As := [.long (v5.toInt64), .long (0 : Int64), .long (4 : Int64)]) (rest := []) G hP (c_X10_in l D kA _ _ (v5.toInt64) (0 : Int64) (4 : Int64) h) cd_X10_in ml_X10_66 ⟨(Nat.le_of_ble_eq_true rfl), (Nat.le_of_ble_eq_true rfl)⟩ rfl hl.1 rfl (Nat.le_of_ble_eq_true rfl) dX10_isPlace_38 ⟨Nat.zero_le _, Nat.zero_le _⟩ (fun r11 h => ?_)
        refine lv_if_eq (tgt := 48) hx hb dX10_isPlace_41 (by decide) (fun c12 => ?_) (fun c12 => ?_)
        · have h := h.1 c12
          refine lv_iconst (v := (0 : Int32)) hx hb dX10_isPlace_48 (by decide) ?_
          exact x_zretR G hr hlk (Or.inl rfl) h dX10_isPlace_49
        · have h := h.2 c12
          refine lv_iconst (v := (1 : Int32)) hx hb dX10_isPlace_44 (by decide) ?_
          refine lv_goto (tgt := 49) hx hb dX10_isPlace_45 (by decide) ?_
          exact x_zretR G hr hlk (Or.inr rfl) h dX10_isPlace_49
def wp_X10_best (post : Int32 → Hp → Prop) (X : Hp) (v0 : Nat) (v1 : Int32) (v2 : Int32) (v3 : Int32) (v4 : Int32) (v5 : Int32) : Prop := wp_X10_isWay (fun r1 => (¬ r1 = 0 → ∃ fs8 : List Value, Hs X v0 (.inr (10, fs8)) ∧ wp_X10_isPlace (fun r3 => (r3 = 0 → post (-2 : Int32) X) ∧ (¬ r3 = 0 → ∃ fs7 : List Value, Hs X v0 (.inr (10, fs7)) ∧ wp_X10_bestOf (fun r6 X5 => post r6 X5)  X v0 v1 v2 v3 v4 v5))  X v0 v1 v2 v3 v4 v5) ∧ (r1 = 0 → post (-1 : Int32) X))  X v1
set_option maxHeartbeats 4000000 in
set_option maxRecDepth 100000 in
theorem c_X10_best (l : Launch) (D : va_G) (kA : Nat → ClassId) (post : Int32 → Hp → Prop) (X : Hp) (sz : Nat) (v0 : Nat) (v1 : Int32) (v2 : Int32) (v3 : Int32) (v4 : Int32) (v5 : Int32) (h : wp_X10_best post X v0 v1 v2 v3 v4 v5) : Met l yX10_best (.code yX10_best cX10_best 6 (some .int) :: gd) (rmO 5 0 0 137) (va_Pc [Value.ref v0, Value.int v1, Value.int v2, Value.int v3, Value.int v4, Value.int v5] (PreM D kA X sz)) (va_Qi post (PoM D kA X sz) (va_A (hw kA X) sz)) 0 0 (va_A (hw kA X) sz) := by
  unfold wp_X10_best at h
  refine x_enM (by decide) (Nat.le_of_ble_eq_true rfl) ?_
  intro p e s m below meth c G hr hlk hin hsz hA S ls hl
  obtain ⟨hx, hb, hml, hown, hts, hE, hK⟩ := id G
  have hl : lv_has ls 6 [(0, .ref v0), (1, .int v1), (2, .int v2), (3, .int v3), (4, .int v4), (5, .int v5)] := hl
  refine lv_iload_n hx hb dX10_best_0 rfl (lv_at hl 1 rfl) ?_
  refine x_cRSi (As := [.int v1]) (rest := []) G S.1 (c_X10_isWay l D kA _ _ v1 h) cd_X10_isWay ml_X10_74 ⟨(Nat.le_of_ble_eq_true rfl), (Nat.le_of_ble_eq_true rfl)⟩ rfl hl.1 rfl (Nat.le_of_ble_eq_true rfl) dX10_best_1 ⟨Nat.zero_le _, Nat.zero_le _⟩ (fun r1 h => ?_)
  refine lv_if_ne (tgt := 9) hx hb dX10_best_4 (by decide) (fun c2 => ?_) (fun c2 => ?_)
  · have h := h.1 c2
    refine lv_aload_n hx hb dX10_best_9 rfl (lv_at hl 0 rfl) ?_
    refine lv_iload_n hx hb dX10_best_10 rfl (lv_at hl 1 rfl) ?_
    refine lv_iload_n hx hb dX10_best_11 rfl (lv_at hl 2 rfl) ?_
    refine lv_iload_n hx hb dX10_best_12 rfl (lv_at hl 3 rfl) ?_
    refine lv_iload hx hb dX10_best_13 (lv_at hl 4 rfl) ?_
    refine lv_iload hx hb dX10_best_15 (lv_at hl 5 rfl) ?_
    obtain ⟨fs8, hfs8, h⟩ := h
    refine x_cRVi (As := [.int v1, .int v2, .int v3, .int v4, .int v5]) (rest := []) G S.1 hfs8 rfl rfl (c_X10_isPlace l D kA _ _ v0 v1 v2 v3 v4 v5 h) cd_X10_isPlace ml_X10_196 ⟨(Nat.le_of_ble_eq_true rfl), (Nat.le_of_ble_eq_true rfl)⟩ rfl hl.1 rfl (Nat.le_of_ble_eq_true rfl) dX10_best_17 ⟨Nat.zero_le _, Nat.zero_le _⟩ (fun r3 h => ?_)
    refine lv_if_eq (tgt := 37) hx hb dX10_best_20 (by decide) (fun c4 => ?_) (fun c4 => ?_)
    · have h := h.1 c4
      refine lv_bipush (v := (-2 : Int32)) hx hb dX10_best_37 (by decide) ?_
      exact x_iretM G hr hlk S (Nat.le_refl _) (Nat.le_refl _) h dX10_best_39
    · have h := h.2 c4
      refine lv_aload_n hx hb dX10_best_23 rfl (lv_at hl 0 rfl) ?_
      refine lv_iload_n hx hb dX10_best_24 rfl (lv_at hl 1 rfl) ?_
      refine lv_iload_n hx hb dX10_best_25 rfl (lv_at hl 2 rfl) ?_
      refine lv_iload_n hx hb dX10_best_26 rfl (lv_at hl 3 rfl) ?_
      refine lv_iload hx hb dX10_best_27 (lv_at hl 4 rfl) ?_
      refine lv_iload hx hb dX10_best_29 (lv_at hl 5 rfl) ?_
      obtain ⟨fs7, hfs7, h⟩ := h
      refine x_cMVi (As := [.int v1, .int v2, .int v3, .int v4, .int v5]) (rest := []) G S hA hfs7 rfl rfl (c_X10_bestOf l D kA _ _ _ v0 v1 v2 v3 v4 v5 h) cd_X10_bestOf ml_X10_193 ⟨(Nat.le_of_ble_eq_true rfl), (Nat.le_of_ble_eq_true rfl)⟩ rfl hl.1 rfl (Nat.le_of_ble_eq_true rfl) dX10_best_31 ⟨Nat.zero_le _, Nat.zero_le _⟩ (fun r6 X H locs h S => ?_)
      refine lv_goto (tgt := 39) hx hb dX10_best_34 (by decide) ?_
      exact x_iretM G hr hlk S (Nat.le_refl _) (Nat.le_refl _) h dX10_best_39
  · have h := h.2 c2
    refine lv_iconst (v := (-1 : Int32)) hx hb dX10_best_7 (by decide) ?_
    exact x_iretM G hr hlk S (Nat.le_refl _) (Nat.le_refl _) h dX10_best_8
def wp_X10_does (post : Int32 → Hp → Prop) (X : Hp) (v0 : Nat) (v1 : Int32) (v2 : Int32) (v3 : Int32) (v4 : Int32) (v5 : Int32) : Prop := wp_X10_isWay (fun r1 => (¬ r1 = 0 → ∃ fs13 : List Value, Hs X v0 (.inr (10, fs13)) ∧ wp_X10_isPlace (fun r3 => (¬ r3 = 0 → ∃ (fs5 : List Value) (y6 : Nat), Hs X v0 (.inr (10, fs5)) ∧ fs5[4]? = some (.ref y6) ∧ ∃ (n7 : Nat) (f8 : Nat → Int32), Hs X y6 (.inl (0, n7, .inl f8)) ∧ vp_in v1 n7 ∧ (¬ v2 = (f8 v1.toNatClampNeg) → ∃ fs12 : List Value, Hs X v0 (.inr (10, fs12)) ∧ wp_X10_doesOf (fun r11 X10 => post r11 X10)  X v0 v1 v2 v3 v4 v5) ∧ (v2 = (f8 v1.toNatClampNeg) → post (-6 : Int32) X)) ∧ (r3 = 0 → post (-2 : Int32) X))  X v0 v1 v2 v3 v4 v5) ∧ (r1 = 0 → post (-1 : Int32) X))  X v1
set_option maxHeartbeats 4000000 in
set_option maxRecDepth 100000 in
theorem c_X10_does (l : Launch) (D : va_G) (kA : Nat → ClassId) (post : Int32 → Hp → Prop) (X : Hp) (sz : Nat) (v0 : Nat) (v1 : Int32) (v2 : Int32) (v3 : Int32) (v4 : Int32) (v5 : Int32) (h : wp_X10_does post X v0 v1 v2 v3 v4 v5) : Met l yX10_does (.code yX10_does cX10_does 6 (some .int) :: gd) (rmO 6 0 0 165) (va_Pc [Value.ref v0, Value.int v1, Value.int v2, Value.int v3, Value.int v4, Value.int v5] (PreM D kA X sz)) (va_Qi post (PoM D kA X sz) (va_A (hw kA X) sz)) 0 0 (va_A (hw kA X) sz) := by
  unfold wp_X10_does at h
  refine x_enM (by decide) (Nat.le_of_ble_eq_true rfl) ?_
  intro p e s m below meth c G hr hlk hin hsz hA S ls hl
  obtain ⟨hx, hb, hml, hown, hts, hE, hK⟩ := id G
  have hl : lv_has ls 6 [(0, .ref v0), (1, .int v1), (2, .int v2), (3, .int v3), (4, .int v4), (5, .int v5)] := hl
  refine lv_iload_n hx hb dX10_does_0 rfl (lv_at hl 1 rfl) ?_
  refine x_cRSi (As := [.int v1]) (rest := []) G S.1 (c_X10_isWay l D kA _ _ v1 h) cd_X10_isWay ml_X10_74 ⟨(Nat.le_of_ble_eq_true rfl), (Nat.le_of_ble_eq_true rfl)⟩ rfl hl.1 rfl (Nat.le_of_ble_eq_true rfl) dX10_does_1 ⟨Nat.zero_le _, Nat.zero_le _⟩ (fun r1 h => ?_)
  refine lv_if_ne (tgt := 9) hx hb dX10_does_4 (by decide) (fun c2 => ?_) (fun c2 => ?_)
  · have h := h.1 c2
    refine lv_aload_n hx hb dX10_does_9 rfl (lv_at hl 0 rfl) ?_
    refine lv_iload_n hx hb dX10_does_10 rfl (lv_at hl 1 rfl) ?_
    refine lv_iload_n hx hb dX10_does_11 rfl (lv_at hl 2 rfl) ?_
    refine lv_iload_n hx hb dX10_does_12 rfl (lv_at hl 3 rfl) ?_
    refine lv_iload hx hb dX10_does_13 (lv_at hl 4 rfl) ?_
    refine lv_iload hx hb dX10_does_15 (lv_at hl 5 rfl) ?_
    obtain ⟨fs13, hfs13, h⟩ := h
    refine x_cRVi (As := [.int v1, .int v2, .int v3, .int v4, .int v5]) (rest := []) G S.1 hfs13 rfl rfl (c_X10_isPlace l D kA _ _ v0 v1 v2 v3 v4 v5 h) cd_X10_isPlace ml_X10_196 ⟨(Nat.le_of_ble_eq_true rfl), (Nat.le_of_ble_eq_true rfl)⟩ rfl hl.1 rfl (Nat.le_of_ble_eq_true rfl) dX10_does_17 ⟨Nat.zero_le _, Nat.zero_le _⟩ (fun r3 h => ?_)
    refine lv_if_ne (tgt := 26) hx hb dX10_does_20 (by decide) (fun c4 => ?_) (fun c4 => ?_)
    · have h := h.1 c4
      refine lv_iload_n hx hb dX10_does_26 rfl (lv_at hl 2 rfl) ?_
      refine lv_aload_n hx hb dX10_does_27 rfl (lv_at hl 0 rfl) ?_
      obtain ⟨fs5, y6, hfs5, hvfs5, h⟩ := h
      refine x_get G S.1 hfs5 hvfs5 fl_X10_22 dX10_does_28 ?_
      refine lv_iload_n hx hb dX10_does_31 rfl (lv_at hl 1 rfl) ?_
      obtain ⟨n7, f8, hf8, hif8, h⟩ := h
      refine x_iald G S.1 hf8 hif8 dX10_does_32 ?_
      refine lv_icmp_ne (tgt := 41) hx hb dX10_does_33 (by decide) (fun c9 => ?_) (fun c9 => ?_)
      · have h := h.1 c9
        refine lv_aload_n hx hb dX10_does_41 rfl (lv_at hl 0 rfl) ?_
        refine lv_iload_n hx hb dX10_does_42 rfl (lv_at hl 1 rfl) ?_
        refine lv_iload_n hx hb dX10_does_43 rfl (lv_at hl 2 rfl) ?_
        refine lv_iload_n hx hb dX10_does_44 rfl (lv_at hl 3 rfl) ?_
        refine lv_iload hx hb dX10_does_45 (lv_at hl 4 rfl) ?_
        refine lv_iload hx hb dX10_does_47 (lv_at hl 5 rfl) ?_
        obtain ⟨fs12, hfs12, h⟩ := h
        refine x_cMVi (As := [.int v1, .int v2, .int v3, .int v4, .int v5]) (rest := []) G S hA hfs12 rfl rfl (c_X10_doesOf l D kA _ _ _ v0 v1 v2 v3 v4 v5 h) cd_X10_doesOf ml_X10_200 ⟨(Nat.le_of_ble_eq_true rfl), (Nat.le_of_ble_eq_true rfl)⟩ rfl hl.1 rfl (Nat.le_of_ble_eq_true rfl) dX10_does_49 ⟨Nat.zero_le _, Nat.zero_le _⟩ (fun r11 X H locs h S => ?_)
        exact x_iretM G hr hlk S (Nat.le_refl _) (Nat.le_refl _) h dX10_does_52
      · have h := h.2 c9
        refine lv_bipush (v := (-6 : Int32)) hx hb dX10_does_36 (by decide) ?_
        refine lv_goto (tgt := 52) hx hb dX10_does_38 (by decide) ?_
        exact x_iretM G hr hlk S (Nat.le_refl _) (Nat.le_refl _) h dX10_does_52
    · have h := h.2 c4
      refine lv_bipush (v := (-2 : Int32)) hx hb dX10_does_23 (by decide) ?_
      exact x_iretM G hr hlk S (Nat.le_refl _) (Nat.le_refl _) h dX10_does_25
  · have h := h.2 c2
    refine lv_iconst (v := (-1 : Int32)) hx hb dX10_does_7 (by decide) ?_
    exact x_iretM G hr hlk S (Nat.le_refl _) (Nat.le_refl _) h dX10_does_8
def bk_X10_logged_166 (post : Int32 → Hp → Prop) (v0 : Nat) (v1 : Int32) (v2 : Int32) (v3 : Int32) (v4 : Int32) (r_41 : Hp → Int32 → Int32 → Int32 → Int32 → Int32 → Prop) (X : Hp) (b166_6 : Int32) (b166_7 : Int32) (b166_8 : Int32) (b166_9 : Int32) (b166_s0 : Int32) (b166_s1 : Int32) : Prop := ∀ x29 : Int32, x29 = (b166_s1 + b166_s0) → r_41 X x29 b166_6 b166_7 b166_8 b166_9
def bk_X10_logged_140 (post : Int32 → Hp → Prop) (v0 : Nat) (v1 : Int32) (v2 : Int32) (v3 : Int32) (v4 : Int32) (r_41 : Hp → Int32 → Int32 → Int32 → Int32 → Int32 → Prop) (X : Hp) (b140_5 : Int32) (b140_6 : Int32) (b140_7 : Int32) (b140_9 : Int32) (b140_11 : Int32) (b140_s0 : Int32) (b140_s1 : Int32) : Prop := ∀ x26 : Int32, x26 = (b140_s1 - b140_s0) → (¬ b140_11 = (4 : Int32) → (¬ b140_11 = (3 : Int32) → bk_X10_logged_166 post v0 v1 v2 v3 v4 r_41 X b140_6 b140_7 x26 b140_9 (1 : Int32) b140_5) ∧ (b140_11 = (3 : Int32) → bk_X10_logged_166 post v0 v1 v2 v3 v4 r_41 X b140_6 b140_7 x26 b140_9 (2 : Int32) b140_5)) ∧ (b140_11 = (4 : Int32) → bk_X10_logged_166 post v0 v1 v2 v3 v4 r_41 X b140_6 b140_7 x26 b140_9 (0 : Int32) b140_5)
def bk_X10_logged_111 (post : Int32 → Hp → Prop) (v0 : Nat) (v1 : Int32) (v2 : Int32) (v3 : Int32) (v4 : Int32) (r_41 : Hp → Int32 → Int32 → Int32 → Int32 → Int32 → Prop) (X : Hp) (b111_5 : Int32) (b111_6 : Int32) (b111_8 : Int32) (b111_9 : Int32) (b111_11 : Int32) (b111_s0 : Int32) (b111_s1 : Int32) : Prop := ∀ x22 : Int32, x22 = (b111_s1 - b111_s0) → ∃ fs25 : List Value, Hs X v0 (.inr (10, fs25)) ∧ wp_X10_owedBehind (fun r23 => (¬ b111_11 = (4 : Int32) → bk_X10_logged_140 post v0 v1 v2 v3 v4 r_41 X b111_5 r23 x22 b111_9 b111_11 (0 : Int32) b111_8) ∧ (b111_11 = (4 : Int32) → bk_X10_logged_140 post v0 v1 v2 v3 v4 r_41 X b111_5 r23 x22 b111_9 b111_11 (1 : Int32) b111_8))  X v0 v1 b111_5 b111_6 b111_11
def bk_X10_logged_41 (post : Int32 → Hp → Prop) (v0 : Nat) (v1 : Int32) (v2 : Int32) (v3 : Int32) (v4 : Int32)  : Nat → Hp → Int32 → Int32 → Int32 → Int32 → Int32 → Prop
  | 0, _, _, _, _, _, _ => False
  | k + 1, X, b41_5, b41_6, b41_7, b41_8, b41_9 => ∃ (fs8 : List Value) (y9 : Nat), Hs X v0 (.inr (10, fs8)) ∧ fs8[4]? = some (.ref y9) ∧ ∃ (n10 : Nat) (f11 : Nat → Int32), Hs X y9 (.inl (0, n10, .inl f11)) ∧ vp_in v1 n10 ∧ ((f11 v1.toNatClampNeg) ≤ b41_5 → (¬ v4 = (-1 : Int32) → post (-6 : Int32) X) ∧ (v4 = (-1 : Int32) → post b41_9 X)) ∧ (¬ (f11 v1.toNatClampNeg) ≤ b41_5 → ∃ fs21 : List Value, Hs X v0 (.inr (10, fs21)) ∧ wp_X10_doesOf (fun r15 X14 => (¬ b41_9 = v4 → ∀ x17 : Int32, x17 = b41_9 + (1 : Int32) → ∀ x18 : Int32, x18 = (r15 - r15 / (10 : Int32) * (10 : Int32)) → ((10 : Int32) ≤ r15 → (¬ x18 = (3 : Int32) → bk_X10_logged_111 post v0 v1 v2 v3 v4 (bk_X10_logged_41 post v0 v1 v2 v3 v4 k) X14 b41_5 b41_6 b41_8 x17 x18 (1 : Int32) b41_7) ∧ (x18 = (3 : Int32) → bk_X10_logged_111 post v0 v1 v2 v3 v4 (bk_X10_logged_41 post v0 v1 v2 v3 v4 k) X14 b41_5 b41_6 b41_8 x17 x18 (2 : Int32) b41_7)) ∧ (¬ (10 : Int32) ≤ r15 → bk_X10_logged_111 post v0 v1 v2 v3 v4 (bk_X10_logged_41 post v0 v1 v2 v3 v4 k) X14 b41_5 b41_6 b41_8 x17 x18 (0 : Int32) b41_7)) ∧ (b41_9 = v4 → post r15 X14)) X v0 v1 b41_5 b41_6 b41_7 b41_8)
def wp_X10_logged (post : Int32 → Hp → Prop) (X : Hp) (v0 : Nat) (v1 : Int32) (v2 : Int32) (v3 : Int32) (v4 : Int32) : Prop := wp_X10_isWay (fun r1 => (¬ r1 = 0 → wp_X10_isOwed (fun r3 => (r3 = 0 → post (-2 : Int32) X) ∧ (¬ r3 = 0 → wp_X10_isBattery (fun r5 => (¬ r5 = 0 → ∃ n7 : Nat, bk_X10_logged_41 post v0 v1 v2 v3 v4 n7 X (0 : Int32) v2 v3 (4 : Int32) (0 : Int32)) ∧ (r5 = 0 → post (-2 : Int32) X))  X v3))  X v2) ∧ (r1 = 0 → post (-1 : Int32) X))  X v1
set_option maxHeartbeats 4000000 in
set_option maxRecDepth 100000 in
theorem c_X10_logged (l : Launch) (D : va_G) (kA : Nat → ClassId) (post : Int32 → Hp → Prop) (X : Hp) (sz : Nat) (v0 : Nat) (v1 : Int32) (v2 : Int32) (v3 : Int32) (v4 : Int32) (h : wp_X10_logged post X v0 v1 v2 v3 v4) : Met l yX10_logged (.code yX10_logged cX10_logged 12 (some .int) :: gd) (rmO 6 0 0 165) (va_Pc [Value.ref v0, Value.int v1, Value.int v2, Value.int v3, Value.int v4] (PreM D kA X sz)) (va_Qi post (PoM D kA X sz) (va_A (hw kA X) sz)) 0 0 (va_A (hw kA X) sz) := by
  unfold wp_X10_logged at h
  refine x_enM (by decide) (Nat.le_of_ble_eq_true rfl) ?_
  intro p e s m below meth c G hr hlk hin hsz hA S ls hl
  obtain ⟨hx, hb, hml, hown, hts, hE, hK⟩ := id G
  have hl : lv_has ls 12 [(0, .ref v0), (1, .int v1), (2, .int v2), (3, .int v3), (4, .int v4)] := hl
  obtain ⟨X0, hX0⟩ : ∃ Y : Hp, Y = X := ⟨_, rfl⟩
  subst hX0
  have J_41 : ∀ (n : Nat) (X : Hp) (b41_5 : Int32) (b41_6 : Int32) (b41_7 : Int32) (b41_8 : Int32) (b41_9 : Int32), ∀ (H : Heap) (locs : List Loc) (_ : bk_X10_logged_41 post v0 v1 v2 v3 v4  n X b41_5 b41_6 b41_7 b41_8 b41_9), Sx D kA (va_A (hw kA X0) sz) s.heap H locs X → ∀ ls, lv_has ls 12 [(0, .ref v0), (1, .int v1), (4, .int v4), (5, .int b41_5), (6, .int b41_6), (7, .int b41_7), (8, .int b41_8), (9, .int b41_9)] → W p l e (rmO 6 0 0 165) s m [Value.ref v0, Value.int v1, Value.int v2, Value.int v3, Value.int v4].toArray below meth c H locs 0 0 (MQ below (va_Qi post (PoM D kA X0 sz) (va_A (hw kA X0) sz)) [Value.ref v0, Value.int v1, Value.int v2, Value.int v3, Value.int v4].toArray s 0 0 (va_A (hw kA X0) sz)) (F0 m 41 ls []) := by
    intro n
    induction n with
    | zero =>
      intro X b41_5 b41_6 b41_7 b41_8 b41_9 H locs h S ls hl
      rw [bk_X10_logged_41] at h
      exact h.elim
    | succ n_41 ih_41 =>
      have J_166 : ∀ (X : Hp) (b166_6 : Int32) (b166_7 : Int32) (b166_8 : Int32) (b166_9 : Int32) (b166_s0 : Int32) (b166_s1 : Int32), ∀ (H : Heap) (locs : List Loc) (_ : bk_X10_logged_166 post v0 v1 v2 v3 v4 (bk_X10_logged_41 post v0 v1 v2 v3 v4 n_41) X b166_6 b166_7 b166_8 b166_9 b166_s0 b166_s1), Sx D kA (va_A (hw kA X0) sz) s.heap H locs X → ∀ ls, lv_has ls 12 [(0, .ref v0), (1, .int v1), (4, .int v4), (6, .int b166_6), (7, .int b166_7), (8, .int b166_8), (9, .int b166_9)] → W p l e (rmO 6 0 0 165) s m [Value.ref v0, Value.int v1, Value.int v2, Value.int v3, Value.int v4].toArray below meth c H locs 0 0 (MQ below (va_Qi post (PoM D kA X0 sz) (va_A (hw kA X0) sz)) [Value.ref v0, Value.int v1, Value.int v2, Value.int v3, Value.int v4].toArray s 0 0 (va_A (hw kA X0) sz)) (F0 m 166 ls [.int b166_s0, .int b166_s1]) := by
        intro X b166_6 b166_7 b166_8 b166_9 b166_s0 b166_s1 H locs h S ls hl
        unfold bk_X10_logged_166 at h
        refine lv_iadd hx hb dX10_logged_166 ?_
        refine lv_topi (fun x29 ex29 => ?_)
        have h := h x29 ex29
        refine lv_istore (lv' := [(5, .int x29), (0, .ref v0), (1, .int v1), (4, .int v4), (6, .int b166_6), (7, .int b166_7), (8, .int b166_8), (9, .int b166_9)]) hx hb dX10_logged_167 hl (by decide) rfl (fun ls hl => ?_)
        refine lv_goto (tgt := 41) hx hb dX10_logged_169 (by decide) ?_
        exact ih_41 _ _ _ _ _ _ _ _ h S ls (lv_sub hl [1, 2, 3, 0, 4, 5, 6, 7] rfl)
      have J_140 : ∀ (X : Hp) (b140_5 : Int32) (b140_6 : Int32) (b140_7 : Int32) (b140_9 : Int32) (b140_11 : Int32) (b140_s0 : Int32) (b140_s1 : Int32), ∀ (H : Heap) (locs : List Loc) (_ : bk_X10_logged_140 post v0 v1 v2 v3 v4 (bk_X10_logged_41 post v0 v1 v2 v3 v4 n_41) X b140_5 b140_6 b140_7 b140_9 b140_11 b140_s0 b140_s1), Sx D kA (va_A (hw kA X0) sz) s.heap H locs X → ∀ ls, lv_has ls 12 [(0, .ref v0), (1, .int v1), (4, .int v4), (5, .int b140_5), (6, .int b140_6), (7, .int b140_7), (9, .int b140_9), (11, .int b140_11)] → W p l e (rmO 6 0 0 165) s m [Value.ref v0, Value.int v1, Value.int v2, Value.int v3, Value.int v4].toArray below meth c H locs 0 0 (MQ below (va_Qi post (PoM D kA X0 sz) (va_A (hw kA X0) sz)) [Value.ref v0, Value.int v1, Value.int v2, Value.int v3, Value.int v4].toArray s 0 0 (va_A (hw kA X0) sz)) (F0 m 140 ls [.int b140_s0, .int b140_s1]) := by
        intro X b140_5 b140_6 b140_7 b140_9 b140_11 b140_s0 b140_s1 H locs h S ls hl
        unfold bk_X10_logged_140 at h
        refine lv_isub hx hb dX10_logged_140 ?_
        refine lv_topi (fun x26 ex26 => ?_)
        have h := h x26 ex26
        refine lv_istore (lv' := [(8, .int x26), (0, .ref v0), (1, .int v1), (4, .int v4), (5, .int b140_5), (6, .int b140_6), (7, .int b140_7), (9, .int b140_9), (11, .int b140_11)]) hx hb dX10_logged_141 hl (by decide) rfl (fun ls hl => ?_)
        refine lv_iload hx hb dX10_logged_143 (lv_at hl 4 rfl) ?_
        refine lv_iload hx hb dX10_logged_145 (lv_at hl 8 rfl) ?_
        refine lv_iconst (v := (4 : Int32)) hx hb dX10_logged_147 (by decide) ?_
        refine lv_icmp_ne (tgt := 155) hx hb dX10_logged_148 (by decide) (fun c27 => ?_) (fun c27 => ?_)
        · have h := h.1 c27
          refine lv_iload hx hb dX10_logged_155 (lv_at hl 8 rfl) ?_
          refine lv_iconst (v := (3 : Int32)) hx hb dX10_logged_157 (by decide) ?_
          refine lv_icmp_ne (tgt := 165) hx hb dX10_logged_158 (by decide) (fun c28 => ?_) (fun c28 => ?_)
          · have h := h.1 c28
            refine lv_iconst (v := (1 : Int32)) hx hb dX10_logged_165 (by decide) ?_
            exact J_166 _ _ _ _ _ _ _ _ _ h S ls (lv_sub hl [1, 2, 3, 5, 6, 0, 7] rfl)
          · have h := h.2 c28
            refine lv_iconst (v := (2 : Int32)) hx hb dX10_logged_161 (by decide) ?_
            refine lv_goto (tgt := 166) hx hb dX10_logged_162 (by decide) ?_
            exact J_166 _ _ _ _ _ _ _ _ _ h S ls (lv_sub hl [1, 2, 3, 5, 6, 0, 7] rfl)
        · have h := h.2 c27
          refine lv_iconst (v := (0 : Int32)) hx hb dX10_logged_151 (by decide) ?_
          refine lv_goto (tgt := 166) hx hb dX10_logged_152 (by decide) ?_
          exact J_166 _ _ _ _ _ _ _ _ _ h S ls (lv_sub hl [1, 2, 3, 5, 6, 0, 7] rfl)
      have J_111 : ∀ (X : Hp) (b111_5 : Int32) (b111_6 : Int32) (b111_8 : Int32) (b111_9 : Int32) (b111_11 : Int32) (b111_s0 : Int32) (b111_s1 : Int32), ∀ (H : Heap) (locs : List Loc) (_ : bk_X10_logged_111 post v0 v1 v2 v3 v4 (bk_X10_logged_41 post v0 v1 v2 v3 v4 n_41) X b111_5 b111_6 b111_8 b111_9 b111_11 b111_s0 b111_s1), Sx D kA (va_A (hw kA X0) sz) s.heap H locs X → ∀ ls, lv_has ls 12 [(0, .ref v0), (1, .int v1), (4, .int v4), (5, .int b111_5), (6, .int b111_6), (8, .int b111_8), (9, .int b111_9), (11, .int b111_11)] → W p l e (rmO 6 0 0 165) s m [Value.ref v0, Value.int v1, Value.int v2, Value.int v3, Value.int v4].toArray below meth c H locs 0 0 (MQ below (va_Qi post (PoM D kA X0 sz) (va_A (hw kA X0) sz)) [Value.ref v0, Value.int v1, Value.int v2, Value.int v3, Value.int v4].toArray s 0 0 (va_A (hw kA X0) sz)) (F0 m 111 ls [.int b111_s0, .int b111_s1]) := by
        intro X b111_5 b111_6 b111_8 b111_9 b111_11 b111_s0 b111_s1 H locs h S ls hl
        unfold bk_X10_logged_111 at h
        refine lv_isub hx hb dX10_logged_111 ?_
        refine lv_topi (fun x22 ex22 => ?_)
        have h := h x22 ex22
        refine lv_istore (lv' := [(7, .int x22), (0, .ref v0), (1, .int v1), (4, .int v4), (5, .int b111_5), (6, .int b111_6), (8, .int b111_8), (9, .int b111_9), (11, .int b111_11)]) hx hb dX10_logged_112 hl (by decide) rfl (fun ls hl => ?_)
        refine lv_aload_n hx hb dX10_logged_114 rfl (lv_at hl 1 rfl) ?_
        refine lv_iload_n hx hb dX10_logged_115 rfl (lv_at hl 2 rfl) ?_
        refine lv_iload hx hb dX10_logged_116 (lv_at hl 4 rfl) ?_
        refine lv_iload hx hb dX10_logged_118 (lv_at hl 5 rfl) ?_
        refine lv_iload hx hb dX10_logged_120 (lv_at hl 8 rfl) ?_
        obtain ⟨fs25, hfs25, h⟩ := h
        refine x_cRVi (As := [.int v1, .int b111_5, .int b111_6, .int b111_11]) (rest := []) G S.1 hfs25 rfl rfl (c_X10_owedBehind l D kA _ _ v0 v1 b111_5 b111_6 b111_11 h) cd_X10_owedBehind ml_X10_119 ⟨(Nat.le_of_ble_eq_true rfl), (Nat.le_of_ble_eq_true rfl)⟩ rfl hl.1 rfl (Nat.le_of_ble_eq_true rfl) dX10_logged_122 ⟨Nat.zero_le _, Nat.zero_le _⟩ (fun r23 h => ?_)
        refine lv_istore (lv' := [(6, .int r23), (7, .int x22), (0, .ref v0), (1, .int v1), (4, .int v4), (5, .int b111_5), (8, .int b111_8), (9, .int b111_9), (11, .int b111_11)]) hx hb dX10_logged_125 hl (by decide) rfl (fun ls hl => ?_)
        refine lv_iload hx hb dX10_logged_127 (lv_at hl 6 rfl) ?_
        refine lv_iload hx hb dX10_logged_129 (lv_at hl 8 rfl) ?_
        refine lv_iconst (v := (4 : Int32)) hx hb dX10_logged_131 (by decide) ?_
        refine lv_icmp_ne (tgt := 139) hx hb dX10_logged_132 (by decide) (fun c24 => ?_) (fun c24 => ?_)
        · have h := h.1 c24
          refine lv_iconst (v := (0 : Int32)) hx hb dX10_logged_139 (by decide) ?_
          exact J_140 _ _ _ _ _ _ _ _ _ _ h S ls (lv_sub hl [2, 3, 4, 5, 0, 1, 7, 8] rfl)
        · have h := h.2 c24
          refine lv_iconst (v := (1 : Int32)) hx hb dX10_logged_135 (by decide) ?_
          refine lv_goto (tgt := 140) hx hb dX10_logged_136 (by decide) ?_
          exact J_140 _ _ _ _ _ _ _ _ _ _ h S ls (lv_sub hl [2, 3, 4, 5, 0, 1, 7, 8] rfl)
      intro X b41_5 b41_6 b41_7 b41_8 b41_9 H locs h S ls hl
      rw [bk_X10_logged_41] at h
      refine lv_iload hx hb dX10_logged_41 (lv_at hl 3 rfl) ?_
      refine lv_aload_n hx hb dX10_logged_43 rfl (lv_at hl 0 rfl) ?_
      obtain ⟨fs8, y9, hfs8, hvfs8, h⟩ := h
      refine x_get G S.1 hfs8 hvfs8 fl_X10_22 dX10_logged_44 ?_
      refine lv_iload_n hx hb dX10_logged_47 rfl (lv_at hl 1 rfl) ?_
      obtain ⟨n10, f11, hf11, hif11, h⟩ := h
      refine x_iald G S.1 hf11 hif11 dX10_logged_48 ?_
      refine lv_icmp_ge (tgt := 172) hx hb dX10_logged_49 (by decide) (fun c12 => ?_) (fun c12 => ?_)
      · have h := h.1 c12
        refine lv_iload hx hb dX10_logged_172 (lv_at hl 2 rfl) ?_
        refine lv_iconst (v := (-1 : Int32)) hx hb dX10_logged_174 (by decide) ?_
        refine lv_icmp_ne (tgt := 183) hx hb dX10_logged_175 (by decide) (fun c13 => ?_) (fun c13 => ?_)
        · have h := h.1 c13
          refine lv_bipush (v := (-6 : Int32)) hx hb dX10_logged_183 (by decide) ?_
          exact x_iretM G hr hlk S (Nat.le_refl _) (Nat.le_refl _) h dX10_logged_185
        · have h := h.2 c13
          refine lv_iload hx hb dX10_logged_178 (lv_at hl 7 rfl) ?_
          refine lv_goto (tgt := 185) hx hb dX10_logged_180 (by decide) ?_
          exact x_iretM G hr hlk S (Nat.le_refl _) (Nat.le_refl _) h dX10_logged_185
      · have h := h.2 c12
        refine lv_aload_n hx hb dX10_logged_52 rfl (lv_at hl 0 rfl) ?_
        refine lv_iload_n hx hb dX10_logged_53 rfl (lv_at hl 1 rfl) ?_
        refine lv_iload hx hb dX10_logged_54 (lv_at hl 3 rfl) ?_
        refine lv_iload hx hb dX10_logged_56 (lv_at hl 4 rfl) ?_
        refine lv_iload hx hb dX10_logged_58 (lv_at hl 5 rfl) ?_
        refine lv_iload hx hb dX10_logged_60 (lv_at hl 6 rfl) ?_
        obtain ⟨fs21, hfs21, h⟩ := h
        refine x_cMVi (As := [.int v1, .int b41_5, .int b41_6, .int b41_7, .int b41_8]) (rest := []) G S hA hfs21 rfl rfl (c_X10_doesOf l D kA _ _ _ v0 v1 b41_5 b41_6 b41_7 b41_8 h) cd_X10_doesOf ml_X10_200 ⟨(Nat.le_of_ble_eq_true rfl), (Nat.le_of_ble_eq_true rfl)⟩ rfl hl.1 rfl (Nat.le_of_ble_eq_true rfl) dX10_logged_62 ⟨Nat.zero_le _, Nat.zero_le _⟩ (fun r15 X H locs h S => ?_)
        refine lv_istore (lv' := [(10, .int r15), (0, .ref v0), (1, .int v1), (4, .int v4), (5, .int b41_5), (6, .int b41_6), (7, .int b41_7), (8, .int b41_8), (9, .int b41_9)]) hx hb dX10_logged_65 hl (by decide) rfl (fun ls hl => ?_)
        refine lv_iload hx hb dX10_logged_67 (lv_at hl 8 rfl) ?_
        refine lv_iload hx hb dX10_logged_69 (lv_at hl 3 rfl) ?_
        refine lv_icmp_ne (tgt := 77) hx hb dX10_logged_71 (by decide) (fun c16 => ?_) (fun c16 => ?_)
        · have h := h.1 c16
          obtain ⟨x17, ex17⟩ : ∃ y : Int32, y = b41_9 + (1 : Int32) := ⟨_, rfl⟩
          have h := h x17 ex17
          refine lv_iinc (v := x17) (lv' := [(9, .int x17), (10, .int r15), (0, .ref v0), (1, .int v1), (4, .int v4), (5, .int b41_5), (6, .int b41_6), (7, .int b41_7), (8, .int b41_8)]) hx hb dX10_logged_77 hl (k := 8) rfl (by rw [ex17]; rfl) (by decide) rfl (fun ls hl => ?_)
          refine lv_iload hx hb dX10_logged_80 (lv_at hl 1 rfl) ?_
          refine lv_bipush (v := (10 : Int32)) hx hb dX10_logged_82 (by decide) ?_
          refine lv_irem hx hb dX10_logged_84 (by decide) ?_
          refine lv_topi (fun x18 ex18 => ?_)
          have h := h x18 ex18
          refine lv_istore (lv' := [(11, .int x18), (9, .int x17), (10, .int r15), (0, .ref v0), (1, .int v1), (4, .int v4), (5, .int b41_5), (6, .int b41_6), (7, .int b41_7), (8, .int b41_8)]) hx hb dX10_logged_85 hl (by decide) rfl (fun ls hl => ?_)
          refine lv_iload hx hb dX10_logged_87 (lv_at hl 8 rfl) ?_
          refine lv_iload hx hb dX10_logged_89 (lv_at hl 2 rfl) ?_
          refine lv_bipush (v := (10 : Int32)) hx hb dX10_logged_91 (by decide) ?_
          refine lv_icmp_ge (tgt := 100) hx hb dX10_logged_93 (by decide) (fun c19 => ?_) (fun c19 => ?_)
          · have h := h.1 c19
            refine lv_iload hx hb dX10_logged_100 (lv_at hl 0 rfl) ?_
            refine lv_iconst (v := (3 : Int32)) hx hb dX10_logged_102 (by decide) ?_
            refine lv_icmp_ne (tgt := 110) hx hb dX10_logged_103 (by decide) (fun c20 => ?_) (fun c20 => ?_)
            · have h := h.1 c20
              refine lv_iconst (v := (1 : Int32)) hx hb dX10_logged_110 (by decide) ?_
              exact J_111 _ _ _ _ _ _ _ _ _ _ h S ls (lv_sub hl [3, 4, 5, 6, 7, 9, 1, 0] rfl)
            · have h := h.2 c20
              refine lv_iconst (v := (2 : Int32)) hx hb dX10_logged_106 (by decide) ?_
              refine lv_goto (tgt := 111) hx hb dX10_logged_107 (by decide) ?_
              exact J_111 _ _ _ _ _ _ _ _ _ _ h S ls (lv_sub hl [3, 4, 5, 6, 7, 9, 1, 0] rfl)
          · have h := h.2 c19
            refine lv_iconst (v := (0 : Int32)) hx hb dX10_logged_96 (by decide) ?_
            refine lv_goto (tgt := 111) hx hb dX10_logged_97 (by decide) ?_
            exact J_111 _ _ _ _ _ _ _ _ _ _ h S ls (lv_sub hl [3, 4, 5, 6, 7, 9, 1, 0] rfl)
        · have h := h.2 c16
          refine lv_iload hx hb dX10_logged_74 (lv_at hl 0 rfl) ?_
          exact x_iretM G hr hlk S (Nat.le_refl _) (Nat.le_refl _) h dX10_logged_76
  refine lv_iload_n hx hb dX10_logged_0 rfl (lv_at hl 1 rfl) ?_
  refine x_cRSi (As := [.int v1]) (rest := []) G S.1 (c_X10_isWay l D kA _ _ v1 h) cd_X10_isWay ml_X10_74 ⟨(Nat.le_of_ble_eq_true rfl), (Nat.le_of_ble_eq_true rfl)⟩ rfl hl.1 rfl (Nat.le_of_ble_eq_true rfl) dX10_logged_1 ⟨Nat.zero_le _, Nat.zero_le _⟩ (fun r1 h => ?_)
  refine lv_if_ne (tgt := 9) hx hb dX10_logged_4 (by decide) (fun c2 => ?_) (fun c2 => ?_)
  · have h := h.1 c2
    refine lv_iload_n hx hb dX10_logged_9 rfl (lv_at hl 2 rfl) ?_
    refine x_cRSi (As := [.int v2]) (rest := []) G S.1 (c_X10_isOwed l D kA _ _ v2 h) cd_X10_isOwed ml_X10_110 ⟨(Nat.le_of_ble_eq_true rfl), (Nat.le_of_ble_eq_true rfl)⟩ rfl hl.1 rfl (Nat.le_of_ble_eq_true rfl) dX10_logged_10 ⟨Nat.zero_le _, Nat.zero_le _⟩ (fun r3 h => ?_)
    refine lv_if_eq (tgt := 23) hx hb dX10_logged_13 (by decide) (fun c4 => ?_) (fun c4 => ?_)
    · have h := h.1 c4
      refine lv_bipush (v := (-2 : Int32)) hx hb dX10_logged_23 (by decide) ?_
      exact x_iretM G hr hlk S (Nat.le_refl _) (Nat.le_refl _) h dX10_logged_25
    · have h := h.2 c4
      refine lv_iload_n hx hb dX10_logged_16 rfl (lv_at hl 3 rfl) ?_
      refine x_cRSi (As := [.int v3]) (rest := []) G S.1 (c_X10_isBattery l D kA _ _ v3 h) cd_X10_isBattery ml_X10_161 ⟨(Nat.le_of_ble_eq_true rfl), (Nat.le_of_ble_eq_true rfl)⟩ rfl hl.1 rfl (Nat.le_of_ble_eq_true rfl) dX10_logged_17 ⟨Nat.zero_le _, Nat.zero_le _⟩ (fun r5 h => ?_)
      refine lv_if_ne (tgt := 26) hx hb dX10_logged_20 (by decide) (fun c6 => ?_) (fun c6 => ?_)
      · have h := h.1 c6
        refine lv_iconst (v := (0 : Int32)) hx hb dX10_logged_26 (by decide) ?_
        refine lv_istore (lv' := [(5, .int (0 : Int32)), (0, .ref v0), (1, .int v1), (2, .int v2), (3, .int v3), (4, .int v4)]) hx hb dX10_logged_27 hl (by decide) rfl (fun ls hl => ?_)
        refine lv_iload_n hx hb dX10_logged_29 rfl (lv_at hl 3 rfl) ?_
        refine lv_istore (lv' := [(6, .int v2), (5, .int (0 : Int32)), (0, .ref v0), (1, .int v1), (2, .int v2), (3, .int v3), (4, .int v4)]) hx hb dX10_logged_30 hl (by decide) rfl (fun ls hl => ?_)
        refine lv_iload_n hx hb dX10_logged_32 rfl (lv_at hl 5 rfl) ?_
        refine lv_istore (lv' := [(7, .int v3), (6, .int v2), (5, .int (0 : Int32)), (0, .ref v0), (1, .int v1), (2, .int v2), (3, .int v3), (4, .int v4)]) hx hb dX10_logged_33 hl (by decide) rfl (fun ls hl => ?_)
        refine lv_iconst (v := (4 : Int32)) hx hb dX10_logged_35 (by decide) ?_
        refine lv_istore (lv' := [(8, .int (4 : Int32)), (7, .int v3), (6, .int v2), (5, .int (0 : Int32)), (0, .ref v0), (1, .int v1), (2, .int v2), (3, .int v3), (4, .int v4)]) hx hb dX10_logged_36 hl (by decide) rfl (fun ls hl => ?_)
        refine lv_iconst (v := (0 : Int32)) hx hb dX10_logged_38 (by decide) ?_
        refine lv_istore (lv' := [(9, .int (0 : Int32)), (8, .int (4 : Int32)), (7, .int v3), (6, .int v2), (5, .int (0 : Int32)), (0, .ref v0), (1, .int v1), (2, .int v2), (3, .int v3), (4, .int v4)]) hx hb dX10_logged_39 hl (by decide) rfl (fun ls hl => ?_)
        obtain ⟨n7, h⟩ := h
        exact J_41 n7 _ _ _ _ _ _ _ _ h S ls (lv_sub hl [5, 6, 9, 4, 3, 2, 1, 0] rfl)
      · have h := h.2 c6
        refine lv_bipush (v := (-2 : Int32)) hx hb dX10_logged_23 (by decide) ?_
        exact x_iretM G hr hlk S (Nat.le_refl _) (Nat.le_refl _) h dX10_logged_25
  · have h := h.2 c2
    refine lv_iconst (v := (-1 : Int32)) hx hb dX10_logged_7 (by decide) ?_
    exact x_iretM G hr hlk S (Nat.le_refl _) (Nat.le_refl _) h dX10_logged_8
def bk_X10_thumbDoes_100 (post : Int32 → Prop) (X : Hp) (v0 : Nat) (v1 : Int32) (v2 : Int32) (v3 : Int32) (v4 : Int32)  (b100_s0 : Int32) : Prop := (¬ b100_s0 = 0 → ∃ fs24 : List Value, Hs X v0 (.inr (10, fs24)) ∧ wp_X10_canBe (fun r19 => (r19 = 0 → ∃ fs23 : List Value, Hs X v0 (.inr (10, fs23)) ∧ wp_X10_canBe (fun r21 => (r21 = 0 → post (0 : Int32)) ∧ (¬ r21 = 0 → post (2 : Int32)))  X v0 v1 v3 (2 : Int32)) ∧ (¬ r19 = 0 → post (3 : Int32)))  X v0 v1 v3 (3 : Int32)) ∧ (b100_s0 = 0 → post (0 : Int32))
def bk_X10_thumbDoes_99 (post : Int32 → Prop) (X : Hp) (v0 : Nat) (v1 : Int32) (v2 : Int32) (v3 : Int32) (v4 : Int32)   : Prop := bk_X10_thumbDoes_100 post X v0 v1 v2 v3 v4 (0 : Int32)
def bk_X10_thumbDoes_78 (post : Int32 → Prop) (X : Hp) (v0 : Nat) (v1 : Int32) (v2 : Int32) (v3 : Int32) (v4 : Int32)   : Prop := bk_X10_thumbDoes_100 post X v0 v1 v2 v3 v4 (0 : Int32)
def wp_X10_thumbDoes (post : Int32 → Prop) (X : Hp) (v0 : Nat) (v1 : Int32) (v2 : Int32) (v3 : Int32) (v4 : Int32) : Prop := (¬ v2 = 0 → (¬ v2 = (1 : Int32) → (¬ v2 = (2 : Int32) → (v4 < (1 : Int32) → bk_X10_thumbDoes_99 post X v0 v1 v2 v3 v4 ) ∧ (¬ v4 < (1 : Int32) → wp_X10_isNight (fun r5 => (r5 = 0 → bk_X10_thumbDoes_99 post X v0 v1 v2 v3 v4 ) ∧ (¬ r5 = 0 → bk_X10_thumbDoes_100 post X v0 v1 v2 v3 v4 (1 : Int32)))  X v3)) ∧ (v2 = (2 : Int32) → (v4 < (4 : Int32) → bk_X10_thumbDoes_78 post X v0 v1 v2 v3 v4 ) ∧ (¬ v4 < (4 : Int32) → ∃ (fs8 : List Value) (y9 : Nat), Hs X v0 (.inr (10, fs8)) ∧ fs8[5]? = some (.ref y9) ∧ ∃ (n10 : Nat) (f11 : Nat → Int32), Hs X y9 (.inl (0, n10, .inl f11)) ∧ vp_in (((48 : Int32) * v1) + v3) n10 ∧ ((50 : Int32) ≤ (f11 (((48 : Int32) * v1) + v3).toNatClampNeg) → bk_X10_thumbDoes_78 post X v0 v1 v2 v3 v4 ) ∧ (¬ (50 : Int32) ≤ (f11 (((48 : Int32) * v1) + v3).toNatClampNeg) → bk_X10_thumbDoes_100 post X v0 v1 v2 v3 v4 (1 : Int32))))) ∧ (v2 = (1 : Int32) → (v4 < (8 : Int32) → bk_X10_thumbDoes_100 post X v0 v1 v2 v3 v4 (0 : Int32)) ∧ (¬ v4 < (8 : Int32) → bk_X10_thumbDoes_100 post X v0 v1 v2 v3 v4 (1 : Int32)))) ∧ (v2 = 0 → (¬ (v3 - v3 / (2 : Int32) * (2 : Int32)) = (1 : Int32) → post (0 : Int32)) ∧ ((v3 - v3 / (2 : Int32) * (2 : Int32)) = (1 : Int32) → ∃ fs17 : List Value, Hs X v0 (.inr (10, fs17)) ∧ wp_X10_canBe (fun r15 => (r15 = 0 → post (0 : Int32)) ∧ (¬ r15 = 0 → post (1 : Int32)))  X v0 v1 v3 (1 : Int32)))
set_option maxHeartbeats 4000000 in
set_option maxRecDepth 100000 in
theorem c_X10_thumbDoes (l : Launch) (D : va_G) (kA : Nat → ClassId) (post : Int32 → Prop) (X : Hp) (v0 : Nat) (v1 : Int32) (v2 : Int32) (v3 : Int32) (v4 : Int32) (h : wp_X10_thumbDoes post X v0 v1 v2 v3 v4) : Met l yX10_thumbDoes (.code yX10_thumbDoes cX10_thumbDoes 6 (some .int) :: gd) (rmO 2 0 0 45) (va_Pc [Value.ref v0, Value.int v1, Value.int v2, Value.int v3, Value.int v4] (Pre D kA X)) (vp_Si post) 0 0 (fun _ => False) := by
  unfold wp_X10_thumbDoes at h
  refine x_enR (by decide) (Nat.le_of_ble_eq_true rfl) ?_
  intro p e s m below meth c G hr hlk hP ls hl
  obtain ⟨hx, hb, hml, hown, hts, hE, hK⟩ := id G
  have hl : lv_has ls 6 [(0, .ref v0), (1, .int v1), (2, .int v2), (3, .int v3), (4, .int v4)] := hl
  have J_100 : ∀ (b100_s0 : Int32), ∀ (_ : bk_X10_thumbDoes_100 post X v0 v1 v2 v3 v4  b100_s0), ∀ ls, lv_has ls 6 [(0, .ref v0), (1, .int v1), (3, .int v3)] → W p l e (rmO 2 0 0 45) s m [Value.ref v0, Value.int v1, Value.int v2, Value.int v3, Value.int v4].toArray below meth c s.heap [] 0 0 (MQ below (vp_Si post) [Value.ref v0, Value.int v1, Value.int v2, Value.int v3, Value.int v4].toArray s 0 0 (fun _ => False)) (F0 m 100 ls [.int b100_s0]) := by
    intro b100_s0 h ls hl
    unfold bk_X10_thumbDoes_100 at h
    refine lv_istore (lv' := [(5, .int b100_s0), (0, .ref v0), (1, .int v1), (3, .int v3)]) hx hb dX10_thumbDoes_100 hl (by decide) rfl (fun ls hl => ?_)
    refine lv_iload hx hb dX10_thumbDoes_102 (lv_at hl 0 rfl) ?_
    refine lv_if_ne (tgt := 111) hx hb dX10_thumbDoes_104 (by decide) (fun c18 => ?_) (fun c18 => ?_)
    · have h := h.1 c18
      refine lv_aload_n hx hb dX10_thumbDoes_111 rfl (lv_at hl 1 rfl) ?_
      refine lv_iload_n hx hb dX10_thumbDoes_112 rfl (lv_at hl 2 rfl) ?_
      refine lv_iload_n hx hb dX10_thumbDoes_113 rfl (lv_at hl 3 rfl) ?_
      refine lv_iconst (v := (3 : Int32)) hx hb dX10_thumbDoes_114 (by decide) ?_
      obtain ⟨fs24, hfs24, h⟩ := h
      refine x_cRVi (As := [.int v1, .int v3, .int (3 : Int32)]) (rest := []) G hP hfs24 rfl rfl (c_X10_canBe l D kA _ _ v0 v1 v3 (3 : Int32) h) cd_X10_canBe ml_X10_115 ⟨(Nat.le_of_ble_eq_true rfl), (Nat.le_of_ble_eq_true rfl)⟩ rfl hl.1 rfl (Nat.le_of_ble_eq_true rfl) dX10_thumbDoes_115 ⟨Nat.zero_le _, Nat.zero_le _⟩ (fun r19 h => ?_)
      refine lv_if_eq (tgt := 125) hx hb dX10_thumbDoes_118 (by decide) (fun c20 => ?_) (fun c20 => ?_)
      · have h := h.1 c20
        refine lv_aload_n hx hb dX10_thumbDoes_125 rfl (lv_at hl 1 rfl) ?_
        refine lv_iload_n hx hb dX10_thumbDoes_126 rfl (lv_at hl 2 rfl) ?_
        refine lv_iload_n hx hb dX10_thumbDoes_127 rfl (lv_at hl 3 rfl) ?_
        refine lv_iconst (v := (2 : Int32)) hx hb dX10_thumbDoes_128 (by decide) ?_
        obtain ⟨fs23, hfs23, h⟩ := h
        refine x_cRVi (As := [.int v1, .int v3, .int (2 : Int32)]) (rest := []) G hP hfs23 rfl rfl (c_X10_canBe l D kA _ _ v0 v1 v3 (2 : Int32) h) cd_X10_canBe ml_X10_115 ⟨(Nat.le_of_ble_eq_true rfl), (Nat.le_of_ble_eq_true rfl)⟩ rfl hl.1 rfl (Nat.le_of_ble_eq_true rfl) dX10_thumbDoes_129 ⟨Nat.zero_le _, Nat.zero_le _⟩ (fun r21 h => ?_)
        refine lv_if_eq (tgt := 139) hx hb dX10_thumbDoes_132 (by decide) (fun c22 => ?_) (fun c22 => ?_)
        · have h := h.1 c22
          refine lv_iconst (v := (0 : Int32)) hx hb dX10_thumbDoes_139 (by decide) ?_
          exact x_iretR G hr hlk h dX10_thumbDoes_140
        · have h := h.2 c22
          refine lv_iconst (v := (2 : Int32)) hx hb dX10_thumbDoes_135 (by decide) ?_
          refine lv_goto (tgt := 140) hx hb dX10_thumbDoes_136 (by decide) ?_
          exact x_iretR G hr hlk h dX10_thumbDoes_140
      · have h := h.2 c20
        refine lv_iconst (v := (3 : Int32)) hx hb dX10_thumbDoes_121 (by decide) ?_
        refine lv_goto (tgt := 140) hx hb dX10_thumbDoes_122 (by decide) ?_
        exact x_iretR G hr hlk h dX10_thumbDoes_140
    · have h := h.2 c18
      refine lv_iconst (v := (0 : Int32)) hx hb dX10_thumbDoes_107 (by decide) ?_
      refine lv_goto (tgt := 140) hx hb dX10_thumbDoes_108 (by decide) ?_
      exact x_iretR G hr hlk h dX10_thumbDoes_140
  have J_99 : ∀ (_ : Unit), ∀ (_ : bk_X10_thumbDoes_99 post X v0 v1 v2 v3 v4  ), ∀ ls, lv_has ls 6 [(0, .ref v0), (1, .int v1), (3, .int v3)] → W p l e (rmO 2 0 0 45) s m [Value.ref v0, Value.int v1, Value.int v2, Value.int v3, Value.int v4].toArray below meth c s.heap [] 0 0 (MQ below (vp_Si post) [Value.ref v0, Value.int v1, Value.int v2, Value.int v3, Value.int v4].toArray s 0 0 (fun _ => False)) (F0 m 99 ls []) := by
    intro _ h ls hl
    unfold bk_X10_thumbDoes_99 at h
    refine lv_iconst (v := (0 : Int32)) hx hb dX10_thumbDoes_99 (by decide) ?_
    exact J_100 _ h ls (lv_sub hl [0, 1, 2] rfl)
  have J_78 : ∀ (_ : Unit), ∀ (_ : bk_X10_thumbDoes_78 post X v0 v1 v2 v3 v4  ), ∀ ls, lv_has ls 6 [(0, .ref v0), (1, .int v1), (3, .int v3)] → W p l e (rmO 2 0 0 45) s m [Value.ref v0, Value.int v1, Value.int v2, Value.int v3, Value.int v4].toArray below meth c s.heap [] 0 0 (MQ below (vp_Si post) [Value.ref v0, Value.int v1, Value.int v2, Value.int v3, Value.int v4].toArray s 0 0 (fun _ => False)) (F0 m 78 ls []) := by
    intro _ h ls hl
    unfold bk_X10_thumbDoes_78 at h
    refine lv_iconst (v := (0 : Int32)) hx hb dX10_thumbDoes_78 (by decide) ?_
    refine lv_goto (tgt := 100) hx hb dX10_thumbDoes_79 (by decide) ?_
    exact J_100 _ h ls (lv_sub hl [0, 1, 2] rfl)
  refine lv_iload_n hx hb dX10_thumbDoes_0 rfl (lv_at hl 2 rfl) ?_
  refine lv_if_ne (tgt := 27) hx hb dX10_thumbDoes_1 (by decide) (fun c1 => ?_) (fun c1 => ?_)
  · have h := h.1 c1
    refine lv_iload_n hx hb dX10_thumbDoes_27 rfl (lv_at hl 2 rfl) ?_
    refine lv_iconst (v := (1 : Int32)) hx hb dX10_thumbDoes_28 (by decide) ?_
    refine lv_icmp_ne (tgt := 47) hx hb dX10_thumbDoes_29 (by decide) (fun c2 => ?_) (fun c2 => ?_)
    · have h := h.1 c2
      refine lv_iload_n hx hb dX10_thumbDoes_47 rfl (lv_at hl 2 rfl) ?_
      refine lv_iconst (v := (2 : Int32)) hx hb dX10_thumbDoes_48 (by decide) ?_
      refine lv_icmp_ne (tgt := 82) hx hb dX10_thumbDoes_49 (by decide) (fun c3 => ?_) (fun c3 => ?_)
      · have h := h.1 c3
        refine lv_iload hx hb dX10_thumbDoes_82 (lv_at hl 4 rfl) ?_
        refine lv_iconst (v := (1 : Int32)) hx hb dX10_thumbDoes_84 (by decide) ?_
        refine lv_icmp_lt (tgt := 99) hx hb dX10_thumbDoes_85 (by decide) (fun c4 => ?_) (fun c4 => ?_)
        · have h := h.1 c4
          exact J_99 () h ls (lv_sub hl [0, 1, 3] rfl)
        · have h := h.2 c4
          refine lv_iload_n hx hb dX10_thumbDoes_88 rfl (lv_at hl 3 rfl) ?_
          refine x_cRSi (As := [.int v3]) (rest := []) G hP (c_X10_isNight l D kA _ _ v3 h) cd_X10_isNight ml_X10_97 ⟨(Nat.le_of_ble_eq_true rfl), (Nat.le_of_ble_eq_true rfl)⟩ rfl hl.1 rfl (Nat.le_of_ble_eq_true rfl) dX10_thumbDoes_89 ⟨Nat.zero_le _, Nat.zero_le _⟩ (fun r5 h => ?_)
          refine lv_if_eq (tgt := 99) hx hb dX10_thumbDoes_92 (by decide) (fun c6 => ?_) (fun c6 => ?_)
          · have h := h.1 c6
            exact J_99 () h ls (lv_sub hl [0, 1, 3] rfl)
          · have h := h.2 c6
            refine lv_iconst (v := (1 : Int32)) hx hb dX10_thumbDoes_95 (by decide) ?_
            refine lv_goto (tgt := 100) hx hb dX10_thumbDoes_96 (by decide) ?_
            exact J_100 _ h ls (lv_sub hl [0, 1, 3] rfl)
      · have h := h.2 c3
        refine lv_iload hx hb dX10_thumbDoes_52 (lv_at hl 4 rfl) ?_
        refine lv_iconst (v := (4 : Int32)) hx hb dX10_thumbDoes_54 (by decide) ?_
        refine lv_icmp_lt (tgt := 78) hx hb dX10_thumbDoes_55 (by decide) (fun c7 => ?_) (fun c7 => ?_)
        · have h := h.1 c7
          exact J_78 () h ls (lv_sub hl [0, 1, 3] rfl)
        · have h := h.2 c7
          refine lv_aload_n hx hb dX10_thumbDoes_58 rfl (lv_at hl 0 rfl) ?_
          obtain ⟨fs8, y9, hfs8, hvfs8, h⟩ := h
          refine x_get G hP hfs8 hvfs8 fl_X10_25 dX10_thumbDoes_59 ?_
          refine lv_bipush (v := (48 : Int32)) hx hb dX10_thumbDoes_62 (by decide) ?_
          refine lv_iload_n hx hb dX10_thumbDoes_64 rfl (lv_at hl 1 rfl) ?_
          refine lv_imul hx hb dX10_thumbDoes_65 ?_
          refine lv_iload_n hx hb dX10_thumbDoes_66 rfl (lv_at hl 3 rfl) ?_
          refine lv_iadd hx hb dX10_thumbDoes_67 ?_
          obtain ⟨n10, f11, hf11, hif11, h⟩ := h
          refine x_iald G hP hf11 hif11 dX10_thumbDoes_68 ?_
          refine lv_bipush (v := (50 : Int32)) hx hb dX10_thumbDoes_69 (by decide) ?_
          refine lv_icmp_ge (tgt := 78) hx hb dX10_thumbDoes_71 (by decide) (fun c12 => ?_) (fun c12 => ?_)
          · have h := h.1 c12
            exact J_78 () h ls (lv_sub hl [0, 1, 3] rfl)
          · have h := h.2 c12
            refine lv_iconst (v := (1 : Int32)) hx hb dX10_thumbDoes_74 (by decide) ?_
            refine lv_goto (tgt := 100) hx hb dX10_thumbDoes_75 (by decide) ?_
            exact J_100 _ h ls (lv_sub hl [0, 1, 3] rfl)
    · have h := h.2 c2
      refine lv_iload hx hb dX10_thumbDoes_32 (lv_at hl 4 rfl) ?_
      refine lv_bipush (v := (8 : Int32)) hx hb dX10_thumbDoes_34 (by decide) ?_
      refine lv_icmp_lt (tgt := 43) hx hb dX10_thumbDoes_36 (by decide) (fun c13 => ?_) (fun c13 => ?_)
      · have h := h.1 c13
        refine lv_iconst (v := (0 : Int32)) hx hb dX10_thumbDoes_43 (by decide) ?_
        refine lv_goto (tgt := 100) hx hb dX10_thumbDoes_44 (by decide) ?_
        exact J_100 _ h ls (lv_sub hl [0, 1, 3] rfl)
      · have h := h.2 c13
        refine lv_iconst (v := (1 : Int32)) hx hb dX10_thumbDoes_39 (by decide) ?_
        refine lv_goto (tgt := 100) hx hb dX10_thumbDoes_40 (by decide) ?_
        exact J_100 _ h ls (lv_sub hl [0, 1, 3] rfl)
  · have h := h.2 c1
    refine lv_iload_n hx hb dX10_thumbDoes_4 rfl (lv_at hl 3 rfl) ?_
    refine lv_iconst (v := (2 : Int32)) hx hb dX10_thumbDoes_5 (by decide) ?_
    refine lv_irem hx hb dX10_thumbDoes_6 (by decide) ?_
    refine lv_iconst (v := (1 : Int32)) hx hb dX10_thumbDoes_7 (by decide) ?_
    refine lv_icmp_ne (tgt := 25) hx hb dX10_thumbDoes_8 (by decide) (fun c14 => ?_) (fun c14 => ?_)
    · have h := h.1 c14
      refine lv_iconst (v := (0 : Int32)) hx hb dX10_thumbDoes_25 (by decide) ?_
      exact x_iretR G hr hlk h dX10_thumbDoes_26
    · have h := h.2 c14
      refine lv_aload_n hx hb dX10_thumbDoes_11 rfl (lv_at hl 0 rfl) ?_
      refine lv_iload_n hx hb dX10_thumbDoes_12 rfl (lv_at hl 1 rfl) ?_
      refine lv_iload_n hx hb dX10_thumbDoes_13 rfl (lv_at hl 3 rfl) ?_
      refine lv_iconst (v := (1 : Int32)) hx hb dX10_thumbDoes_14 (by decide) ?_
      obtain ⟨fs17, hfs17, h⟩ := h
      refine x_cRVi (As := [.int v1, .int v3, .int (1 : Int32)]) (rest := []) G hP hfs17 rfl rfl (c_X10_canBe l D kA _ _ v0 v1 v3 (1 : Int32) h) cd_X10_canBe ml_X10_115 ⟨(Nat.le_of_ble_eq_true rfl), (Nat.le_of_ble_eq_true rfl)⟩ rfl hl.1 rfl (Nat.le_of_ble_eq_true rfl) dX10_thumbDoes_15 ⟨Nat.zero_le _, Nat.zero_le _⟩ (fun r15 h => ?_)
      refine lv_if_eq (tgt := 25) hx hb dX10_thumbDoes_18 (by decide) (fun c16 => ?_) (fun c16 => ?_)
      · have h := h.1 c16
        refine lv_iconst (v := (0 : Int32)) hx hb dX10_thumbDoes_25 (by decide) ?_
        exact x_iretR G hr hlk h dX10_thumbDoes_26
      · have h := h.2 c16
        refine lv_iconst (v := (1 : Int32)) hx hb dX10_thumbDoes_21 (by decide) ?_
        refine lv_goto (tgt := 26) hx hb dX10_thumbDoes_22 (by decide) ?_
        exact x_iretR G hr hlk h dX10_thumbDoes_26
def bk_X10_thumbAll_20 (post : Hp → Prop) (v0 : Nat) (v1 : Int32) (v2 : Int32) (v3 : Int32)  : Nat → Hp → Prop
  | 0, _ => False
  | k + 1, X => ∃ (fs10 : List Value) (y11 : Int32), Hs X v0 (.inr (10, fs10)) ∧ fs10[17]? = some (.int y11) ∧ ∃ (fs12 : List Value) (y13 : Nat), Hs X v0 (.inr (10, fs12)) ∧ fs12[4]? = some (.ref y13) ∧ ∃ (n14 : Nat) (f15 : Nat → Int32), Hs X y13 (.inl (0, n14, .inl f15)) ∧ vp_in v1 n14 ∧ ((f15 v1.toNatClampNeg) ≤ y11 → post X) ∧ (¬ (f15 v1.toNatClampNeg) ≤ y11 → ∃ (fs17 : List Value) (y18 : Int32), Hs X v0 (.inr (10, fs17)) ∧ fs17[17]? = some (.int y18) ∧ ∃ (fs19 : List Value) (y20 : Int32), Hs X v0 (.inr (10, fs19)) ∧ fs19[16]? = some (.int y20) ∧ ∃ fs25 : List Value, Hs X v0 (.inr (10, fs25)) ∧ wp_X10_thumbDoes (fun r21 => ∃ fs24 : List Value, Hs X v0 (.inr (10, fs24)) ∧ wp_X10_doThing (fun r23 X22 => (bk_X10_thumbAll_20 post v0 v1 v2 v3 k) X22) X v0 v1 r21 (0 : Int32)) X v0 v1 v2 y18 y20)
def wp_X10_thumbAll (post : Hp → Prop) (X : Hp) (v0 : Nat) (v1 : Int32) (v2 : Int32) (v3 : Int32) : Prop := ∃ (fs1 : List Value), Hs X v0 (.inr (10, fs1)) ∧ 14 < fs1.length ∧ ∀ X2 : Hp, X2 = hput X v0 (.inr (10, fs1.set 14 (.int (0 : Int32)))) → ∃ (fs3 : List Value), Hs X2 v0 (.inr (10, fs3)) ∧ 16 < fs3.length ∧ ∀ X4 : Hp, X4 = hput X2 v0 (.inr (10, fs3.set 16 (.int v3))) → ∃ (fs5 : List Value), Hs X4 v0 (.inr (10, fs5)) ∧ 17 < fs5.length ∧ ∀ X6 : Hp, X6 = hput X4 v0 (.inr (10, fs5.set 17 (.int (0 : Int32)))) → ∃ (fs7 : List Value), Hs X6 v0 (.inr (10, fs7)) ∧ 18 < fs7.length ∧ ∀ X8 : Hp, X8 = hput X6 v0 (.inr (10, fs7.set 18 (.int (0 : Int32)))) → ∃ n9 : Nat, bk_X10_thumbAll_20 post v0 v1 v2 v3 n9 X8
set_option maxHeartbeats 4000000 in
set_option maxRecDepth 100000 in
theorem c_X10_thumbAll (l : Launch) (D : va_G) (kA : Nat → ClassId) (post : Hp → Prop) (X : Hp) (sz : Nat) (v0 : Nat) (v1 : Int32) (v2 : Int32) (v3 : Int32) (h : wp_X10_thumbAll post X v0 v1 v2 v3) : Met l yX10_thumbAll (.code yX10_thumbAll cX10_thumbAll 4 none :: gd) (rmO 3 0 0 72) (va_Pc [Value.ref v0, Value.int v1, Value.int v2, Value.int v3] (PreM D kA X sz)) (va_Qv post (PoM D kA X sz) (va_A (hw kA X) sz)) 0 0 (va_A (hw kA X) sz) := by
  unfold wp_X10_thumbAll at h
  refine x_enM (by decide) (Nat.le_of_ble_eq_true rfl) ?_
  intro p e s m below meth c G hr hlk hin hsz hA S ls hl
  obtain ⟨hx, hb, hml, hown, hts, hE, hK⟩ := id G
  have hl : lv_has ls 4 [(0, .ref v0), (1, .int v1), (2, .int v2), (3, .int v3)] := hl
  obtain ⟨X0, hX0⟩ : ∃ Y : Hp, Y = X := ⟨_, rfl⟩
  subst hX0
  have J_20 : ∀ (n : Nat) (X : Hp), ∀ (H : Heap) (locs : List Loc) (_ : bk_X10_thumbAll_20 post v0 v1 v2 v3  n X), Sx D kA (va_A (hw kA X0) sz) s.heap H locs X → ∀ ls, lv_has ls 4 [(0, .ref v0), (1, .int v1), (2, .int v2)] → W p l e (rmO 3 0 0 72) s m [Value.ref v0, Value.int v1, Value.int v2, Value.int v3].toArray below meth c H locs 0 0 (MQ below (va_Qv post (PoM D kA X0 sz) (va_A (hw kA X0) sz)) [Value.ref v0, Value.int v1, Value.int v2, Value.int v3].toArray s 0 0 (va_A (hw kA X0) sz)) (F0 m 20 ls []) := by
    intro n
    induction n with
    | zero =>
      intro X H locs h S ls hl
      rw [bk_X10_thumbAll_20] at h
      exact h.elim
    | succ n_20 ih_20 =>
      intro X H locs h S ls hl
      rw [bk_X10_thumbAll_20] at h
      refine lv_aload_n hx hb dX10_thumbAll_20 rfl (lv_at hl 0 rfl) ?_
      obtain ⟨fs10, y11, hfs10, hvfs10, h⟩ := h
      refine x_get G S.1 hfs10 hvfs10 fl_X10_138 dX10_thumbAll_21 ?_
      refine lv_aload_n hx hb dX10_thumbAll_24 rfl (lv_at hl 0 rfl) ?_
      obtain ⟨fs12, y13, hfs12, hvfs12, h⟩ := h
      refine x_get G S.1 hfs12 hvfs12 fl_X10_22 dX10_thumbAll_25 ?_
      refine lv_iload_n hx hb dX10_thumbAll_28 rfl (lv_at hl 1 rfl) ?_
      obtain ⟨n14, f15, hf15, hif15, h⟩ := h
      refine x_iald G S.1 hf15 hif15 dX10_thumbAll_29 ?_
      refine lv_icmp_ge (tgt := 57) hx hb dX10_thumbAll_30 (by decide) (fun c16 => ?_) (fun c16 => ?_)
      · have h := h.1 c16
        exact x_vretM G hr hlk S (Nat.le_refl _) (Nat.le_refl _) h dX10_thumbAll_57
      · have h := h.2 c16
        refine lv_aload_n hx hb dX10_thumbAll_33 rfl (lv_at hl 0 rfl) ?_
        refine lv_iload_n hx hb dX10_thumbAll_34 rfl (lv_at hl 1 rfl) ?_
        refine lv_aload_n hx hb dX10_thumbAll_35 rfl (lv_at hl 0 rfl) ?_
        refine lv_iload_n hx hb dX10_thumbAll_36 rfl (lv_at hl 1 rfl) ?_
        refine lv_iload_n hx hb dX10_thumbAll_37 rfl (lv_at hl 2 rfl) ?_
        refine lv_aload_n hx hb dX10_thumbAll_38 rfl (lv_at hl 0 rfl) ?_
        obtain ⟨fs17, y18, hfs17, hvfs17, h⟩ := h
        refine x_get G S.1 hfs17 hvfs17 fl_X10_138 dX10_thumbAll_39 ?_
        refine lv_aload_n hx hb dX10_thumbAll_42 rfl (lv_at hl 0 rfl) ?_
        obtain ⟨fs19, y20, hfs19, hvfs19, h⟩ := h
        refine x_get G S.1 hfs19 hvfs19 fl_X10_144 dX10_thumbAll_43 ?_
        obtain ⟨fs25, hfs25, h⟩ := h
        refine x_cRVi (As := [.int v1, .int v2, .int y18, .int y20]) (rest := [.int v1, .ref v0]) G S.1 hfs25 rfl rfl (c_X10_thumbDoes l D kA _ _ v0 v1 v2 y18 y20 h) cd_X10_thumbDoes ml_X10_203 ⟨(Nat.le_of_ble_eq_true rfl), (Nat.le_of_ble_eq_true rfl)⟩ rfl hl.1 rfl (Nat.le_of_ble_eq_true rfl) dX10_thumbAll_46 ⟨Nat.zero_le _, Nat.zero_le _⟩ (fun r21 h => ?_)
        refine lv_iconst (v := (0 : Int32)) hx hb dX10_thumbAll_49 (by decide) ?_
        obtain ⟨fs24, hfs24, h⟩ := h
        refine x_cMVi (As := [.int v1, .int r21, .int (0 : Int32)]) (rest := []) G S hA hfs24 rfl rfl (c_X10_doThing l D kA _ _ _ v0 v1 r21 (0 : Int32) h) cd_X10_doThing ml_X10_154 ⟨(Nat.le_of_ble_eq_true rfl), (Nat.le_of_ble_eq_true rfl)⟩ rfl hl.1 rfl (Nat.le_of_ble_eq_true rfl) dX10_thumbAll_50 ⟨Nat.zero_le _, Nat.zero_le _⟩ (fun r23 X H locs h S => ?_)
        refine lv_pop hx hb dX10_thumbAll_53 rfl ?_
        refine lv_goto (tgt := 20) hx hb dX10_thumbAll_54 (by decide) ?_
        exact ih_20 _ _ _ h S ls (lv_sub hl [0, 1, 2] rfl)
  refine lv_aload_n hx hb dX10_thumbAll_0 rfl (lv_at hl 0 rfl) ?_
  refine lv_iconst (v := (0 : Int32)) hx hb dX10_thumbAll_1 (by decide) ?_
  obtain ⟨fs1, hfs1, hkfs1, h⟩ := h
  have h := h _ rfl
  refine x_put G S hfs1 hkfs1 rfl rfl fw_X10_135 dX10_thumbAll_2 (fun H locs S => ?_)
  refine lv_aload_n hx hb dX10_thumbAll_5 rfl (lv_at hl 0 rfl) ?_
  refine lv_iload_n hx hb dX10_thumbAll_6 rfl (lv_at hl 3 rfl) ?_
  obtain ⟨fs3, hfs3, hkfs3, h⟩ := h
  have h := h _ rfl
  refine x_put G S hfs3 hkfs3 rfl rfl fw_X10_144 dX10_thumbAll_7 (fun H locs S => ?_)
  refine lv_aload_n hx hb dX10_thumbAll_10 rfl (lv_at hl 0 rfl) ?_
  refine lv_iconst (v := (0 : Int32)) hx hb dX10_thumbAll_11 (by decide) ?_
  obtain ⟨fs5, hfs5, hkfs5, h⟩ := h
  have h := h _ rfl
  refine x_put G S hfs5 hkfs5 rfl rfl fw_X10_138 dX10_thumbAll_12 (fun H locs S => ?_)
  refine lv_aload_n hx hb dX10_thumbAll_15 rfl (lv_at hl 0 rfl) ?_
  refine lv_iconst (v := (0 : Int32)) hx hb dX10_thumbAll_16 (by decide) ?_
  obtain ⟨fs7, hfs7, hkfs7, h⟩ := h
  have h := h _ rfl
  refine x_put G S hfs7 hkfs7 rfl rfl fw_X10_141 dX10_thumbAll_17 (fun H locs S => ?_)
  obtain ⟨n9, h⟩ := h
  exact J_20 n9 _ _ _ h S ls (lv_sub hl [0, 1, 2] rfl)
def wp_X10_thumb (post : Int32 → Hp → Prop) (X : Hp) (v0 : Nat) (v1 : Int32) (v2 : Int32) (v3 : Int32) (v4 : Int32) : Prop := wp_X10_isWay (fun r1 => (¬ r1 = 0 → wp_X10_in (fun r3 => (r3 = 0 → post (-2 : Int32) X) ∧ (¬ r3 = 0 → wp_X10_isOwed (fun r5 => (r5 = 0 → post (-2 : Int32) X) ∧ (¬ r5 = 0 → wp_X10_in (fun r7 => (¬ r7 = 0 → ∃ fs19 : List Value, Hs X v0 (.inr (10, fs19)) ∧ wp_X10_thumbAll (fun X9 => ∃ fs18 : List Value, Hs X9 v0 (.inr (10, fs18)) ∧ wp_X10_safeOfTimes (fun r10 => (¬ v4 = 0 → (¬ v4 = (1 : Int32) → ∃ (fs13 : List Value) (y14 : Int32), Hs X9 v0 (.inr (10, fs13)) ∧ fs13[16]? = some (.int y14) ∧ post y14 X9) ∧ (v4 = (1 : Int32) → ∃ fs17 : List Value, Hs X9 v0 (.inr (10, fs17)) ∧ wp_X10_bestOf (fun r16 X15 => post (r16 - r10) X15)  X9 v0 v1 (0 : Int32) v3 (0 : Int32) (4 : Int32))) ∧ (v4 = 0 → post r10 X9))  X9 v0)  X v0 v1 v2 v3) ∧ (r7 = 0 → post (-2 : Int32) X))  X (v4.toInt64) (0 : Int64) (2 : Int64)))  X v3))  X (v2.toInt64) (0 : Int64) (3 : Int64)) ∧ (r1 = 0 → post (-1 : Int32) X))  X v1
set_option maxHeartbeats 4000000 in
set_option maxRecDepth 100000 in
theorem c_X10_thumb (l : Launch) (D : va_G) (kA : Nat → ClassId) (post : Int32 → Hp → Prop) (X : Hp) (sz : Nat) (v0 : Nat) (v1 : Int32) (v2 : Int32) (v3 : Int32) (v4 : Int32) (h : wp_X10_thumb post X v0 v1 v2 v3 v4) : Met l yX10_thumb (.code yX10_thumb cX10_thumb 6 (some .int) :: gd) (rmO 5 0 0 137) (va_Pc [Value.ref v0, Value.int v1, Value.int v2, Value.int v3, Value.int v4] (PreM D kA X sz)) (va_Qi post (PoM D kA X sz) (va_A (hw kA X) sz)) 0 0 (va_A (hw kA X) sz) := by
  unfold wp_X10_thumb at h
  refine x_enM (by decide) (Nat.le_of_ble_eq_true rfl) ?_
  intro p e s m below meth c G hr hlk hin hsz hA S ls hl
  obtain ⟨hx, hb, hml, hown, hts, hE, hK⟩ := id G
  have hl : lv_has ls 6 [(0, .ref v0), (1, .int v1), (2, .int v2), (3, .int v3), (4, .int v4)] := hl
  refine lv_iload_n hx hb dX10_thumb_0 rfl (lv_at hl 1 rfl) ?_
  refine x_cRSi (As := [.int v1]) (rest := []) G S.1 (c_X10_isWay l D kA _ _ v1 h) cd_X10_isWay ml_X10_74 ⟨(Nat.le_of_ble_eq_true rfl), (Nat.le_of_ble_eq_true rfl)⟩ rfl hl.1 rfl (Nat.le_of_ble_eq_true rfl) dX10_thumb_1 ⟨Nat.zero_le _, Nat.zero_le _⟩ (fun r1 h => ?_)
  refine lv_if_ne (tgt := 9) hx hb dX10_thumb_4 (by decide) (fun c2 => ?_) (fun c2 => ?_)
  · have h := h.1 c2
    refine lv_iload_n hx hb dX10_thumb_9 rfl (lv_at hl 2 rfl) ?_
    refine lv_i2l (v := v2.toInt64) hx hb dX10_thumb_10 rfl ?_
    refine lv_lconst (v := (0 : Int64)) hx hb dX10_thumb_11 (by decide) ?_
    refine lv_ldc2 hx hb hown (hts _ kc_X10_87) dX10_thumb_12 ?_
    refine x_cRSi (As := [.long (v2.toInt64), .long (0 : Int64), .long (3 : Int64)]) (rest := []) G S.1 (c_X10_in l D kA _ _ (v2.toInt64) (0 : Int64) (3 : Int64) h) cd_X10_in ml_X10_66 ⟨(Nat.le_of_ble_eq_true rfl), (Nat.le_of_ble_eq_true rfl)⟩ rfl hl.1 rfl (Nat.le_of_ble_eq_true rfl) dX10_thumb_15 ⟨Nat.zero_le _, Nat.zero_le _⟩ (fun r3 h => ?_)
    refine lv_if_eq (tgt := 41) hx hb dX10_thumb_18 (by decide) (fun c4 => ?_) (fun c4 => ?_)
    · have h := h.1 c4
      refine lv_bipush (v := (-2 : Int32)) hx hb dX10_thumb_41 (by decide) ?_
      exact x_iretM G hr hlk S (Nat.le_refl _) (Nat.le_refl _) h dX10_thumb_43
    · have h := h.2 c4
      refine lv_iload_n hx hb dX10_thumb_21 rfl (lv_at hl 3 rfl) ?_
      refine x_cRSi (As := [.int v3]) (rest := []) G S.1 (c_X10_isOwed l D kA _ _ v3 h) cd_X10_isOwed ml_X10_110 ⟨(Nat.le_of_ble_eq_true rfl), (Nat.le_of_ble_eq_true rfl)⟩ rfl hl.1 rfl (Nat.le_of_ble_eq_true rfl) dX10_thumb_22 ⟨Nat.zero_le _, Nat.zero_le _⟩ (fun r5 h => ?_)
      refine lv_if_eq (tgt := 41) hx hb dX10_thumb_25 (by decide) (fun c6 => ?_) (fun c6 => ?_)
      · have h := h.1 c6
        refine lv_bipush (v := (-2 : Int32)) hx hb dX10_thumb_41 (by decide) ?_
        exact x_iretM G hr hlk S (Nat.le_refl _) (Nat.le_refl _) h dX10_thumb_43
      · have h := h.2 c6
        refine lv_iload hx hb dX10_thumb_28 (lv_at hl 4 rfl) ?_
        refine lv_i2l (v := v4.toInt64) hx hb dX10_thumb_30 rfl ?_
        refine lv_lconst (v := (0 : Int64)) hx hb dX10_thumb_31 (by decide) ?_
        refine lv_ldc2 hx hb hown (hts _ kc_X10_206) dX10_thumb_32 ?_
        refine x_cRSi (As := [.long (v4.toInt64), .long (0 : Int64), .long (2 : Int64)]) (rest := []) G S.1 (c_X10_in l D kA _ _ (v4.toInt64) (0 : Int64) (2 : Int64) h) cd_X10_in ml_X10_66 ⟨(Nat.le_of_ble_eq_true rfl), (Nat.le_of_ble_eq_true rfl)⟩ rfl hl.1 rfl (Nat.le_of_ble_eq_true rfl) dX10_thumb_35 ⟨Nat.zero_le _, Nat.zero_le _⟩ (fun r7 h => ?_)
        refine lv_if_ne (tgt := 44) hx hb dX10_thumb_38 (by decide) (fun c8 => ?_) (fun c8 => ?_)
        · have h := h.1 c8
          refine lv_aload_n hx hb dX10_thumb_44 rfl (lv_at hl 0 rfl) ?_
          refine lv_iload_n hx hb dX10_thumb_45 rfl (lv_at hl 1 rfl) ?_
          refine lv_iload_n hx hb dX10_thumb_46 rfl (lv_at hl 2 rfl) ?_
          refine lv_iload_n hx hb dX10_thumb_47 rfl (lv_at hl 3 rfl) ?_
          obtain ⟨fs19, hfs19, h⟩ := h
          refine x_cMVv (As := [.int v1, .int v2, .int v3]) (rest := []) G S hA hfs19 rfl rfl (c_X10_thumbAll l D kA _ _ _ v0 v1 v2 v3 h) cd_X10_thumbAll ml_X10_208 ⟨(Nat.le_of_ble_eq_true rfl), (Nat.le_of_ble_eq_true rfl)⟩ rfl hl.1 rfl (Nat.le_of_ble_eq_true rfl) dX10_thumb_48 ⟨Nat.zero_le _, Nat.zero_le _⟩ (fun X H locs h S => ?_)
          refine lv_aload_n hx hb dX10_thumb_51 rfl (lv_at hl 0 rfl) ?_
          obtain ⟨fs18, hfs18, h⟩ := h
          refine x_cRVi (As := []) (rest := []) G S.1 hfs18 rfl rfl (c_X10_safeOfTimes l D kA _ _ v0 h) cd_X10_safeOfTimes ml_X10_173 ⟨(Nat.le_of_ble_eq_true rfl), (Nat.le_of_ble_eq_true rfl)⟩ rfl hl.1 rfl (Nat.le_of_ble_eq_true rfl) dX10_thumb_52 ⟨Nat.zero_le _, Nat.zero_le _⟩ (fun r10 h => ?_)
          refine lv_istore (lv' := [(5, .int r10), (0, .ref v0), (1, .int v1), (2, .int v2), (3, .int v3), (4, .int v4)]) hx hb dX10_thumb_55 hl (by decide) rfl (fun ls hl => ?_)
          refine lv_iload hx hb dX10_thumb_57 (lv_at hl 5 rfl) ?_
          refine lv_if_ne (tgt := 67) hx hb dX10_thumb_59 (by decide) (fun c11 => ?_) (fun c11 => ?_)
          · have h := h.1 c11
            refine lv_iload hx hb dX10_thumb_67 (lv_at hl 5 rfl) ?_
            refine lv_iconst (v := (1 : Int32)) hx hb dX10_thumb_69 (by decide) ?_
            refine lv_icmp_ne (tgt := 88) hx hb dX10_thumb_70 (by decide) (fun c12 => ?_) (fun c12 => ?_)
            · have h := h.1 c12
              refine lv_aload_n hx hb dX10_thumb_88 rfl (lv_at hl 1 rfl) ?_
              obtain ⟨fs13, y14, hfs13, hvfs13, h⟩ := h
              refine x_get G S.1 hfs13 hvfs13 fl_X10_144 dX10_thumb_89 ?_
              exact x_iretM G hr hlk S (Nat.le_refl _) (Nat.le_refl _) h dX10_thumb_92
            · have h := h.2 c12
              refine lv_aload_n hx hb dX10_thumb_73 rfl (lv_at hl 1 rfl) ?_
              refine lv_iload_n hx hb dX10_thumb_74 rfl (lv_at hl 2 rfl) ?_
              refine lv_iconst (v := (0 : Int32)) hx hb dX10_thumb_75 (by decide) ?_
              refine lv_iload_n hx hb dX10_thumb_76 rfl (lv_at hl 4 rfl) ?_
              refine lv_iconst (v := (0 : Int32)) hx hb dX10_thumb_77 (by decide) ?_
              refine lv_iconst (v := (4 : Int32)) hx hb dX10_thumb_78 (by decide) ?_
              obtain ⟨fs17, hfs17, h⟩ := h
              refine x_cMVi (As := [.int v1, .int (0 : Int32), .int v3, .int (0 : Int32), .int (4 : Int32)]) (rest := []) G S hA hfs17 rfl rfl (c_X10_bestOf l D kA _ _ _ v0 v1 (0 : Int32) v3 (0 : Int32) (4 : Int32) h) cd_X10_bestOf ml_X10_193 ⟨(Nat.le_of_ble_eq_true rfl), (Nat.le_of_ble_eq_true rfl)⟩ rfl hl.1 rfl (Nat.le_of_ble_eq_true rfl) dX10_thumb_79 ⟨Nat.zero_le _, Nat.zero_le _⟩ (fun r16 X H locs h S => ?_)
              refine lv_iload hx hb dX10_thumb_82 (lv_at hl 0 rfl) ?_
              refine lv_isub hx hb dX10_thumb_84 ?_
              refine lv_goto (tgt := 92) hx hb dX10_thumb_85 (by decide) ?_
              exact x_iretM G hr hlk S (Nat.le_refl _) (Nat.le_refl _) h dX10_thumb_92
          · have h := h.2 c11
            refine lv_iload hx hb dX10_thumb_62 (lv_at hl 0 rfl) ?_
            refine lv_goto (tgt := 92) hx hb dX10_thumb_64 (by decide) ?_
            exact x_iretM G hr hlk S (Nat.le_refl _) (Nat.le_refl _) h dX10_thumb_92
        · have h := h.2 c8
          refine lv_bipush (v := (-2 : Int32)) hx hb dX10_thumb_41 (by decide) ?_
          exact x_iretM G hr hlk S (Nat.le_refl _) (Nat.le_refl _) h dX10_thumb_43
  · have h := h.2 c2
    refine lv_iconst (v := (-1 : Int32)) hx hb dX10_thumb_7 (by decide) ?_
    exact x_iretM G hr hlk S (Nat.le_refl _) (Nat.le_refl _) h dX10_thumb_8
def wp_X10_worth (post : Int32 → Hp → Prop) (X : Hp) (v0 : Nat) (v1 : Int32) (v2 : Int32) (v3 : Int32) (v4 : Int32) : Prop := wp_X10_isWay (fun r1 => (¬ r1 = 0 → wp_X10_isOwed (fun r3 => (r3 = 0 → post (-2 : Int32) X) ∧ (¬ r3 = 0 → wp_X10_isBattery (fun r5 => (r5 = 0 → post (-2 : Int32) X) ∧ (¬ r5 = 0 → wp_X10_isBattery (fun r7 => (r7 = 0 → post (-2 : Int32) X) ∧ (¬ r7 = 0 → ((v3 + v4) ≤ (24 : Int32) → ∃ fs15 : List Value, Hs X v0 (.inr (10, fs15)) ∧ wp_X10_bestOf (fun r11 X10 => ∃ fs14 : List Value, Hs X10 v0 (.inr (10, fs14)) ∧ wp_X10_bestOf (fun r13 X12 => post (r11 - r13) X12)  X10 v0 v1 (0 : Int32) v2 v3 (4 : Int32))  X v0 v1 (0 : Int32) v2 (v3 + v4) (4 : Int32)) ∧ (¬ (v3 + v4) ≤ (24 : Int32) → post (-2 : Int32) X)))  X v4))  X v3))  X v2) ∧ (r1 = 0 → post (-1 : Int32) X))  X v1
set_option maxHeartbeats 4000000 in
set_option maxRecDepth 100000 in
theorem c_X10_worth (l : Launch) (D : va_G) (kA : Nat → ClassId) (post : Int32 → Hp → Prop) (X : Hp) (sz : Nat) (v0 : Nat) (v1 : Int32) (v2 : Int32) (v3 : Int32) (v4 : Int32) (h : wp_X10_worth post X v0 v1 v2 v3 v4) : Met l yX10_worth (.code yX10_worth cX10_worth 5 (some .int) :: gd) (rmO 5 0 0 137) (va_Pc [Value.ref v0, Value.int v1, Value.int v2, Value.int v3, Value.int v4] (PreM D kA X sz)) (va_Qi post (PoM D kA X sz) (va_A (hw kA X) sz)) 0 0 (va_A (hw kA X) sz) := by
  unfold wp_X10_worth at h
  refine x_enM (by decide) (Nat.le_of_ble_eq_true rfl) ?_
  intro p e s m below meth c G hr hlk hin hsz hA S ls hl
  obtain ⟨hx, hb, hml, hown, hts, hE, hK⟩ := id G
  have hl : lv_has ls 5 [(0, .ref v0), (1, .int v1), (2, .int v2), (3, .int v3), (4, .int v4)] := hl
  refine lv_iload_n hx hb dX10_worth_0 rfl (lv_at hl 1 rfl) ?_
  refine x_cRSi (As := [.int v1]) (rest := []) G S.1 (c_X10_isWay l D kA _ _ v1 h) cd_X10_isWay ml_X10_74 ⟨(Nat.le_of_ble_eq_true rfl), (Nat.le_of_ble_eq_true rfl)⟩ rfl hl.1 rfl (Nat.le_of_ble_eq_true rfl) dX10_worth_1 ⟨Nat.zero_le _, Nat.zero_le _⟩ (fun r1 h => ?_)
  refine lv_if_ne (tgt := 9) hx hb dX10_worth_4 (by decide) (fun c2 => ?_) (fun c2 => ?_)
  · have h := h.1 c2
    refine lv_iload_n hx hb dX10_worth_9 rfl (lv_at hl 2 rfl) ?_
    refine x_cRSi (As := [.int v2]) (rest := []) G S.1 (c_X10_isOwed l D kA _ _ v2 h) cd_X10_isOwed ml_X10_110 ⟨(Nat.le_of_ble_eq_true rfl), (Nat.le_of_ble_eq_true rfl)⟩ rfl hl.1 rfl (Nat.le_of_ble_eq_true rfl) dX10_worth_10 ⟨Nat.zero_le _, Nat.zero_le _⟩ (fun r3 h => ?_)
    refine lv_if_eq (tgt := 40) hx hb dX10_worth_13 (by decide) (fun c4 => ?_) (fun c4 => ?_)
    · have h := h.1 c4
      refine lv_bipush (v := (-2 : Int32)) hx hb dX10_worth_40 (by decide) ?_
      exact x_iretM G hr hlk S (Nat.le_refl _) (Nat.le_refl _) h dX10_worth_42
    · have h := h.2 c4
      refine lv_iload_n hx hb dX10_worth_16 rfl (lv_at hl 3 rfl) ?_
      refine x_cRSi (As := [.int v3]) (rest := []) G S.1 (c_X10_isBattery l D kA _ _ v3 h) cd_X10_isBattery ml_X10_161 ⟨(Nat.le_of_ble_eq_true rfl), (Nat.le_of_ble_eq_true rfl)⟩ rfl hl.1 rfl (Nat.le_of_ble_eq_true rfl) dX10_worth_17 ⟨Nat.zero_le _, Nat.zero_le _⟩ (fun r5 h => ?_)
      refine lv_if_eq (tgt := 40) hx hb dX10_worth_20 (by decide) (fun c6 => ?_) (fun c6 => ?_)
      · have h := h.1 c6
        refine lv_bipush (v := (-2 : Int32)) hx hb dX10_worth_40 (by decide) ?_
        exact x_iretM G hr hlk S (Nat.le_refl _) (Nat.le_refl _) h dX10_worth_42
      · have h := h.2 c6
        refine lv_iload hx hb dX10_worth_23 (lv_at hl 4 rfl) ?_
        refine x_cRSi (As := [.int v4]) (rest := []) G S.1 (c_X10_isBattery l D kA _ _ v4 h) cd_X10_isBattery ml_X10_161 ⟨(Nat.le_of_ble_eq_true rfl), (Nat.le_of_ble_eq_true rfl)⟩ rfl hl.1 rfl (Nat.le_of_ble_eq_true rfl) dX10_worth_25 ⟨Nat.zero_le _, Nat.zero_le _⟩ (fun r7 h => ?_)
        refine lv_if_eq (tgt := 40) hx hb dX10_worth_28 (by decide) (fun c8 => ?_) (fun c8 => ?_)
        · have h := h.1 c8
          refine lv_bipush (v := (-2 : Int32)) hx hb dX10_worth_40 (by decide) ?_
          exact x_iretM G hr hlk S (Nat.le_refl _) (Nat.le_refl _) h dX10_worth_42
        · have h := h.2 c8
          refine lv_iload_n hx hb dX10_worth_31 rfl (lv_at hl 3 rfl) ?_
          refine lv_iload hx hb dX10_worth_32 (lv_at hl 4 rfl) ?_
          refine lv_iadd hx hb dX10_worth_34 ?_
          refine lv_bipush (v := (24 : Int32)) hx hb dX10_worth_35 (by decide) ?_
          refine lv_icmp_le (tgt := 43) hx hb dX10_worth_37 (by decide) (fun c9 => ?_) (fun c9 => ?_)
          · have h := h.1 c9
            refine lv_aload_n hx hb dX10_worth_43 rfl (lv_at hl 0 rfl) ?_
            refine lv_iload_n hx hb dX10_worth_44 rfl (lv_at hl 1 rfl) ?_
            refine lv_iconst (v := (0 : Int32)) hx hb dX10_worth_45 (by decide) ?_
            refine lv_iload_n hx hb dX10_worth_46 rfl (lv_at hl 2 rfl) ?_
            refine lv_iload_n hx hb dX10_worth_47 rfl (lv_at hl 3 rfl) ?_
            refine lv_iload hx hb dX10_worth_48 (lv_at hl 4 rfl) ?_
            refine lv_iadd hx hb dX10_worth_50 ?_
            refine lv_iconst (v := (4 : Int32)) hx hb dX10_worth_51 (by decide) ?_
            obtain ⟨fs15, hfs15, h⟩ := h
            refine x_cMVi (As := [.int v1, .int (0 : Int32), .int v2, .int (v3 + v4), .int (4 : Int32)]) (rest := []) G S hA hfs15 rfl rfl (c_X10_bestOf l D kA _ _ _ v0 v1 (0 : Int32) v2 (v3 + v4) (4 : Int32) h) cd_X10_bestOf ml_X10_193 ⟨(Nat.le_of_ble_eq_true rfl), (Nat.le_of_ble_eq_true rfl)⟩ rfl hl.1 rfl (Nat.le_of_ble_eq_true rfl) dX10_worth_52 ⟨Nat.zero_le _, Nat.zero_le _⟩ (fun r11 X H locs h S => ?_)
            refine lv_aload_n hx hb dX10_worth_55 rfl (lv_at hl 0 rfl) ?_
            refine lv_iload_n hx hb dX10_worth_56 rfl (lv_at hl 1 rfl) ?_
            refine lv_iconst (v := (0 : Int32)) hx hb dX10_worth_57 (by decide) ?_
            refine lv_iload_n hx hb dX10_worth_58 rfl (lv_at hl 2 rfl) ?_
            refine lv_iload_n hx hb dX10_worth_59 rfl (lv_at hl 3 rfl) ?_
            refine lv_iconst (v := (4 : Int32)) hx hb dX10_worth_60 (by decide) ?_
            obtain ⟨fs14, hfs14, h⟩ := h
            refine x_cMVi (As := [.int v1, .int (0 : Int32), .int v2, .int v3, .int (4 : Int32)]) (rest := [.int r11]) G S hA hfs14 rfl rfl (c_X10_bestOf l D kA _ _ _ v0 v1 (0 : Int32) v2 v3 (4 : Int32) h) cd_X10_bestOf ml_X10_193 ⟨(Nat.le_of_ble_eq_true rfl), (Nat.le_of_ble_eq_true rfl)⟩ rfl hl.1 rfl (Nat.le_of_ble_eq_true rfl) dX10_worth_61 ⟨Nat.zero_le _, Nat.zero_le _⟩ (fun r13 X H locs h S => ?_)
            refine lv_isub hx hb dX10_worth_64 ?_
            exact x_iretM G hr hlk S (Nat.le_refl _) (Nat.le_refl _) h dX10_worth_65
          · have h := h.2 c9
            refine lv_bipush (v := (-2 : Int32)) hx hb dX10_worth_40 (by decide) ?_
            exact x_iretM G hr hlk S (Nat.le_refl _) (Nat.le_refl _) h dX10_worth_42
  · have h := h.2 c2
    refine lv_iconst (v := (-1 : Int32)) hx hb dX10_worth_7 (by decide) ?_
    exact x_iretM G hr hlk S (Nat.le_refl _) (Nat.le_refl _) h dX10_worth_8
def wp_X10_round (post : Int32 → Hp → Prop) (X : Hp) (v0 : Nat) (v1 : Int32) (v2 : Int32) : Prop := wp_X10_isOwed (fun r1 => (r1 = 0 → post (-2 : Int32) X) ∧ (¬ r1 = 0 → wp_X10_isBattery (fun r3 => (¬ r3 = 0 → ∃ fs11 : List Value, Hs X v0 (.inr (10, fs11)) ∧ wp_X10_bestOf (fun r6 X5 => ∃ fs10 : List Value, Hs X5 v0 (.inr (10, fs10)) ∧ wp_X10_bestOf (fun r8 X7 => (r6 ≤ r8 → post (0 : Int32) X7) ∧ (¬ r6 ≤ r8 → post (1 : Int32) X7))  X5 v0 (0 : Int32) (0 : Int32) v1 v2 (4 : Int32))  X v0 (1 : Int32) (0 : Int32) v1 v2 (4 : Int32)) ∧ (r3 = 0 → post (-2 : Int32) X))  X v2))  X v1
set_option maxHeartbeats 4000000 in
set_option maxRecDepth 100000 in
theorem c_X10_round (l : Launch) (D : va_G) (kA : Nat → ClassId) (post : Int32 → Hp → Prop) (X : Hp) (sz : Nat) (v0 : Nat) (v1 : Int32) (v2 : Int32) (h : wp_X10_round post X v0 v1 v2) : Met l yX10_round (.code yX10_round cX10_round 3 (some .int) :: gd) (rmO 5 0 0 137) (va_Pc [Value.ref v0, Value.int v1, Value.int v2] (PreM D kA X sz)) (va_Qi post (PoM D kA X sz) (va_A (hw kA X) sz)) 0 0 (va_A (hw kA X) sz) := by
  unfold wp_X10_round at h
  refine x_enM (by decide) (Nat.le_of_ble_eq_true rfl) ?_
  intro p e s m below meth c G hr hlk hin hsz hA S ls hl
  obtain ⟨hx, hb, hml, hown, hts, hE, hK⟩ := id G
  have hl : lv_has ls 3 [(0, .ref v0), (1, .int v1), (2, .int v2)] := hl
  refine lv_iload_n hx hb dX10_round_0 rfl (lv_at hl 1 rfl) ?_
  refine x_cRSi (As := [.int v1]) (rest := []) G S.1 (c_X10_isOwed l D kA _ _ v1 h) cd_X10_isOwed ml_X10_110 ⟨(Nat.le_of_ble_eq_true rfl), (Nat.le_of_ble_eq_true rfl)⟩ rfl hl.1 rfl (Nat.le_of_ble_eq_true rfl) dX10_round_1 ⟨Nat.zero_le _, Nat.zero_le _⟩ (fun r1 h => ?_)
  refine lv_if_eq (tgt := 14) hx hb dX10_round_4 (by decide) (fun c2 => ?_) (fun c2 => ?_)
  · have h := h.1 c2
    refine lv_bipush (v := (-2 : Int32)) hx hb dX10_round_14 (by decide) ?_
    exact x_iretM G hr hlk S (Nat.le_refl _) (Nat.le_refl _) h dX10_round_16
  · have h := h.2 c2
    refine lv_iload_n hx hb dX10_round_7 rfl (lv_at hl 2 rfl) ?_
    refine x_cRSi (As := [.int v2]) (rest := []) G S.1 (c_X10_isBattery l D kA _ _ v2 h) cd_X10_isBattery ml_X10_161 ⟨(Nat.le_of_ble_eq_true rfl), (Nat.le_of_ble_eq_true rfl)⟩ rfl hl.1 rfl (Nat.le_of_ble_eq_true rfl) dX10_round_8 ⟨Nat.zero_le _, Nat.zero_le _⟩ (fun r3 h => ?_)
    refine lv_if_ne (tgt := 17) hx hb dX10_round_11 (by decide) (fun c4 => ?_) (fun c4 => ?_)
    · have h := h.1 c4
      refine lv_aload_n hx hb dX10_round_17 rfl (lv_at hl 0 rfl) ?_
      refine lv_iconst (v := (1 : Int32)) hx hb dX10_round_18 (by decide) ?_
      refine lv_iconst (v := (0 : Int32)) hx hb dX10_round_19 (by decide) ?_
      refine lv_iload_n hx hb dX10_round_20 rfl (lv_at hl 1 rfl) ?_
      refine lv_iload_n hx hb dX10_round_21 rfl (lv_at hl 2 rfl) ?_
      refine lv_iconst (v := (4 : Int32)) hx hb dX10_round_22 (by decide) ?_
      obtain ⟨fs11, hfs11, h⟩ := h
      refine x_cMVi (As := [.int (1 : Int32), .int (0 : Int32), .int v1, .int v2, .int (4 : Int32)]) (rest := []) G S hA hfs11 rfl rfl (c_X10_bestOf l D kA _ _ _ v0 (1 : Int32) (0 : Int32) v1 v2 (4 : Int32) h) cd_X10_bestOf ml_X10_193 ⟨(Nat.le_of_ble_eq_true rfl), (Nat.le_of_ble_eq_true rfl)⟩ rfl hl.1 rfl (Nat.le_of_ble_eq_true rfl) dX10_round_23 ⟨Nat.zero_le _, Nat.zero_le _⟩ (fun r6 X H locs h S => ?_)
      refine lv_aload_n hx hb dX10_round_26 rfl (lv_at hl 0 rfl) ?_
      refine lv_iconst (v := (0 : Int32)) hx hb dX10_round_27 (by decide) ?_
      refine lv_iconst (v := (0 : Int32)) hx hb dX10_round_28 (by decide) ?_
      refine lv_iload_n hx hb dX10_round_29 rfl (lv_at hl 1 rfl) ?_
      refine lv_iload_n hx hb dX10_round_30 rfl (lv_at hl 2 rfl) ?_
      refine lv_iconst (v := (4 : Int32)) hx hb dX10_round_31 (by decide) ?_
      obtain ⟨fs10, hfs10, h⟩ := h
      refine x_cMVi (As := [.int (0 : Int32), .int (0 : Int32), .int v1, .int v2, .int (4 : Int32)]) (rest := [.int r6]) G S hA hfs10 rfl rfl (c_X10_bestOf l D kA _ _ _ v0 (0 : Int32) (0 : Int32) v1 v2 (4 : Int32) h) cd_X10_bestOf ml_X10_193 ⟨(Nat.le_of_ble_eq_true rfl), (Nat.le_of_ble_eq_true rfl)⟩ rfl hl.1 rfl (Nat.le_of_ble_eq_true rfl) dX10_round_32 ⟨Nat.zero_le _, Nat.zero_le _⟩ (fun r8 X H locs h S => ?_)
      refine lv_icmp_le (tgt := 42) hx hb dX10_round_35 (by decide) (fun c9 => ?_) (fun c9 => ?_)
      · have h := h.1 c9
        refine lv_iconst (v := (0 : Int32)) hx hb dX10_round_42 (by decide) ?_
        exact x_iretM G hr hlk S (Nat.le_refl _) (Nat.le_refl _) h dX10_round_43
      · have h := h.2 c9
        refine lv_iconst (v := (1 : Int32)) hx hb dX10_round_38 (by decide) ?_
        refine lv_goto (tgt := 43) hx hb dX10_round_39 (by decide) ?_
        exact x_iretM G hr hlk S (Nat.le_refl _) (Nat.le_refl _) h dX10_round_43
    · have h := h.2 c4
      refine lv_bipush (v := (-2 : Int32)) hx hb dX10_round_14 (by decide) ?_
      exact x_iretM G hr hlk S (Nat.le_refl _) (Nat.le_refl _) h dX10_round_16
def bk_X10_soonest_42 (post : Int32 → Hp → Prop) (v0 : Nat) (v1 : Int32) (v2 : Int32) (v3 : Int32) (v4 : Int32)  : Nat → Hp → Int32 → Prop
  | 0, _, _ => False
  | k + 1, X, b42_5 => ((4 : Int32) < b42_5 → post (-6 : Int32) X) ∧ (¬ (4 : Int32) < b42_5 → ∃ fs19 : List Value, Hs X v0 (.inr (10, fs19)) ∧ wp_X10_bestOf (fun r12 X11 => (r12 < v4 → ∀ x14 : Int32, x14 = b42_5 + (1 : Int32) → (bk_X10_soonest_42 post v0 v1 v2 v3 v4 k) X11 x14) ∧ (¬ r12 < v4 → ∃ (fs15 : List Value) (y16 : Nat), Hs X11 v0 (.inr (10, fs15)) ∧ fs15[4]? = some (.ref y16) ∧ ∃ (n17 : Nat) (f18 : Nat → Int32), Hs X11 y16 (.inl (0, n17, .inl f18)) ∧ vp_in v1 n17 ∧ post ((f18 v1.toNatClampNeg) + b42_5) X11)) X v0 v1 (0 : Int32) v2 v3 b42_5)
def wp_X10_soonest (post : Int32 → Hp → Prop) (X : Hp) (v0 : Nat) (v1 : Int32) (v2 : Int32) (v3 : Int32) (v4 : Int32) : Prop := wp_X10_isWay (fun r1 => (¬ r1 = 0 → wp_X10_isOwed (fun r3 => (r3 = 0 → post (-2 : Int32) X) ∧ (¬ r3 = 0 → wp_X10_isBattery (fun r5 => (r5 = 0 → post (-2 : Int32) X) ∧ (¬ r5 = 0 → wp_X10_in (fun r7 => (¬ r7 = 0 → ∃ n9 : Nat, bk_X10_soonest_42 post v0 v1 v2 v3 v4 n9 X (0 : Int32)) ∧ (r7 = 0 → post (-2 : Int32) X))  X (v4.toInt64) (0 : Int64) (1000000 : Int64)))  X v3))  X v2) ∧ (r1 = 0 → post (-1 : Int32) X))  X v1
set_option maxHeartbeats 4000000 in
set_option maxRecDepth 100000 in
theorem c_X10_soonest (l : Launch) (D : va_G) (kA : Nat → ClassId) (post : Int32 → Hp → Prop) (X : Hp) (sz : Nat) (v0 : Nat) (v1 : Int32) (v2 : Int32) (v3 : Int32) (v4 : Int32) (h : wp_X10_soonest post X v0 v1 v2 v3 v4) : Met l yX10_soonest (.code yX10_soonest cX10_soonest 6 (some .int) :: gd) (rmO 5 0 0 137) (va_Pc [Value.ref v0, Value.int v1, Value.int v2, Value.int v3, Value.int v4] (PreM D kA X sz)) (va_Qi post (PoM D kA X sz) (va_A (hw kA X) sz)) 0 0 (va_A (hw kA X) sz) := by
  unfold wp_X10_soonest at h
  refine x_enM (by decide) (Nat.le_of_ble_eq_true rfl) ?_
  intro p e s m below meth c G hr hlk hin hsz hA S ls hl
  obtain ⟨hx, hb, hml, hown, hts, hE, hK⟩ := id G
  have hl : lv_has ls 6 [(0, .ref v0), (1, .int v1), (2, .int v2), (3, .int v3), (4, .int v4)] := hl
  obtain ⟨X0, hX0⟩ : ∃ Y : Hp, Y = X := ⟨_, rfl⟩
  subst hX0
  have J_42 : ∀ (n : Nat) (X : Hp) (b42_5 : Int32), ∀ (H : Heap) (locs : List Loc) (_ : bk_X10_soonest_42 post v0 v1 v2 v3 v4  n X b42_5), Sx D kA (va_A (hw kA X0) sz) s.heap H locs X → ∀ ls, lv_has ls 6 [(0, .ref v0), (1, .int v1), (2, .int v2), (3, .int v3), (4, .int v4), (5, .int b42_5)] → W p l e (rmO 5 0 0 137) s m [Value.ref v0, Value.int v1, Value.int v2, Value.int v3, Value.int v4].toArray below meth c H locs 0 0 (MQ below (va_Qi post (PoM D kA X0 sz) (va_A (hw kA X0) sz)) [Value.ref v0, Value.int v1, Value.int v2, Value.int v3, Value.int v4].toArray s 0 0 (va_A (hw kA X0) sz)) (F0 m 42 ls []) := by
    intro n
    induction n with
    | zero =>
      intro X b42_5 H locs h S ls hl
      rw [bk_X10_soonest_42] at h
      exact h.elim
    | succ n_42 ih_42 =>
      intro X b42_5 H locs h S ls hl
      rw [bk_X10_soonest_42] at h
      refine lv_iload hx hb dX10_soonest_42 (lv_at hl 5 rfl) ?_
      refine lv_iconst (v := (4 : Int32)) hx hb dX10_soonest_44 (by decide) ?_
      refine lv_icmp_gt (tgt := 79) hx hb dX10_soonest_45 (by decide) (fun c10 => ?_) (fun c10 => ?_)
      · have h := h.1 c10
        refine lv_bipush (v := (-6 : Int32)) hx hb dX10_soonest_79 (by decide) ?_
        exact x_iretM G hr hlk S (Nat.le_refl _) (Nat.le_refl _) h dX10_soonest_81
      · have h := h.2 c10
        refine lv_aload_n hx hb dX10_soonest_48 rfl (lv_at hl 0 rfl) ?_
        refine lv_iload_n hx hb dX10_soonest_49 rfl (lv_at hl 1 rfl) ?_
        refine lv_iconst (v := (0 : Int32)) hx hb dX10_soonest_50 (by decide) ?_
        refine lv_iload_n hx hb dX10_soonest_51 rfl (lv_at hl 2 rfl) ?_
        refine lv_iload_n hx hb dX10_soonest_52 rfl (lv_at hl 3 rfl) ?_
        refine lv_iload hx hb dX10_soonest_53 (lv_at hl 5 rfl) ?_
        obtain ⟨fs19, hfs19, h⟩ := h
        refine x_cMVi (As := [.int v1, .int (0 : Int32), .int v2, .int v3, .int b42_5]) (rest := []) G S hA hfs19 rfl rfl (c_X10_bestOf l D kA _ _ _ v0 v1 (0 : Int32) v2 v3 b42_5 h) cd_X10_bestOf ml_X10_193 ⟨(Nat.le_of_ble_eq_true rfl), (Nat.le_of_ble_eq_true rfl)⟩ rfl hl.1 rfl (Nat.le_of_ble_eq_true rfl) dX10_soonest_55 ⟨Nat.zero_le _, Nat.zero_le _⟩ (fun r12 X H locs h S => ?_)
        refine lv_iload hx hb dX10_soonest_58 (lv_at hl 4 rfl) ?_
        refine lv_icmp_lt (tgt := 73) hx hb dX10_soonest_60 (by decide) (fun c13 => ?_) (fun c13 => ?_)
        · have h := h.1 c13
          obtain ⟨x14, ex14⟩ : ∃ y : Int32, y = b42_5 + (1 : Int32) := ⟨_, rfl⟩
          have h := h x14 ex14
          refine lv_iinc (v := x14) (lv' := [(5, .int x14), (0, .ref v0), (1, .int v1), (2, .int v2), (3, .int v3), (4, .int v4)]) hx hb dX10_soonest_73 hl (k := 5) rfl (by rw [ex14]; rfl) (by decide) rfl (fun ls hl => ?_)
          refine lv_goto (tgt := 42) hx hb dX10_soonest_76 (by decide) ?_
          exact ih_42 _ _ _ _ h S ls (lv_sub hl [1, 2, 3, 4, 5, 0] rfl)
        · have h := h.2 c13
          refine lv_aload_n hx hb dX10_soonest_63 rfl (lv_at hl 0 rfl) ?_
          obtain ⟨fs15, y16, hfs15, hvfs15, h⟩ := h
          refine x_get G S.1 hfs15 hvfs15 fl_X10_22 dX10_soonest_64 ?_
          refine lv_iload_n hx hb dX10_soonest_67 rfl (lv_at hl 1 rfl) ?_
          obtain ⟨n17, f18, hf18, hif18, h⟩ := h
          refine x_iald G S.1 hf18 hif18 dX10_soonest_68 ?_
          refine lv_iload hx hb dX10_soonest_69 (lv_at hl 5 rfl) ?_
          refine lv_iadd hx hb dX10_soonest_71 ?_
          exact x_iretM G hr hlk S (Nat.le_refl _) (Nat.le_refl _) h dX10_soonest_72
  refine lv_iload_n hx hb dX10_soonest_0 rfl (lv_at hl 1 rfl) ?_
  refine x_cRSi (As := [.int v1]) (rest := []) G S.1 (c_X10_isWay l D kA _ _ v1 h) cd_X10_isWay ml_X10_74 ⟨(Nat.le_of_ble_eq_true rfl), (Nat.le_of_ble_eq_true rfl)⟩ rfl hl.1 rfl (Nat.le_of_ble_eq_true rfl) dX10_soonest_1 ⟨Nat.zero_le _, Nat.zero_le _⟩ (fun r1 h => ?_)
  refine lv_if_ne (tgt := 9) hx hb dX10_soonest_4 (by decide) (fun c2 => ?_) (fun c2 => ?_)
  · have h := h.1 c2
    refine lv_iload_n hx hb dX10_soonest_9 rfl (lv_at hl 2 rfl) ?_
    refine x_cRSi (As := [.int v2]) (rest := []) G S.1 (c_X10_isOwed l D kA _ _ v2 h) cd_X10_isOwed ml_X10_110 ⟨(Nat.le_of_ble_eq_true rfl), (Nat.le_of_ble_eq_true rfl)⟩ rfl hl.1 rfl (Nat.le_of_ble_eq_true rfl) dX10_soonest_10 ⟨Nat.zero_le _, Nat.zero_le _⟩ (fun r3 h => ?_)
    refine lv_if_eq (tgt := 36) hx hb dX10_soonest_13 (by decide) (fun c4 => ?_) (fun c4 => ?_)
    · have h := h.1 c4
      refine lv_bipush (v := (-2 : Int32)) hx hb dX10_soonest_36 (by decide) ?_
      exact x_iretM G hr hlk S (Nat.le_refl _) (Nat.le_refl _) h dX10_soonest_38
    · have h := h.2 c4
      refine lv_iload_n hx hb dX10_soonest_16 rfl (lv_at hl 3 rfl) ?_
      refine x_cRSi (As := [.int v3]) (rest := []) G S.1 (c_X10_isBattery l D kA _ _ v3 h) cd_X10_isBattery ml_X10_161 ⟨(Nat.le_of_ble_eq_true rfl), (Nat.le_of_ble_eq_true rfl)⟩ rfl hl.1 rfl (Nat.le_of_ble_eq_true rfl) dX10_soonest_17 ⟨Nat.zero_le _, Nat.zero_le _⟩ (fun r5 h => ?_)
      refine lv_if_eq (tgt := 36) hx hb dX10_soonest_20 (by decide) (fun c6 => ?_) (fun c6 => ?_)
      · have h := h.1 c6
        refine lv_bipush (v := (-2 : Int32)) hx hb dX10_soonest_36 (by decide) ?_
        exact x_iretM G hr hlk S (Nat.le_refl _) (Nat.le_refl _) h dX10_soonest_38
      · have h := h.2 c6
        refine lv_iload hx hb dX10_soonest_23 (lv_at hl 4 rfl) ?_
        refine lv_i2l (v := v4.toInt64) hx hb dX10_soonest_25 rfl ?_
        refine lv_lconst (v := (0 : Int64)) hx hb dX10_soonest_26 (by decide) ?_
        refine lv_ldc2 hx hb hown (hts _ kc_X10_105) dX10_soonest_27 ?_
        refine x_cRSi (As := [.long (v4.toInt64), .long (0 : Int64), .long (1000000 : Int64)]) (rest := []) G S.1 (c_X10_in l D kA _ _ (v4.toInt64) (0 : Int64) (1000000 : Int64) h) cd_X10_in ml_X10_66 ⟨(Nat.le_of_ble_eq_true rfl), (Nat.le_of_ble_eq_true rfl)⟩ rfl hl.1 rfl (Nat.le_of_ble_eq_true rfl) dX10_soonest_30 ⟨Nat.zero_le _, Nat.zero_le _⟩ (fun r7 h => ?_)
        refine lv_if_ne (tgt := 39) hx hb dX10_soonest_33 (by decide) (fun c8 => ?_) (fun c8 => ?_)
        · have h := h.1 c8
          refine lv_iconst (v := (0 : Int32)) hx hb dX10_soonest_39 (by decide) ?_
          refine lv_istore (lv' := [(5, .int (0 : Int32)), (0, .ref v0), (1, .int v1), (2, .int v2), (3, .int v3), (4, .int v4)]) hx hb dX10_soonest_40 hl (by decide) rfl (fun ls hl => ?_)
          obtain ⟨n9, h⟩ := h
          exact J_42 n9 _ _ _ _ h S ls (lv_sub hl [1, 2, 3, 4, 5, 0] rfl)
        · have h := h.2 c8
          refine lv_bipush (v := (-2 : Int32)) hx hb dX10_soonest_36 (by decide) ?_
          exact x_iretM G hr hlk S (Nat.le_refl _) (Nat.le_refl _) h dX10_soonest_38
  · have h := h.2 c2
    refine lv_iconst (v := (-1 : Int32)) hx hb dX10_soonest_7 (by decide) ?_
    exact x_iretM G hr hlk S (Nat.le_refl _) (Nat.le_refl _) h dX10_soonest_8
def bk_X10_twoOf_183 (post : Int32 → Hp → Prop) (v0 : Nat) (v1 : Int32) (v2 : Int32) (v3 : Int32) (r_22 : Hp → Int32 → Prop) (X : Hp) (b183_4 : Int32) (b183_s0 : Int32) (b183_s1 : Int32) (b183_s2 : Nat) : Prop := ∃ (n68 : Nat) (f69 : Nat → Int32), Hs X b183_s2 (.inl (0, n68, .inl f69)) ∧ vp_in b183_s1 n68 ∧ ∀ X70 : Hp, X70 = hput X b183_s2 (.inl (0, n68, .inl (upd f69 b183_s1.toNatClampNeg b183_s0))) → ∀ x71 : Int32, x71 = b183_4 + (1 : Int32) → r_22 X70 x71
def bk_X10_twoOf_93 (post : Int32 → Hp → Prop) (v0 : Nat) (v1 : Int32) (v2 : Int32) (v3 : Int32) (r_22 : Hp → Int32 → Prop) (X : Hp) (b93_4 : Int32) (b93_5 : Int32) (b93_6 : Int32) (b93_s0 : Int32) : Prop := ∃ fs67 : List Value, Hs X v0 (.inr (10, fs67)) ∧ wp_X10_blindOf (fun r42 => ∃ fs66 : List Value, Hs X v0 (.inr (10, fs66)) ∧ wp_X10_passHour (fun X43 => ∃ (fs44 : List Value) (y45 : Nat), Hs X43 v0 (.inr (10, fs44)) ∧ fs44[21]? = some (.ref y45) ∧ ∃ (fs46 : List Value) (y47 : Nat), Hs X43 v0 (.inr (10, fs46)) ∧ fs46[21]? = some (.ref y47) ∧ ∃ (n48 : Nat) (f49 : Nat → Int32), Hs X43 y47 (.inl (0, n48, .inl f49)) ∧ vp_in b93_5 n48 ∧ ∃ fs65 : List Value, Hs X43 v0 (.inr (10, fs65)) ∧ wp_X10_owedBehind (fun r50 => ∃ (n51 : Nat) (f52 : Nat → Int32), Hs X43 y45 (.inl (0, n51, .inl f52)) ∧ vp_in b93_5 n51 ∧ ∀ X53 : Hp, X53 = hput X43 y45 (.inl (0, n51, .inl (upd f52 b93_5.toNatClampNeg r50))) → ∃ (fs54 : List Value) (y55 : Nat), Hs X53 v0 (.inr (10, fs54)) ∧ fs54[21]? = some (.ref y55) ∧ ∃ (n56 : Nat) (f57 : Nat → Int32), Hs X53 y55 (.inl (0, n56, .inl f57)) ∧ vp_in ((1 : Int32) - b93_5) n56 ∧ ∀ x58 : Int32, x58 = (f57 ((1 : Int32) - b93_5).toNatClampNeg) → ∃ (fs59 : List Value) (y60 : Nat), Hs X53 v0 (.inr (10, fs59)) ∧ fs59[21]? = some (.ref y60) ∧ (b93_6 = 0 → ((2 : Int32) ≤ x58 → bk_X10_twoOf_183 post v0 v1 v2 v3 r_22 X53 b93_4 ((x58 - (2 : Int32))) (((1 : Int32) - b93_5)) y60) ∧ (¬ (2 : Int32) ≤ x58 → bk_X10_twoOf_183 post v0 v1 v2 v3 r_22 X53 b93_4 (0 : Int32) (((1 : Int32) - b93_5)) y60)) ∧ (¬ b93_6 = 0 → ∃ fs64 : List Value, Hs X53 v0 (.inr (10, fs64)) ∧ wp_X10_owedBehind (fun r63 => bk_X10_twoOf_183 post v0 v1 v2 v3 r_22 X53 b93_4 r63 (((1 : Int32) - b93_5)) y60)  X53 v0 v1 b93_4 x58 (0 : Int32)))  X43 v0 v1 b93_4 (f49 b93_5.toNatClampNeg) (0 : Int32))  X v0 v1 b93_4 r42)  X v0 b93_s0 (0 : Int32) (0 : Int32)
def bk_X10_twoOf_74 (post : Int32 → Hp → Prop) (v0 : Nat) (v1 : Int32) (v2 : Int32) (v3 : Int32) (r_22 : Hp → Int32 → Prop) (X : Hp) (b74_4 : Int32) (b74_5 : Int32) (b74_6 : Int32) : Prop := ∃ (fs38 : List Value) (y39 : Nat), Hs X v0 (.inr (10, fs38)) ∧ fs38[21]? = some (.ref y39) ∧ ∃ (n40 : Nat) (f41 : Nat → Int32), Hs X y39 (.inl (0, n40, .inl f41)) ∧ vp_in b74_5 n40 ∧ bk_X10_twoOf_93 post v0 v1 v2 v3 r_22 X b74_4 b74_5 b74_6 ((f41 b74_5.toNatClampNeg))
def bk_X10_twoOf_22 (post : Int32 → Hp → Prop) (v0 : Nat) (v1 : Int32) (v2 : Int32) (v3 : Int32)  : Nat → Hp → Int32 → Prop
  | 0, _, _ => False
  | k + 1, X, b22_4 => ∃ (fs14 : List Value) (y15 : Nat), Hs X v0 (.inr (10, fs14)) ∧ fs14[4]? = some (.ref y15) ∧ ∃ (n16 : Nat) (f17 : Nat → Int32), Hs X y15 (.inl (0, n16, .inl f17)) ∧ vp_in v1 n16 ∧ ((f17 v1.toNatClampNeg) ≤ b22_4 → ∃ fs20 : List Value, Hs X v0 (.inr (10, fs20)) ∧ wp_X10_safeOfTimes (fun r19 => post r19 X) X v0) ∧ (¬ (f17 v1.toNatClampNeg) ≤ b22_4 → ¬ v3 = 0 ∧ ∀ x21 : Int32, x21 = ((b22_4 / v3) - (b22_4 / v3) / (2 : Int32) * (2 : Int32)) → ∃ fs37 : List Value, Hs X v0 (.inr (10, fs37)) ∧ wp_X10_isSquall (fun r22 => (r22 = 0 → bk_X10_twoOf_74 post v0 v1 v2 v3 (bk_X10_twoOf_22 post v0 v1 v2 v3 k) X b22_4 x21 r22) ∧ (¬ r22 = 0 → ∃ (fs24 : List Value) (y25 : Nat), Hs X v0 (.inr (10, fs24)) ∧ fs24[21]? = some (.ref y25) ∧ ∃ (n26 : Nat) (f27 : Nat → Int32), Hs X y25 (.inl (0, n26, .inl f27)) ∧ vp_in x21 n26 ∧ ∃ (fs28 : List Value) (y29 : Nat), Hs X v0 (.inr (10, fs28)) ∧ fs28[21]? = some (.ref y29) ∧ ∃ (n30 : Nat) (f31 : Nat → Int32), Hs X y29 (.inl (0, n30, .inl f31)) ∧ vp_in ((1 : Int32) - x21) n30 ∧ ((f31 ((1 : Int32) - x21).toNatClampNeg) ≤ (f27 x21.toNatClampNeg) → ∃ (fs33 : List Value) (y34 : Nat), Hs X v0 (.inr (10, fs33)) ∧ fs33[21]? = some (.ref y34) ∧ ∃ (n35 : Nat) (f36 : Nat → Int32), Hs X y34 (.inl (0, n35, .inl f36)) ∧ vp_in ((1 : Int32) - x21) n35 ∧ bk_X10_twoOf_93 post v0 v1 v2 v3 (bk_X10_twoOf_22 post v0 v1 v2 v3 k) X b22_4 x21 r22 ((f36 ((1 : Int32) - x21).toNatClampNeg))) ∧ (¬ (f31 ((1 : Int32) - x21).toNatClampNeg) ≤ (f27 x21.toNatClampNeg) → bk_X10_twoOf_74 post v0 v1 v2 v3 (bk_X10_twoOf_22 post v0 v1 v2 v3 k) X b22_4 x21 r22))) X v0 v1 b22_4)
def wp_X10_twoOf (post : Int32 → Hp → Prop) (X : Hp) (v0 : Nat) (v1 : Int32) (v2 : Int32) (v3 : Int32) : Prop := ∃ (fs1 : List Value) (y2 : Nat), Hs X v0 (.inr (10, fs1)) ∧ fs1[21]? = some (.ref y2) ∧ ∃ (n3 : Nat) (f4 : Nat → Int32), Hs X y2 (.inl (0, n3, .inl f4)) ∧ vp_in (0 : Int32) n3 ∧ ∀ X5 : Hp, X5 = hput X y2 (.inl (0, n3, .inl (upd f4 (0 : Int32).toNatClampNeg v2))) → ∃ (fs6 : List Value) (y7 : Nat), Hs X5 v0 (.inr (10, fs6)) ∧ fs6[21]? = some (.ref y7) ∧ ∃ (n8 : Nat) (f9 : Nat → Int32), Hs X5 y7 (.inl (0, n8, .inl f9)) ∧ vp_in (1 : Int32) n8 ∧ ∀ X10 : Hp, X10 = hput X5 y7 (.inl (0, n8, .inl (upd f9 (1 : Int32).toNatClampNeg v2))) → ∃ (fs11 : List Value), Hs X10 v0 (.inr (10, fs11)) ∧ 14 < fs11.length ∧ ∀ X12 : Hp, X12 = hput X10 v0 (.inr (10, fs11.set 14 (.int (0 : Int32)))) → ∃ n13 : Nat, bk_X10_twoOf_22 post v0 v1 v2 v3 n13 X12 (0 : Int32)
set_option maxHeartbeats 4000000 in
set_option maxRecDepth 100000 in
theorem c_X10_twoOf (l : Launch) (D : va_G) (kA : Nat → ClassId) (post : Int32 → Hp → Prop) (X : Hp) (sz : Nat) (v0 : Nat) (v1 : Int32) (v2 : Int32) (v3 : Int32) (h : wp_X10_twoOf post X v0 v1 v2 v3) : Met l yX10_twoOf (.code yX10_twoOf cX10_twoOf 9 (some .int) :: gd) (rmO 2 0 0 47) (va_Pc [Value.ref v0, Value.int v1, Value.int v2, Value.int v3] (PreM D kA X sz)) (va_Qi post (PoM D kA X sz) (va_A (hw kA X) sz)) 0 0 (va_A (hw kA X) sz) := by
  unfold wp_X10_twoOf at h
  refine x_enM (by decide) (Nat.le_of_ble_eq_true rfl) ?_
  intro p e s m below meth c G hr hlk hin hsz hA S ls hl
  obtain ⟨hx, hb, hml, hown, hts, hE, hK⟩ := id G
  have hl : lv_has ls 9 [(0, .ref v0), (1, .int v1), (2, .int v2), (3, .int v3)] := hl
  obtain ⟨X0, hX0⟩ : ∃ Y : Hp, Y = X := ⟨_, rfl⟩
  subst hX0
  have J_22 : ∀ (n : Nat) (X : Hp) (b22_4 : Int32), ∀ (H : Heap) (locs : List Loc) (_ : bk_X10_twoOf_22 post v0 v1 v2 v3  n X b22_4), Sx D kA (va_A (hw kA X0) sz) s.heap H locs X → ∀ ls, lv_has ls 9 [(0, .ref v0), (1, .int v1), (3, .int v3), (4, .int b22_4)] → W p l e (rmO 2 0 0 47) s m [Value.ref v0, Value.int v1, Value.int v2, Value.int v3].toArray below meth c H locs 0 0 (MQ below (va_Qi post (PoM D kA X0 sz) (va_A (hw kA X0) sz)) [Value.ref v0, Value.int v1, Value.int v2, Value.int v3].toArray s 0 0 (va_A (hw kA X0) sz)) (F0 m 22 ls []) := by
    intro n
    induction n with
    | zero =>
      intro X b22_4 H locs h S ls hl
      rw [bk_X10_twoOf_22] at h
      exact h.elim
    | succ n_22 ih_22 =>
      have J_183 : ∀ (X : Hp) (b183_4 : Int32) (b183_s0 : Int32) (b183_s1 : Int32) (b183_s2 : Nat), ∀ (H : Heap) (locs : List Loc) (_ : bk_X10_twoOf_183 post v0 v1 v2 v3 (bk_X10_twoOf_22 post v0 v1 v2 v3 n_22) X b183_4 b183_s0 b183_s1 b183_s2), Sx D kA (va_A (hw kA X0) sz) s.heap H locs X → ∀ ls, lv_has ls 9 [(0, .ref v0), (1, .int v1), (3, .int v3), (4, .int b183_4)] → W p l e (rmO 2 0 0 47) s m [Value.ref v0, Value.int v1, Value.int v2, Value.int v3].toArray below meth c H locs 0 0 (MQ below (va_Qi post (PoM D kA X0 sz) (va_A (hw kA X0) sz)) [Value.ref v0, Value.int v1, Value.int v2, Value.int v3].toArray s 0 0 (va_A (hw kA X0) sz)) (F0 m 183 ls [.int b183_s0, .int b183_s1, .ref b183_s2]) := by
        intro X b183_4 b183_s0 b183_s1 b183_s2 H locs h S ls hl
        unfold bk_X10_twoOf_183 at h
        obtain ⟨n68, f69, hf69, hif69, h⟩ := h
        have h := h _ rfl
        refine x_iast G S hf69 hif69 dX10_twoOf_183 (fun H locs S => ?_)
        obtain ⟨x71, ex71⟩ : ∃ y : Int32, y = b183_4 + (1 : Int32) := ⟨_, rfl⟩
        have h := h x71 ex71
        refine lv_iinc (v := x71) (lv' := [(4, .int x71), (0, .ref v0), (1, .int v1), (3, .int v3)]) hx hb dX10_twoOf_184 hl (k := 3) rfl (by rw [ex71]; rfl) (by decide) rfl (fun ls hl => ?_)
        refine lv_goto (tgt := 22) hx hb dX10_twoOf_187 (by decide) ?_
        exact ih_22 _ _ _ _ h S ls (lv_sub hl [1, 2, 3, 0] rfl)
      have J_93 : ∀ (X : Hp) (b93_4 : Int32) (b93_5 : Int32) (b93_6 : Int32) (b93_s0 : Int32), ∀ (H : Heap) (locs : List Loc) (_ : bk_X10_twoOf_93 post v0 v1 v2 v3 (bk_X10_twoOf_22 post v0 v1 v2 v3 n_22) X b93_4 b93_5 b93_6 b93_s0), Sx D kA (va_A (hw kA X0) sz) s.heap H locs X → ∀ ls, lv_has ls 9 [(0, .ref v0), (1, .int v1), (3, .int v3), (4, .int b93_4), (5, .int b93_5), (6, .int b93_6)] → W p l e (rmO 2 0 0 47) s m [Value.ref v0, Value.int v1, Value.int v2, Value.int v3].toArray below meth c H locs 0 0 (MQ below (va_Qi post (PoM D kA X0 sz) (va_A (hw kA X0) sz)) [Value.ref v0, Value.int v1, Value.int v2, Value.int v3].toArray s 0 0 (va_A (hw kA X0) sz)) (F0 m 93 ls [.int b93_s0]) := by
        intro X b93_4 b93_5 b93_6 b93_s0 H locs h S ls hl
        unfold bk_X10_twoOf_93 at h
        refine lv_istore (lv' := [(7, .int b93_s0), (0, .ref v0), (1, .int v1), (3, .int v3), (4, .int b93_4), (5, .int b93_5), (6, .int b93_6)]) hx hb dX10_twoOf_93 hl (by decide) rfl (fun ls hl => ?_)
        refine lv_aload_n hx hb dX10_twoOf_95 rfl (lv_at hl 1 rfl) ?_
        refine lv_iload_n hx hb dX10_twoOf_96 rfl (lv_at hl 2 rfl) ?_
        refine lv_iload hx hb dX10_twoOf_97 (lv_at hl 4 rfl) ?_
        refine lv_aload_n hx hb dX10_twoOf_99 rfl (lv_at hl 1 rfl) ?_
        refine lv_iload hx hb dX10_twoOf_100 (lv_at hl 0 rfl) ?_
        refine lv_iconst (v := (0 : Int32)) hx hb dX10_twoOf_102 (by decide) ?_
        refine lv_iconst (v := (0 : Int32)) hx hb dX10_twoOf_103 (by decide) ?_
        obtain ⟨fs67, hfs67, h⟩ := h
        refine x_cRVi (As := [.int b93_s0, .int (0 : Int32), .int (0 : Int32)]) (rest := [.int b93_4, .int v1, .ref v0]) G S.1 hfs67 rfl rfl (c_X10_blindOf l D kA _ _ v0 b93_s0 (0 : Int32) (0 : Int32) h) cd_X10_blindOf ml_X10_100 ⟨(Nat.le_of_ble_eq_true rfl), (Nat.le_of_ble_eq_true rfl)⟩ rfl hl.1 rfl (Nat.le_of_ble_eq_true rfl) dX10_twoOf_104 ⟨Nat.zero_le _, Nat.zero_le _⟩ (fun r42 h => ?_)
        obtain ⟨fs66, hfs66, h⟩ := h
        refine x_cMVv (As := [.int v1, .int b93_4, .int r42]) (rest := []) G S hA hfs66 rfl rfl (c_X10_passHour l D kA _ _ _ v0 v1 b93_4 r42 h) cd_X10_passHour ml_X10_147 ⟨(Nat.le_of_ble_eq_true rfl), (Nat.le_of_ble_eq_true rfl)⟩ rfl hl.1 rfl (Nat.le_of_ble_eq_true rfl) dX10_twoOf_107 ⟨Nat.zero_le _, Nat.zero_le _⟩ (fun X H locs h S => ?_)
        refine lv_aload_n hx hb dX10_twoOf_110 rfl (lv_at hl 1 rfl) ?_
        obtain ⟨fs44, y45, hfs44, hvfs44, h⟩ := h
        refine x_get G S.1 hfs44 hvfs44 fl_X10_57 dX10_twoOf_111 ?_
        refine lv_iload hx hb dX10_twoOf_114 (lv_at hl 5 rfl) ?_
        refine lv_aload_n hx hb dX10_twoOf_116 rfl (lv_at hl 1 rfl) ?_
        refine lv_iload_n hx hb dX10_twoOf_117 rfl (lv_at hl 2 rfl) ?_
        refine lv_iload hx hb dX10_twoOf_118 (lv_at hl 4 rfl) ?_
        refine lv_aload_n hx hb dX10_twoOf_120 rfl (lv_at hl 1 rfl) ?_
        obtain ⟨fs46, y47, hfs46, hvfs46, h⟩ := h
        refine x_get G S.1 hfs46 hvfs46 fl_X10_57 dX10_twoOf_121 ?_
        refine lv_iload hx hb dX10_twoOf_124 (lv_at hl 5 rfl) ?_
        obtain ⟨n48, f49, hf49, hif49, h⟩ := h
        refine x_iald G S.1 hf49 hif49 dX10_twoOf_126 ?_
        refine lv_iconst (v := (0 : Int32)) hx hb dX10_twoOf_127 (by decide) ?_
        obtain ⟨fs65, hfs65, h⟩ := h
        refine x_cRVi (As := [.int v1, .int b93_4, .int (f49 b93_5.toNatClampNeg), .int (0 : Int32)]) (rest := [.int b93_5, .ref y45]) G S.1 hfs65 rfl rfl (c_X10_owedBehind l D kA _ _ v0 v1 b93_4 (f49 b93_5.toNatClampNeg) (0 : Int32) h) cd_X10_owedBehind ml_X10_119 ⟨(Nat.le_of_ble_eq_true rfl), (Nat.le_of_ble_eq_true rfl)⟩ rfl hl.1 rfl (Nat.le_of_ble_eq_true rfl) dX10_twoOf_128 ⟨Nat.zero_le _, Nat.zero_le _⟩ (fun r50 h => ?_)
        obtain ⟨n51, f52, hf52, hif52, h⟩ := h
        have h := h _ rfl
        refine x_iast G S hf52 hif52 dX10_twoOf_131 (fun H locs S => ?_)
        refine lv_aload_n hx hb dX10_twoOf_132 rfl (lv_at hl 1 rfl) ?_
        obtain ⟨fs54, y55, hfs54, hvfs54, h⟩ := h
        refine x_get G S.1 hfs54 hvfs54 fl_X10_57 dX10_twoOf_133 ?_
        refine lv_iconst (v := (1 : Int32)) hx hb dX10_twoOf_136 (by decide) ?_
        refine lv_iload hx hb dX10_twoOf_137 (lv_at hl 5 rfl) ?_
        refine lv_isub hx hb dX10_twoOf_139 ?_
        obtain ⟨n56, f57, hf57, hif57, h⟩ := h
        refine x_iald G S.1 hf57 hif57 dX10_twoOf_140 ?_
        refine lv_topi (fun x58 ex58 => ?_)
        have h := h x58 ex58
        refine lv_istore (lv' := [(8, .int x58), (7, .int b93_s0), (0, .ref v0), (1, .int v1), (3, .int v3), (4, .int b93_4), (5, .int b93_5), (6, .int b93_6)]) hx hb dX10_twoOf_141 hl (by decide) rfl (fun ls hl => ?_)
        refine lv_aload_n hx hb dX10_twoOf_143 rfl (lv_at hl 2 rfl) ?_
        obtain ⟨fs59, y60, hfs59, hvfs59, h⟩ := h
        refine x_get G S.1 hfs59 hvfs59 fl_X10_57 dX10_twoOf_144 ?_
        refine lv_iconst (v := (1 : Int32)) hx hb dX10_twoOf_147 (by decide) ?_
        refine lv_iload hx hb dX10_twoOf_148 (lv_at hl 6 rfl) ?_
        refine lv_isub hx hb dX10_twoOf_150 ?_
        refine lv_iload hx hb dX10_twoOf_151 (lv_at hl 7 rfl) ?_
        refine lv_if_eq (tgt := 169) hx hb dX10_twoOf_153 (by decide) (fun c61 => ?_) (fun c61 => ?_)
        · have h := h.1 c61
          refine lv_iload hx hb dX10_twoOf_169 (lv_at hl 0 rfl) ?_
          refine lv_iconst (v := (2 : Int32)) hx hb dX10_twoOf_171 (by decide) ?_
          refine lv_icmp_ge (tgt := 179) hx hb dX10_twoOf_172 (by decide) (fun c62 => ?_) (fun c62 => ?_)
          · have h := h.1 c62
            refine lv_iload hx hb dX10_twoOf_179 (lv_at hl 0 rfl) ?_
            refine lv_iconst (v := (2 : Int32)) hx hb dX10_twoOf_181 (by decide) ?_
            refine lv_isub hx hb dX10_twoOf_182 ?_
            exact J_183 _ _ _ _ _ _ _ h S ls (lv_sub hl [2, 3, 4, 5] rfl)
          · have h := h.2 c62
            refine lv_iconst (v := (0 : Int32)) hx hb dX10_twoOf_175 (by decide) ?_
            refine lv_goto (tgt := 183) hx hb dX10_twoOf_176 (by decide) ?_
            exact J_183 _ _ _ _ _ _ _ h S ls (lv_sub hl [2, 3, 4, 5] rfl)
        · have h := h.2 c61
          refine lv_aload_n hx hb dX10_twoOf_156 rfl (lv_at hl 2 rfl) ?_
          refine lv_iload_n hx hb dX10_twoOf_157 rfl (lv_at hl 3 rfl) ?_
          refine lv_iload hx hb dX10_twoOf_158 (lv_at hl 5 rfl) ?_
          refine lv_iload hx hb dX10_twoOf_160 (lv_at hl 0 rfl) ?_
          refine lv_iconst (v := (0 : Int32)) hx hb dX10_twoOf_162 (by decide) ?_
          obtain ⟨fs64, hfs64, h⟩ := h
          refine x_cRVi (As := [.int v1, .int b93_4, .int x58, .int (0 : Int32)]) (rest := [.int ((1 : Int32) - b93_5), .ref y60]) G S.1 hfs64 rfl rfl (c_X10_owedBehind l D kA _ _ v0 v1 b93_4 x58 (0 : Int32) h) cd_X10_owedBehind ml_X10_119 ⟨(Nat.le_of_ble_eq_true rfl), (Nat.le_of_ble_eq_true rfl)⟩ rfl hl.1 rfl (Nat.le_of_ble_eq_true rfl) dX10_twoOf_163 ⟨Nat.zero_le _, Nat.zero_le _⟩ (fun r63 h => ?_)
          refine lv_goto (tgt := 183) hx hb dX10_twoOf_166 (by decide) ?_
          exact J_183 _ _ _ _ _ _ _ h S ls (lv_sub hl [2, 3, 4, 5] rfl)
      have J_74 : ∀ (X : Hp) (b74_4 : Int32) (b74_5 : Int32) (b74_6 : Int32), ∀ (H : Heap) (locs : List Loc) (_ : bk_X10_twoOf_74 post v0 v1 v2 v3 (bk_X10_twoOf_22 post v0 v1 v2 v3 n_22) X b74_4 b74_5 b74_6), Sx D kA (va_A (hw kA X0) sz) s.heap H locs X → ∀ ls, lv_has ls 9 [(0, .ref v0), (1, .int v1), (3, .int v3), (4, .int b74_4), (5, .int b74_5), (6, .int b74_6)] → W p l e (rmO 2 0 0 47) s m [Value.ref v0, Value.int v1, Value.int v2, Value.int v3].toArray below meth c H locs 0 0 (MQ below (va_Qi post (PoM D kA X0 sz) (va_A (hw kA X0) sz)) [Value.ref v0, Value.int v1, Value.int v2, Value.int v3].toArray s 0 0 (va_A (hw kA X0) sz)) (F0 m 74 ls []) := by
        intro X b74_4 b74_5 b74_6 H locs h S ls hl
        unfold bk_X10_twoOf_74 at h
        refine lv_aload_n hx hb dX10_twoOf_74 rfl (lv_at hl 0 rfl) ?_
        obtain ⟨fs38, y39, hfs38, hvfs38, h⟩ := h
        refine x_get G S.1 hfs38 hvfs38 fl_X10_57 dX10_twoOf_75 ?_
        refine lv_iload hx hb dX10_twoOf_78 (lv_at hl 4 rfl) ?_
        obtain ⟨n40, f41, hf41, hif41, h⟩ := h
        refine x_iald G S.1 hf41 hif41 dX10_twoOf_80 ?_
        refine lv_goto (tgt := 93) hx hb dX10_twoOf_81 (by decide) ?_
        exact J_93 _ _ _ _ _ _ _ h S ls (lv_sub hl [0, 1, 2, 3, 4, 5] rfl)
      intro X b22_4 H locs h S ls hl
      rw [bk_X10_twoOf_22] at h
      refine lv_iload hx hb dX10_twoOf_22 (lv_at hl 3 rfl) ?_
      refine lv_aload_n hx hb dX10_twoOf_24 rfl (lv_at hl 0 rfl) ?_
      obtain ⟨fs14, y15, hfs14, hvfs14, h⟩ := h
      refine x_get G S.1 hfs14 hvfs14 fl_X10_22 dX10_twoOf_25 ?_
      refine lv_iload_n hx hb dX10_twoOf_28 rfl (lv_at hl 1 rfl) ?_
      obtain ⟨n16, f17, hf17, hif17, h⟩ := h
      refine x_iald G S.1 hf17 hif17 dX10_twoOf_29 ?_
      refine lv_icmp_ge (tgt := 190) hx hb dX10_twoOf_30 (by decide) (fun c18 => ?_) (fun c18 => ?_)
      · have h := h.1 c18
        refine lv_aload_n hx hb dX10_twoOf_190 rfl (lv_at hl 0 rfl) ?_
        obtain ⟨fs20, hfs20, h⟩ := h
        refine x_cRVi (As := []) (rest := []) G S.1 hfs20 rfl rfl (c_X10_safeOfTimes l D kA _ _ v0 h) cd_X10_safeOfTimes ml_X10_173 ⟨(Nat.le_of_ble_eq_true rfl), (Nat.le_of_ble_eq_true rfl)⟩ rfl hl.1 rfl (Nat.le_of_ble_eq_true rfl) dX10_twoOf_191 ⟨Nat.zero_le _, Nat.zero_le _⟩ (fun r19 h => ?_)
        exact x_iretM G hr hlk S (Nat.le_refl _) (Nat.le_refl _) h dX10_twoOf_194
      · have h := h.2 c18
        refine lv_iload hx hb dX10_twoOf_33 (lv_at hl 3 rfl) ?_
        refine lv_iload_n hx hb dX10_twoOf_35 rfl (lv_at hl 2 rfl) ?_
        have hz := h.1
        have h := h.2
        refine lv_idiv hx hb dX10_twoOf_36 hz ?_
        refine lv_iconst (v := (2 : Int32)) hx hb dX10_twoOf_37 (by decide) ?_
        refine lv_irem hx hb dX10_twoOf_38 (by decide) ?_
        refine lv_topi (fun x21 ex21 => ?_)
        have h := h x21 ex21
        refine lv_istore (lv' := [(5, .int x21), (0, .ref v0), (1, .int v1), (3, .int v3), (4, .int b22_4)]) hx hb dX10_twoOf_39 hl (by decide) rfl (fun ls hl => ?_)
        refine lv_aload_n hx hb dX10_twoOf_41 rfl (lv_at hl 1 rfl) ?_
        refine lv_iload_n hx hb dX10_twoOf_42 rfl (lv_at hl 2 rfl) ?_
        refine lv_iload hx hb dX10_twoOf_43 (lv_at hl 4 rfl) ?_
        obtain ⟨fs37, hfs37, h⟩ := h
        refine x_cRVi (As := [.int v1, .int b22_4]) (rest := []) G S.1 hfs37 rfl rfl (c_X10_isSquall l D kA _ _ v0 v1 b22_4 h) cd_X10_isSquall ml_X10_93 ⟨(Nat.le_of_ble_eq_true rfl), (Nat.le_of_ble_eq_true rfl)⟩ rfl hl.1 rfl (Nat.le_of_ble_eq_true rfl) dX10_twoOf_45 ⟨Nat.zero_le _, Nat.zero_le _⟩ (fun r22 h => ?_)
        refine lv_istore (lv' := [(6, .int r22), (5, .int x21), (0, .ref v0), (1, .int v1), (3, .int v3), (4, .int b22_4)]) hx hb dX10_twoOf_48 hl (by decide) rfl (fun ls hl => ?_)
        refine lv_iload hx hb dX10_twoOf_50 (lv_at hl 0 rfl) ?_
        refine lv_if_eq (tgt := 74) hx hb dX10_twoOf_52 (by decide) (fun c23 => ?_) (fun c23 => ?_)
        · have h := h.1 c23
          exact J_74 _ _ _ _ _ _ h S ls (lv_sub hl [2, 3, 4, 5, 1, 0] rfl)
        · have h := h.2 c23
          refine lv_aload_n hx hb dX10_twoOf_55 rfl (lv_at hl 2 rfl) ?_
          obtain ⟨fs24, y25, hfs24, hvfs24, h⟩ := h
          refine x_get G S.1 hfs24 hvfs24 fl_X10_57 dX10_twoOf_56 ?_
          refine lv_iload hx hb dX10_twoOf_59 (lv_at hl 1 rfl) ?_
          obtain ⟨n26, f27, hf27, hif27, h⟩ := h
          refine x_iald G S.1 hf27 hif27 dX10_twoOf_61 ?_
          refine lv_aload_n hx hb dX10_twoOf_62 rfl (lv_at hl 2 rfl) ?_
          obtain ⟨fs28, y29, hfs28, hvfs28, h⟩ := h
          refine x_get G S.1 hfs28 hvfs28 fl_X10_57 dX10_twoOf_63 ?_
          refine lv_iconst (v := (1 : Int32)) hx hb dX10_twoOf_66 (by decide) ?_
          refine lv_iload hx hb dX10_twoOf_67 (lv_at hl 1 rfl) ?_
          refine lv_isub hx hb dX10_twoOf_69 ?_
          obtain ⟨n30, f31, hf31, hif31, h⟩ := h
          refine x_iald G S.1 hf31 hif31 dX10_twoOf_70 ?_
          refine lv_icmp_ge (tgt := 84) hx hb dX10_twoOf_71 (by decide) (fun c32 => ?_) (fun c32 => ?_)
          · have h := h.1 c32
            refine lv_aload_n hx hb dX10_twoOf_84 rfl (lv_at hl 2 rfl) ?_
            obtain ⟨fs33, y34, hfs33, hvfs33, h⟩ := h
            refine x_get G S.1 hfs33 hvfs33 fl_X10_57 dX10_twoOf_85 ?_
            refine lv_iconst (v := (1 : Int32)) hx hb dX10_twoOf_88 (by decide) ?_
            refine lv_iload hx hb dX10_twoOf_89 (lv_at hl 1 rfl) ?_
            refine lv_isub hx hb dX10_twoOf_91 ?_
            obtain ⟨n35, f36, hf36, hif36, h⟩ := h
            refine x_iald G S.1 hf36 hif36 dX10_twoOf_92 ?_
            exact J_93 _ _ _ _ _ _ _ h S ls (lv_sub hl [2, 3, 4, 5, 1, 0] rfl)
          · have h := h.2 c32
            exact J_74 _ _ _ _ _ _ h S ls (lv_sub hl [2, 3, 4, 5, 1, 0] rfl)
  refine lv_aload_n hx hb dX10_twoOf_0 rfl (lv_at hl 0 rfl) ?_
  obtain ⟨fs1, y2, hfs1, hvfs1, h⟩ := h
  refine x_get G S.1 hfs1 hvfs1 fl_X10_57 dX10_twoOf_1 ?_
  refine lv_iconst (v := (0 : Int32)) hx hb dX10_twoOf_4 (by decide) ?_
  refine lv_iload_n hx hb dX10_twoOf_5 rfl (lv_at hl 2 rfl) ?_
  obtain ⟨n3, f4, hf4, hif4, h⟩ := h
  have h := h _ rfl
  refine x_iast G S hf4 hif4 dX10_twoOf_6 (fun H locs S => ?_)
  refine lv_aload_n hx hb dX10_twoOf_7 rfl (lv_at hl 0 rfl) ?_
  obtain ⟨fs6, y7, hfs6, hvfs6, h⟩ := h
  refine x_get G S.1 hfs6 hvfs6 fl_X10_57 dX10_twoOf_8 ?_
  refine lv_iconst (v := (1 : Int32)) hx hb dX10_twoOf_11 (by decide) ?_
  refine lv_iload_n hx hb dX10_twoOf_12 rfl (lv_at hl 2 rfl) ?_
  obtain ⟨n8, f9, hf9, hif9, h⟩ := h
  have h := h _ rfl
  refine x_iast G S hf9 hif9 dX10_twoOf_13 (fun H locs S => ?_)
  refine lv_aload_n hx hb dX10_twoOf_14 rfl (lv_at hl 0 rfl) ?_
  refine lv_iconst (v := (0 : Int32)) hx hb dX10_twoOf_15 (by decide) ?_
  obtain ⟨fs11, hfs11, hkfs11, h⟩ := h
  have h := h _ rfl
  refine x_put G S hfs11 hkfs11 rfl rfl fw_X10_135 dX10_twoOf_16 (fun H locs S => ?_)
  refine lv_iconst (v := (0 : Int32)) hx hb dX10_twoOf_19 (by decide) ?_
  refine lv_istore (lv' := [(4, .int (0 : Int32)), (0, .ref v0), (1, .int v1), (2, .int v2), (3, .int v3)]) hx hb dX10_twoOf_20 hl (by decide) rfl (fun ls hl => ?_)
  obtain ⟨n13, h⟩ := h
  exact J_22 n13 _ _ _ _ h S ls (lv_sub hl [1, 2, 4, 0] rfl)
def wp_X10_two (post : Int32 → Hp → Prop) (X : Hp) (v0 : Nat) (v1 : Int32) (v2 : Int32) (v3 : Int32) : Prop := wp_X10_isWay (fun r1 => (¬ r1 = 0 → wp_X10_isOwed (fun r3 => (r3 = 0 → post (-2 : Int32) X) ∧ (¬ r3 = 0 → wp_X10_in (fun r5 => (r5 = 0 → post (-2 : Int32) X) ∧ (¬ r5 = 0 → ∃ fs9 : List Value, Hs X v0 (.inr (10, fs9)) ∧ wp_X10_twoOf (fun r8 X7 => post r8 X7)  X v0 v1 v2 v3))  X (v3.toInt64) (1 : Int64) (6 : Int64)))  X v2) ∧ (r1 = 0 → post (-1 : Int32) X))  X v1
set_option maxHeartbeats 4000000 in
set_option maxRecDepth 100000 in
theorem c_X10_two (l : Launch) (D : va_G) (kA : Nat → ClassId) (post : Int32 → Hp → Prop) (X : Hp) (sz : Nat) (v0 : Nat) (v1 : Int32) (v2 : Int32) (v3 : Int32) (h : wp_X10_two post X v0 v1 v2 v3) : Met l yX10_two (.code yX10_two cX10_two 4 (some .int) :: gd) (rmO 3 0 0 75) (va_Pc [Value.ref v0, Value.int v1, Value.int v2, Value.int v3] (PreM D kA X sz)) (va_Qi post (PoM D kA X sz) (va_A (hw kA X) sz)) 0 0 (va_A (hw kA X) sz) := by
  unfold wp_X10_two at h
  refine x_enM (by decide) (Nat.le_of_ble_eq_true rfl) ?_
  intro p e s m below meth c G hr hlk hin hsz hA S ls hl
  obtain ⟨hx, hb, hml, hown, hts, hE, hK⟩ := id G
  have hl : lv_has ls 4 [(0, .ref v0), (1, .int v1), (2, .int v2), (3, .int v3)] := hl
  refine lv_iload_n hx hb dX10_two_0 rfl (lv_at hl 1 rfl) ?_
  refine x_cRSi (As := [.int v1]) (rest := []) G S.1 (c_X10_isWay l D kA _ _ v1 h) cd_X10_isWay ml_X10_74 ⟨(Nat.le_of_ble_eq_true rfl), (Nat.le_of_ble_eq_true rfl)⟩ rfl hl.1 rfl (Nat.le_of_ble_eq_true rfl) dX10_two_1 ⟨Nat.zero_le _, Nat.zero_le _⟩ (fun r1 h => ?_)
  refine lv_if_ne (tgt := 9) hx hb dX10_two_4 (by decide) (fun c2 => ?_) (fun c2 => ?_)
  · have h := h.1 c2
    refine lv_iload_n hx hb dX10_two_9 rfl (lv_at hl 2 rfl) ?_
    refine x_cRSi (As := [.int v2]) (rest := []) G S.1 (c_X10_isOwed l D kA _ _ v2 h) cd_X10_isOwed ml_X10_110 ⟨(Nat.le_of_ble_eq_true rfl), (Nat.le_of_ble_eq_true rfl)⟩ rfl hl.1 rfl (Nat.le_of_ble_eq_true rfl) dX10_two_10 ⟨Nat.zero_le _, Nat.zero_le _⟩ (fun r3 h => ?_)
    refine lv_if_eq (tgt := 38) hx hb dX10_two_13 (by decide) (fun c4 => ?_) (fun c4 => ?_)
    · have h := h.1 c4
      refine lv_bipush (v := (-2 : Int32)) hx hb dX10_two_38 (by decide) ?_
      exact x_iretM G hr hlk S (Nat.le_refl _) (Nat.le_refl _) h dX10_two_40
    · have h := h.2 c4
      refine lv_iload_n hx hb dX10_two_16 rfl (lv_at hl 3 rfl) ?_
      refine lv_i2l (v := v3.toInt64) hx hb dX10_two_17 rfl ?_
      refine lv_lconst (v := (1 : Int64)) hx hb dX10_two_18 (by decide) ?_
      refine lv_ldc2 hx hb hown (hts _ kc_X10_164) dX10_two_19 ?_
      refine x_cRSi (As := [.long (v3.toInt64), .long (1 : Int64), .long (6 : Int64)]) (rest := []) G S.1 (c_X10_in l D kA _ _ (v3.toInt64) (1 : Int64) (6 : Int64) h) cd_X10_in ml_X10_66 ⟨(Nat.le_of_ble_eq_true rfl), (Nat.le_of_ble_eq_true rfl)⟩ rfl hl.1 rfl (Nat.le_of_ble_eq_true rfl) dX10_two_22 ⟨Nat.zero_le _, Nat.zero_le _⟩ (fun r5 h => ?_)
      refine lv_if_eq (tgt := 38) hx hb dX10_two_25 (by decide) (fun c6 => ?_) (fun c6 => ?_)
      · have h := h.1 c6
        refine lv_bipush (v := (-2 : Int32)) hx hb dX10_two_38 (by decide) ?_
        exact x_iretM G hr hlk S (Nat.le_refl _) (Nat.le_refl _) h dX10_two_40
      · have h := h.2 c6
        refine lv_aload_n hx hb dX10_two_28 rfl (lv_at hl 0 rfl) ?_
        refine lv_iload_n hx hb dX10_two_29 rfl (lv_at hl 1 rfl) ?_
        refine lv_iload_n hx hb dX10_two_30 rfl (lv_at hl 2 rfl) ?_
        refine lv_iload_n hx hb dX10_two_31 rfl (lv_at hl 3 rfl) ?_
        obtain ⟨fs9, hfs9, h⟩ := h
        refine x_cMVi (As := [.int v1, .int v2, .int v3]) (rest := []) G S hA hfs9 rfl rfl (c_X10_twoOf l D kA _ _ _ v0 v1 v2 v3 h) cd_X10_twoOf ml_X10_211 ⟨(Nat.le_of_ble_eq_true rfl), (Nat.le_of_ble_eq_true rfl)⟩ rfl hl.1 rfl (Nat.le_of_ble_eq_true rfl) dX10_two_32 ⟨Nat.zero_le _, Nat.zero_le _⟩ (fun r8 X H locs h S => ?_)
        refine lv_goto (tgt := 40) hx hb dX10_two_35 (by decide) ?_
        exact x_iretM G hr hlk S (Nat.le_refl _) (Nat.le_refl _) h dX10_two_40
  · have h := h.2 c2
    refine lv_iconst (v := (-1 : Int32)) hx hb dX10_two_7 (by decide) ?_
    exact x_iretM G hr hlk S (Nat.le_refl _) (Nat.le_refl _) h dX10_two_8
def bk_X10_share_64 (post : Int32 → Hp → Prop) (v0 : Nat) (v1 : Int32) (v2 : Int32) (r_33 : Hp → Int32 → Int32 → Int32 → Prop) (X : Hp) (b64_3 : Int32) (b64_4 : Int32) (b64_5 : Int32) : Prop := ∀ x14 : Int32, x14 = b64_5 + (1 : Int32) → r_33 X b64_3 b64_4 x14
def bk_X10_share_33 (post : Int32 → Hp → Prop) (v0 : Nat) (v1 : Int32) (v2 : Int32)  : Nat → Hp → Int32 → Int32 → Int32 → Prop
  | 0, _, _, _, _ => False
  | k + 1, X, b33_3, b33_4, b33_5 => ((6 : Int32) < b33_5 → post b33_3 X) ∧ (¬ (6 : Int32) < b33_5 → ∃ fs13 : List Value, Hs X v0 (.inr (10, fs13)) ∧ wp_X10_twoOf (fun r11 X10 => (r11 ≤ b33_4 → bk_X10_share_64 post v0 v1 v2 (bk_X10_share_33 post v0 v1 v2 k) X10 b33_3 b33_4 b33_5) ∧ (¬ r11 ≤ b33_4 → bk_X10_share_64 post v0 v1 v2 (bk_X10_share_33 post v0 v1 v2 k) X10 b33_5 r11 b33_5)) X v0 v1 v2 b33_5)
def wp_X10_share (post : Int32 → Hp → Prop) (X : Hp) (v0 : Nat) (v1 : Int32) (v2 : Int32) : Prop := wp_X10_isWay (fun r1 => (¬ r1 = 0 → wp_X10_isOwed (fun r3 => (¬ r3 = 0 → ∃ fs8 : List Value, Hs X v0 (.inr (10, fs8)) ∧ wp_X10_twoOf (fun r6 X5 => ∃ n7 : Nat, bk_X10_share_33 post v0 v1 v2 n7 X5 (1 : Int32) r6 (2 : Int32))  X v0 v1 v2 (1 : Int32)) ∧ (r3 = 0 → post (-2 : Int32) X))  X v2) ∧ (r1 = 0 → post (-1 : Int32) X))  X v1
set_option maxHeartbeats 4000000 in
set_option maxRecDepth 100000 in
theorem c_X10_share (l : Launch) (D : va_G) (kA : Nat → ClassId) (post : Int32 → Hp → Prop) (X : Hp) (sz : Nat) (v0 : Nat) (v1 : Int32) (v2 : Int32) (h : wp_X10_share post X v0 v1 v2) : Met l yX10_share (.code yX10_share cX10_share 7 (some .int) :: gd) (rmO 3 0 0 75) (va_Pc [Value.ref v0, Value.int v1, Value.int v2] (PreM D kA X sz)) (va_Qi post (PoM D kA X sz) (va_A (hw kA X) sz)) 0 0 (va_A (hw kA X) sz) := by
  unfold wp_X10_share at h
  refine x_enM (by decide) (Nat.le_of_ble_eq_true rfl) ?_
  intro p e s m below meth c G hr hlk hin hsz hA S ls hl
  obtain ⟨hx, hb, hml, hown, hts, hE, hK⟩ := id G
  have hl : lv_has ls 7 [(0, .ref v0), (1, .int v1), (2, .int v2)] := hl
  obtain ⟨X0, hX0⟩ : ∃ Y : Hp, Y = X := ⟨_, rfl⟩
  subst hX0
  have J_33 : ∀ (n : Nat) (X : Hp) (b33_3 : Int32) (b33_4 : Int32) (b33_5 : Int32), ∀ (H : Heap) (locs : List Loc) (_ : bk_X10_share_33 post v0 v1 v2  n X b33_3 b33_4 b33_5), Sx D kA (va_A (hw kA X0) sz) s.heap H locs X → ∀ ls, lv_has ls 7 [(0, .ref v0), (1, .int v1), (2, .int v2), (3, .int b33_3), (4, .int b33_4), (5, .int b33_5)] → W p l e (rmO 3 0 0 75) s m [Value.ref v0, Value.int v1, Value.int v2].toArray below meth c H locs 0 0 (MQ below (va_Qi post (PoM D kA X0 sz) (va_A (hw kA X0) sz)) [Value.ref v0, Value.int v1, Value.int v2].toArray s 0 0 (va_A (hw kA X0) sz)) (F0 m 33 ls []) := by
    intro n
    induction n with
    | zero =>
      intro X b33_3 b33_4 b33_5 H locs h S ls hl
      rw [bk_X10_share_33] at h
      exact h.elim
    | succ n_33 ih_33 =>
      have J_64 : ∀ (X : Hp) (b64_3 : Int32) (b64_4 : Int32) (b64_5 : Int32), ∀ (H : Heap) (locs : List Loc) (_ : bk_X10_share_64 post v0 v1 v2 (bk_X10_share_33 post v0 v1 v2 n_33) X b64_3 b64_4 b64_5), Sx D kA (va_A (hw kA X0) sz) s.heap H locs X → ∀ ls, lv_has ls 7 [(0, .ref v0), (1, .int v1), (2, .int v2), (3, .int b64_3), (4, .int b64_4), (5, .int b64_5)] → W p l e (rmO 3 0 0 75) s m [Value.ref v0, Value.int v1, Value.int v2].toArray below meth c H locs 0 0 (MQ below (va_Qi post (PoM D kA X0 sz) (va_A (hw kA X0) sz)) [Value.ref v0, Value.int v1, Value.int v2].toArray s 0 0 (va_A (hw kA X0) sz)) (F0 m 64 ls []) := by
        intro X b64_3 b64_4 b64_5 H locs h S ls hl
        unfold bk_X10_share_64 at h
        obtain ⟨x14, ex14⟩ : ∃ y : Int32, y = b64_5 + (1 : Int32) := ⟨_, rfl⟩
        have h := h x14 ex14
        refine lv_iinc (v := x14) (lv' := [(5, .int x14), (0, .ref v0), (1, .int v1), (2, .int v2), (3, .int b64_3), (4, .int b64_4)]) hx hb dX10_share_64 hl (k := 5) rfl (by rw [ex14]; rfl) (by decide) rfl (fun ls hl => ?_)
        refine lv_goto (tgt := 33) hx hb dX10_share_67 (by decide) ?_
        exact ih_33 _ _ _ _ _ _ h S ls (lv_sub hl [1, 2, 3, 4, 5, 0] rfl)
      intro X b33_3 b33_4 b33_5 H locs h S ls hl
      rw [bk_X10_share_33] at h
      refine lv_iload hx hb dX10_share_33 (lv_at hl 5 rfl) ?_
      refine lv_bipush (v := (6 : Int32)) hx hb dX10_share_35 (by decide) ?_
      refine lv_icmp_gt (tgt := 70) hx hb dX10_share_37 (by decide) (fun c9 => ?_) (fun c9 => ?_)
      · have h := h.1 c9
        refine lv_iload_n hx hb dX10_share_70 rfl (lv_at hl 3 rfl) ?_
        exact x_iretM G hr hlk S (Nat.le_refl _) (Nat.le_refl _) h dX10_share_71
      · have h := h.2 c9
        refine lv_aload_n hx hb dX10_share_40 rfl (lv_at hl 0 rfl) ?_
        refine lv_iload_n hx hb dX10_share_41 rfl (lv_at hl 1 rfl) ?_
        refine lv_iload_n hx hb dX10_share_42 rfl (lv_at hl 2 rfl) ?_
        refine lv_iload hx hb dX10_share_43 (lv_at hl 5 rfl) ?_
        obtain ⟨fs13, hfs13, h⟩ := h
        refine x_cMVi (As := [.int v1, .int v2, .int b33_5]) (rest := []) G S hA hfs13 rfl rfl (c_X10_twoOf l D kA _ _ _ v0 v1 v2 b33_5 h) cd_X10_twoOf ml_X10_211 ⟨(Nat.le_of_ble_eq_true rfl), (Nat.le_of_ble_eq_true rfl)⟩ rfl hl.1 rfl (Nat.le_of_ble_eq_true rfl) dX10_share_45 ⟨Nat.zero_le _, Nat.zero_le _⟩ (fun r11 X H locs h S => ?_)
        refine lv_istore (lv' := [(6, .int r11), (0, .ref v0), (1, .int v1), (2, .int v2), (3, .int b33_3), (4, .int b33_4), (5, .int b33_5)]) hx hb dX10_share_48 hl (by decide) rfl (fun ls hl => ?_)
        refine lv_iload hx hb dX10_share_50 (lv_at hl 0 rfl) ?_
        refine lv_iload hx hb dX10_share_52 (lv_at hl 5 rfl) ?_
        refine lv_icmp_le (tgt := 64) hx hb dX10_share_54 (by decide) (fun c12 => ?_) (fun c12 => ?_)
        · have h := h.1 c12
          exact J_64 _ _ _ _ _ _ h S ls (lv_sub hl [1, 2, 3, 4, 5, 6] rfl)
        · have h := h.2 c12
          refine lv_iload hx hb dX10_share_57 (lv_at hl 6 rfl) ?_
          refine lv_istore_n (lv' := [(3, .int b33_5), (6, .int r11), (0, .ref v0), (1, .int v1), (2, .int v2), (4, .int b33_4), (5, .int b33_5)]) hx hb dX10_share_59 rfl hl (by decide) rfl (fun ls hl => ?_)
          refine lv_iload hx hb dX10_share_60 (lv_at hl 1 rfl) ?_
          refine lv_istore (lv' := [(4, .int r11), (3, .int b33_5), (6, .int r11), (0, .ref v0), (1, .int v1), (2, .int v2), (5, .int b33_5)]) hx hb dX10_share_62 hl (by decide) rfl (fun ls hl => ?_)
          exact J_64 _ _ _ _ _ _ h S ls (lv_sub hl [3, 4, 5, 1, 0, 6] rfl)
  refine lv_iload_n hx hb dX10_share_0 rfl (lv_at hl 1 rfl) ?_
  refine x_cRSi (As := [.int v1]) (rest := []) G S.1 (c_X10_isWay l D kA _ _ v1 h) cd_X10_isWay ml_X10_74 ⟨(Nat.le_of_ble_eq_true rfl), (Nat.le_of_ble_eq_true rfl)⟩ rfl hl.1 rfl (Nat.le_of_ble_eq_true rfl) dX10_share_1 ⟨Nat.zero_le _, Nat.zero_le _⟩ (fun r1 h => ?_)
  refine lv_if_ne (tgt := 9) hx hb dX10_share_4 (by decide) (fun c2 => ?_) (fun c2 => ?_)
  · have h := h.1 c2
    refine lv_iload_n hx hb dX10_share_9 rfl (lv_at hl 2 rfl) ?_
    refine x_cRSi (As := [.int v2]) (rest := []) G S.1 (c_X10_isOwed l D kA _ _ v2 h) cd_X10_isOwed ml_X10_110 ⟨(Nat.le_of_ble_eq_true rfl), (Nat.le_of_ble_eq_true rfl)⟩ rfl hl.1 rfl (Nat.le_of_ble_eq_true rfl) dX10_share_10 ⟨Nat.zero_le _, Nat.zero_le _⟩ (fun r3 h => ?_)
    refine lv_if_ne (tgt := 19) hx hb dX10_share_13 (by decide) (fun c4 => ?_) (fun c4 => ?_)
    · have h := h.1 c4
      refine lv_iconst (v := (1 : Int32)) hx hb dX10_share_19 (by decide) ?_
      refine lv_istore_n (lv' := [(3, .int (1 : Int32)), (0, .ref v0), (1, .int v1), (2, .int v2)]) hx hb dX10_share_20 rfl hl (by decide) rfl (fun ls hl => ?_)
      refine lv_aload_n hx hb dX10_share_21 rfl (lv_at hl 1 rfl) ?_
      refine lv_iload_n hx hb dX10_share_22 rfl (lv_at hl 2 rfl) ?_
      refine lv_iload_n hx hb dX10_share_23 rfl (lv_at hl 3 rfl) ?_
      refine lv_iconst (v := (1 : Int32)) hx hb dX10_share_24 (by decide) ?_
      obtain ⟨fs8, hfs8, h⟩ := h
      refine x_cMVi (As := [.int v1, .int v2, .int (1 : Int32)]) (rest := []) G S hA hfs8 rfl rfl (c_X10_twoOf l D kA _ _ _ v0 v1 v2 (1 : Int32) h) cd_X10_twoOf ml_X10_211 ⟨(Nat.le_of_ble_eq_true rfl), (Nat.le_of_ble_eq_true rfl)⟩ rfl hl.1 rfl (Nat.le_of_ble_eq_true rfl) dX10_share_25 ⟨Nat.zero_le _, Nat.zero_le _⟩ (fun r6 X H locs h S => ?_)
      refine lv_istore (lv' := [(4, .int r6), (3, .int (1 : Int32)), (0, .ref v0), (1, .int v1), (2, .int v2)]) hx hb dX10_share_28 hl (by decide) rfl (fun ls hl => ?_)
      refine lv_iconst (v := (2 : Int32)) hx hb dX10_share_30 (by decide) ?_
      refine lv_istore (lv' := [(5, .int (2 : Int32)), (4, .int r6), (3, .int (1 : Int32)), (0, .ref v0), (1, .int v1), (2, .int v2)]) hx hb dX10_share_31 hl (by decide) rfl (fun ls hl => ?_)
      obtain ⟨n7, h⟩ := h
      exact J_33 n7 _ _ _ _ _ _ h S ls (lv_sub hl [3, 4, 5, 2, 1, 0] rfl)
    · have h := h.2 c4
      refine lv_bipush (v := (-2 : Int32)) hx hb dX10_share_16 (by decide) ?_
      exact x_iretM G hr hlk S (Nat.le_refl _) (Nat.le_refl _) h dX10_share_18
  · have h := h.2 c2
    refine lv_iconst (v := (-1 : Int32)) hx hb dX10_share_7 (by decide) ?_
    exact x_iretM G hr hlk S (Nat.le_refl _) (Nat.le_refl _) h dX10_share_8
def wp_X10_getsUp (post : Int32 → Prop) (X : Hp) (v0 : Int32) (v1 : Int32) (v2 : Int32) : Prop := ((v1 * v0) < ((1000 : Int32) * ((1 : Int32) + ((10 : Int32) * v2))) → post (0 : Int32)) ∧ (¬ (v1 * v0) < ((1000 : Int32) * ((1 : Int32) + ((10 : Int32) * v2))) → post (1 : Int32))
set_option maxHeartbeats 4000000 in
set_option maxRecDepth 100000 in
theorem c_X10_getsUp (l : Launch) (D : va_G) (kA : Nat → ClassId) (post : Int32 → Prop) (X : Hp) (v0 : Int32) (v1 : Int32) (v2 : Int32) (h : wp_X10_getsUp post X v0 v1 v2) : Met l yX10_getsUp (.code yX10_getsUp cX10_getsUp 3 (some .boolean) :: gd) (rmO 0 0 0 0) (va_Pc [Value.int v0, Value.int v1, Value.int v2] (Pre D kA X)) (vp_Si post) 0 0 (fun _ => False) := by
  unfold wp_X10_getsUp at h
  refine x_enR (by decide) (Nat.le_of_ble_eq_true rfl) ?_
  intro p e s m below meth c G hr hlk hP ls hl
  obtain ⟨hx, hb, hml, hown, hts, hE, hK⟩ := id G
  have hl : lv_has ls 3 [(0, .int v0), (1, .int v1), (2, .int v2)] := hl
  refine lv_sipush (v := (1000 : Int32)) hx hb dX10_getsUp_0 (by decide) ?_
  refine lv_iconst (v := (1 : Int32)) hx hb dX10_getsUp_3 (by decide) ?_
  refine lv_bipush (v := (10 : Int32)) hx hb dX10_getsUp_4 (by decide) ?_
  refine lv_iload_n hx hb dX10_getsUp_6 rfl (lv_at hl 2 rfl) ?_
  refine lv_imul hx hb dX10_getsUp_7 ?_
  refine lv_iadd hx hb dX10_getsUp_8 ?_
  refine lv_imul hx hb dX10_getsUp_9 ?_
  refine lv_iload_n hx hb dX10_getsUp_10 rfl (lv_at hl 1 rfl) ?_
  refine lv_iload_n hx hb dX10_getsUp_11 rfl (lv_at hl 0 rfl) ?_
  refine lv_imul hx hb dX10_getsUp_12 ?_
  refine lv_icmp_gt (tgt := 20) hx hb dX10_getsUp_13 (by decide) (fun c1 => ?_) (fun c1 => ?_)
  · have h := h.1 c1
    refine lv_iconst (v := (0 : Int32)) hx hb dX10_getsUp_20 (by decide) ?_
    exact x_zretR G hr hlk (Or.inl rfl) h dX10_getsUp_21
  · have h := h.2 c1
    refine lv_iconst (v := (1 : Int32)) hx hb dX10_getsUp_16 (by decide) ?_
    refine lv_goto (tgt := 21) hx hb dX10_getsUp_17 (by decide) ?_
    exact x_zretR G hr hlk (Or.inr rfl) h dX10_getsUp_21
def wp_X10_up (post : Int32 → Prop) (X : Hp) (v0 : Nat) (v1 : Int32) (v2 : Int32) (v3 : Int32) : Prop := wp_X10_in (fun r1 => (r1 = 0 → post (-2 : Int32)) ∧ (¬ r1 = 0 → wp_X10_in (fun r3 => (r3 = 0 → post (-2 : Int32)) ∧ (¬ r3 = 0 → wp_X10_isOwed (fun r5 => (¬ r5 = 0 → wp_X10_getsUp (fun r7 => (r7 = 0 → post (0 : Int32)) ∧ (¬ r7 = 0 → post (1 : Int32)))  X v1 v2 v3) ∧ (r5 = 0 → post (-2 : Int32)))  X v3))  X (v2.toInt64) (0 : Int64) (10000 : Int64)))  X (v1.toInt64) (0 : Int64) (1000 : Int64)
set_option maxHeartbeats 4000000 in
set_option maxRecDepth 100000 in
theorem c_X10_up (l : Launch) (D : va_G) (kA : Nat → ClassId) (post : Int32 → Prop) (X : Hp) (v0 : Nat) (v1 : Int32) (v2 : Int32) (v3 : Int32) (h : wp_X10_up post X v0 v1 v2 v3) : Met l yX10_up (.code yX10_up cX10_up 4 (some .int) :: gd) (rmO 2 0 0 45) (va_Pc [Value.ref v0, Value.int v1, Value.int v2, Value.int v3] (Pre D kA X)) (vp_Si post) 0 0 (fun _ => False) := by
  unfold wp_X10_up at h
  refine x_enR (by decide) (Nat.le_of_ble_eq_true rfl) ?_
  intro p e s m below meth c G hr hlk hP ls hl
  obtain ⟨hx, hb, hml, hown, hts, hE, hK⟩ := id G
  have hl : lv_has ls 4 [(0, .ref v0), (1, .int v1), (2, .int v2), (3, .int v3)] := hl
  refine lv_iload_n hx hb dX10_up_0 rfl (lv_at hl 1 rfl) ?_
  refine lv_i2l (v := v1.toInt64) hx hb dX10_up_1 rfl ?_
  refine lv_lconst (v := (0 : Int64)) hx hb dX10_up_2 (by decide) ?_
  refine lv_ldc2 hx hb hown (hts _ kc_X10_91) dX10_up_3 ?_
  refine x_cRSi (As := [.long (v1.toInt64), .long (0 : Int64), .long (1000 : Int64)]) (rest := []) G hP (c_X10_in l D kA _ _ (v1.toInt64) (0 : Int64) (1000 : Int64) h) cd_X10_in ml_X10_66 ⟨(Nat.le_of_ble_eq_true rfl), (Nat.le_of_ble_eq_true rfl)⟩ rfl hl.1 rfl (Nat.le_of_ble_eq_true rfl) dX10_up_6 ⟨Nat.zero_le _, Nat.zero_le _⟩ (fun r1 h => ?_)
  refine lv_if_eq (tgt := 31) hx hb dX10_up_9 (by decide) (fun c2 => ?_) (fun c2 => ?_)
  · have h := h.1 c2
    refine lv_bipush (v := (-2 : Int32)) hx hb dX10_up_31 (by decide) ?_
    exact x_iretR G hr hlk h dX10_up_33
  · have h := h.2 c2
    refine lv_iload_n hx hb dX10_up_12 rfl (lv_at hl 2 rfl) ?_
    refine lv_i2l (v := v2.toInt64) hx hb dX10_up_13 rfl ?_
    refine lv_lconst (v := (0 : Int64)) hx hb dX10_up_14 (by decide) ?_
    refine lv_ldc2 hx hb hown (hts _ kc_X10_214) dX10_up_15 ?_
    refine x_cRSi (As := [.long (v2.toInt64), .long (0 : Int64), .long (10000 : Int64)]) (rest := []) G hP (c_X10_in l D kA _ _ (v2.toInt64) (0 : Int64) (10000 : Int64) h) cd_X10_in ml_X10_66 ⟨(Nat.le_of_ble_eq_true rfl), (Nat.le_of_ble_eq_true rfl)⟩ rfl hl.1 rfl (Nat.le_of_ble_eq_true rfl) dX10_up_18 ⟨Nat.zero_le _, Nat.zero_le _⟩ (fun r3 h => ?_)
    refine lv_if_eq (tgt := 31) hx hb dX10_up_21 (by decide) (fun c4 => ?_) (fun c4 => ?_)
    · have h := h.1 c4
      refine lv_bipush (v := (-2 : Int32)) hx hb dX10_up_31 (by decide) ?_
      exact x_iretR G hr hlk h dX10_up_33
    · have h := h.2 c4
      refine lv_iload_n hx hb dX10_up_24 rfl (lv_at hl 3 rfl) ?_
      refine x_cRSi (As := [.int v3]) (rest := []) G hP (c_X10_isOwed l D kA _ _ v3 h) cd_X10_isOwed ml_X10_110 ⟨(Nat.le_of_ble_eq_true rfl), (Nat.le_of_ble_eq_true rfl)⟩ rfl hl.1 rfl (Nat.le_of_ble_eq_true rfl) dX10_up_25 ⟨Nat.zero_le _, Nat.zero_le _⟩ (fun r5 h => ?_)
      refine lv_if_ne (tgt := 34) hx hb dX10_up_28 (by decide) (fun c6 => ?_) (fun c6 => ?_)
      · have h := h.1 c6
        refine lv_iload_n hx hb dX10_up_34 rfl (lv_at hl 1 rfl) ?_
        refine lv_iload_n hx hb dX10_up_35 rfl (lv_at hl 2 rfl) ?_
        refine lv_iload_n hx hb dX10_up_36 rfl (lv_at hl 3 rfl) ?_
        refine x_cRSi (As := [.int v1, .int v2, .int v3]) (rest := []) G hP (c_X10_getsUp l D kA _ _ v1 v2 v3 h) cd_X10_getsUp ml_X10_216 ⟨(Nat.le_of_ble_eq_true rfl), (Nat.le_of_ble_eq_true rfl)⟩ rfl hl.1 rfl (Nat.le_of_ble_eq_true rfl) dX10_up_37 ⟨Nat.zero_le _, Nat.zero_le _⟩ (fun r7 h => ?_)
        refine lv_if_eq (tgt := 47) hx hb dX10_up_40 (by decide) (fun c8 => ?_) (fun c8 => ?_)
        · have h := h.1 c8
          refine lv_iconst (v := (0 : Int32)) hx hb dX10_up_47 (by decide) ?_
          exact x_iretR G hr hlk h dX10_up_48
        · have h := h.2 c8
          refine lv_iconst (v := (1 : Int32)) hx hb dX10_up_43 (by decide) ?_
          refine lv_goto (tgt := 48) hx hb dX10_up_44 (by decide) ?_
          exact x_iretR G hr hlk h dX10_up_48
      · have h := h.2 c6
        refine lv_bipush (v := (-2 : Int32)) hx hb dX10_up_31 (by decide) ?_
        exact x_iretR G hr hlk h dX10_up_33
def bk_X10_trust_24 (post : Int32 → Prop) (X : Hp) (v0 : Nat) (v1 : Int32) (v2 : Int32)  : Nat → Int32 → Prop
  | 0, _ => False
  | k + 1, b24_3 => ((1000 : Int32) < b24_3 → post b24_3) ∧ (¬ (1000 : Int32) < b24_3 → wp_X10_getsUp (fun r7 => (¬ r7 = 0 → post b24_3) ∧ (r7 = 0 → ∀ x9 : Int32, x9 = b24_3 + (1 : Int32) → (bk_X10_trust_24 post X v0 v1 v2 k) x9)) X b24_3 v1 v2)
def wp_X10_trust (post : Int32 → Prop) (X : Hp) (v0 : Nat) (v1 : Int32) (v2 : Int32) : Prop := wp_X10_in (fun r1 => (r1 = 0 → post (-2 : Int32)) ∧ (¬ r1 = 0 → wp_X10_isOwed (fun r3 => (¬ r3 = 0 → ∃ n5 : Nat, bk_X10_trust_24 post X v0 v1 v2 n5 (0 : Int32)) ∧ (r3 = 0 → post (-2 : Int32)))  X v2))  X (v1.toInt64) (0 : Int64) (10000 : Int64)
set_option maxHeartbeats 4000000 in
set_option maxRecDepth 100000 in
theorem c_X10_trust (l : Launch) (D : va_G) (kA : Nat → ClassId) (post : Int32 → Prop) (X : Hp) (v0 : Nat) (v1 : Int32) (v2 : Int32) (h : wp_X10_trust post X v0 v1 v2) : Met l yX10_trust (.code yX10_trust cX10_trust 4 (some .int) :: gd) (rmO 2 0 0 45) (va_Pc [Value.ref v0, Value.int v1, Value.int v2] (Pre D kA X)) (vp_Si post) 0 0 (fun _ => False) := by
  unfold wp_X10_trust at h
  refine x_enR (by decide) (Nat.le_of_ble_eq_true rfl) ?_
  intro p e s m below meth c G hr hlk hP ls hl
  obtain ⟨hx, hb, hml, hown, hts, hE, hK⟩ := id G
  have hl : lv_has ls 4 [(0, .ref v0), (1, .int v1), (2, .int v2)] := hl
  have J_24 : ∀ (n : Nat) (b24_3 : Int32), ∀ (_ : bk_X10_trust_24 post X v0 v1 v2  n b24_3), ∀ ls, lv_has ls 4 [(1, .int v1), (2, .int v2), (3, .int b24_3)] → W p l e (rmO 2 0 0 45) s m [Value.ref v0, Value.int v1, Value.int v2].toArray below meth c s.heap [] 0 0 (MQ below (vp_Si post) [Value.ref v0, Value.int v1, Value.int v2].toArray s 0 0 (fun _ => False)) (F0 m 24 ls []) := by
    intro n
    induction n with
    | zero =>
      intro b24_3 h ls hl
      rw [bk_X10_trust_24] at h
      exact h.elim
    | succ n_24 ih_24 =>
      intro b24_3 h ls hl
      rw [bk_X10_trust_24] at h
      refine lv_iload_n hx hb dX10_trust_24 rfl (lv_at hl 2 rfl) ?_
      refine lv_sipush (v := (1000 : Int32)) hx hb dX10_trust_25 (by decide) ?_
      refine lv_icmp_gt (tgt := 46) hx hb dX10_trust_28 (by decide) (fun c6 => ?_) (fun c6 => ?_)
      · have h := h.1 c6
        refine lv_iload_n hx hb dX10_trust_46 rfl (lv_at hl 2 rfl) ?_
        exact x_iretR G hr hlk h dX10_trust_47
      · have h := h.2 c6
        refine lv_iload_n hx hb dX10_trust_31 rfl (lv_at hl 2 rfl) ?_
        refine lv_iload_n hx hb dX10_trust_32 rfl (lv_at hl 0 rfl) ?_
        refine lv_iload_n hx hb dX10_trust_33 rfl (lv_at hl 1 rfl) ?_
        refine x_cRSi (As := [.int b24_3, .int v1, .int v2]) (rest := []) G hP (c_X10_getsUp l D kA _ _ b24_3 v1 v2 h) cd_X10_getsUp ml_X10_216 ⟨(Nat.le_of_ble_eq_true rfl), (Nat.le_of_ble_eq_true rfl)⟩ rfl hl.1 rfl (Nat.le_of_ble_eq_true rfl) dX10_trust_34 ⟨Nat.zero_le _, Nat.zero_le _⟩ (fun r7 h => ?_)
        refine lv_if_ne (tgt := 46) hx hb dX10_trust_37 (by decide) (fun c8 => ?_) (fun c8 => ?_)
        · have h := h.1 c8
          refine lv_iload_n hx hb dX10_trust_46 rfl (lv_at hl 2 rfl) ?_
          exact x_iretR G hr hlk h dX10_trust_47
        · have h := h.2 c8
          obtain ⟨x9, ex9⟩ : ∃ y : Int32, y = b24_3 + (1 : Int32) := ⟨_, rfl⟩
          have h := h x9 ex9
          refine lv_iinc (v := x9) (lv' := [(3, .int x9), (1, .int v1), (2, .int v2)]) hx hb dX10_trust_40 hl (k := 2) rfl (by rw [ex9]; rfl) (by decide) rfl (fun ls hl => ?_)
          refine lv_goto (tgt := 24) hx hb dX10_trust_43 (by decide) ?_
          exact ih_24 _ h ls (lv_sub hl [1, 2, 0] rfl)
  refine lv_iload_n hx hb dX10_trust_0 rfl (lv_at hl 1 rfl) ?_
  refine lv_i2l (v := v1.toInt64) hx hb dX10_trust_1 rfl ?_
  refine lv_lconst (v := (0 : Int64)) hx hb dX10_trust_2 (by decide) ?_
  refine lv_ldc2 hx hb hown (hts _ kc_X10_214) dX10_trust_3 ?_
  refine x_cRSi (As := [.long (v1.toInt64), .long (0 : Int64), .long (10000 : Int64)]) (rest := []) G hP (c_X10_in l D kA _ _ (v1.toInt64) (0 : Int64) (10000 : Int64) h) cd_X10_in ml_X10_66 ⟨(Nat.le_of_ble_eq_true rfl), (Nat.le_of_ble_eq_true rfl)⟩ rfl hl.1 rfl (Nat.le_of_ble_eq_true rfl) dX10_trust_6 ⟨Nat.zero_le _, Nat.zero_le _⟩ (fun r1 h => ?_)
  refine lv_if_eq (tgt := 19) hx hb dX10_trust_9 (by decide) (fun c2 => ?_) (fun c2 => ?_)
  · have h := h.1 c2
    refine lv_bipush (v := (-2 : Int32)) hx hb dX10_trust_19 (by decide) ?_
    exact x_iretR G hr hlk h dX10_trust_21
  · have h := h.2 c2
    refine lv_iload_n hx hb dX10_trust_12 rfl (lv_at hl 2 rfl) ?_
    refine x_cRSi (As := [.int v2]) (rest := []) G hP (c_X10_isOwed l D kA _ _ v2 h) cd_X10_isOwed ml_X10_110 ⟨(Nat.le_of_ble_eq_true rfl), (Nat.le_of_ble_eq_true rfl)⟩ rfl hl.1 rfl (Nat.le_of_ble_eq_true rfl) dX10_trust_13 ⟨Nat.zero_le _, Nat.zero_le _⟩ (fun r3 h => ?_)
    refine lv_if_ne (tgt := 22) hx hb dX10_trust_16 (by decide) (fun c4 => ?_) (fun c4 => ?_)
    · have h := h.1 c4
      refine lv_iconst (v := (0 : Int32)) hx hb dX10_trust_22 (by decide) ?_
      refine lv_istore_n (lv' := [(3, .int (0 : Int32)), (0, .ref v0), (1, .int v1), (2, .int v2)]) hx hb dX10_trust_23 rfl hl (by decide) rfl (fun ls hl => ?_)
      obtain ⟨n5, h⟩ := h
      exact J_24 n5 _ h ls (lv_sub hl [2, 3, 0] rfl)
    · have h := h.2 c4
      refine lv_bipush (v := (-2 : Int32)) hx hb dX10_trust_19 (by decide) ?_
      exact x_iretR G hr hlk h dX10_trust_21
def wp_X10_thousandth (post : Int32 → Hp → Prop) (X : Hp) (v0 : Nat) : Prop := ∃ (fs1 : List Value) (y2 : Int32), Hs X v0 (.inr (10, fs1)) ∧ fs1[22]? = some (.int y2) ∧ ∃ (fs3 : List Value), Hs X v0 (.inr (10, fs3)) ∧ 22 < fs3.length ∧ ∀ X4 : Hp, X4 = hput X v0 (.inr (10, fs3.set 22 (.int ((((75 : Int32) * y2) + (74 : Int32)) - (((75 : Int32) * y2) + (74 : Int32)) / (65537 : Int32) * (65537 : Int32))))) → ∃ (fs5 : List Value) (y6 : Int32), Hs X4 v0 (.inr (10, fs5)) ∧ fs5[22]? = some (.int y6) ∧ post (y6 - y6 / (1000 : Int32) * (1000 : Int32)) X4
set_option maxHeartbeats 4000000 in
set_option maxRecDepth 100000 in
theorem c_X10_thousandth (l : Launch) (D : va_G) (kA : Nat → ClassId) (post : Int32 → Hp → Prop) (X : Hp) (sz : Nat) (v0 : Nat) (h : wp_X10_thousandth post X v0) : Met l yX10_thousandth (.code yX10_thousandth cX10_thousandth 1 (some .int) :: gd) (rmO 0 0 0 0) (va_Pc [Value.ref v0] (PreM D kA X sz)) (va_Qi post (PoM D kA X sz) (va_A (hw kA X) sz)) 0 0 (va_A (hw kA X) sz) := by
  unfold wp_X10_thousandth at h
  refine x_enM (by decide) (Nat.le_of_ble_eq_true rfl) ?_
  intro p e s m below meth c G hr hlk hin hsz hA S ls hl
  obtain ⟨hx, hb, hml, hown, hts, hE, hK⟩ := id G
  have hl : lv_has ls 1 [(0, .ref v0)] := hl
  refine lv_aload_n hx hb dX10_thousandth_0 rfl (lv_at hl 0 rfl) ?_
  refine lv_bipush (v := (75 : Int32)) hx hb dX10_thousandth_1 (by decide) ?_
  refine lv_aload_n hx hb dX10_thousandth_3 rfl (lv_at hl 0 rfl) ?_
  obtain ⟨fs1, y2, hfs1, hvfs1, h⟩ := h
  refine x_get G S.1 hfs1 hvfs1 fl_X10_219 dX10_thousandth_4 ?_
  refine lv_imul hx hb dX10_thousandth_7 ?_
  refine lv_bipush (v := (74 : Int32)) hx hb dX10_thousandth_8 (by decide) ?_
  refine lv_iadd hx hb dX10_thousandth_10 ?_
  refine lv_ldc hx hb hown (hts _ kc_X10_222) dX10_thousandth_11 ?_
  refine lv_irem hx hb dX10_thousandth_13 (by decide) ?_
  obtain ⟨fs3, hfs3, hkfs3, h⟩ := h
  have h := h _ rfl
  refine x_put G S hfs3 hkfs3 rfl rfl fw_X10_219 dX10_thousandth_14 (fun H locs S => ?_)
  refine lv_aload_n hx hb dX10_thousandth_17 rfl (lv_at hl 0 rfl) ?_
  obtain ⟨fs5, y6, hfs5, hvfs5, h⟩ := h
  refine x_get G S.1 hfs5 hvfs5 fl_X10_219 dX10_thousandth_18 ?_
  refine lv_sipush (v := (1000 : Int32)) hx hb dX10_thousandth_21 (by decide) ?_
  refine lv_irem hx hb dX10_thousandth_24 (by decide) ?_
  exact x_iretM G hr hlk S (Nat.le_refl _) (Nat.le_refl _) h dX10_thousandth_25
def bk_X10_draw_117 (post : Int32 → Hp → Prop) (v0 : Nat) (v1 : Int32) (v2 : Int32) (v3 : Int32) (v4 : Int32) (r_65 : Hp → Int32 → Prop) (X : Hp) (b117_5 : Int32) : Prop := ∀ x37 : Int32, x37 = b117_5 + (1 : Int32) → r_65 X x37
def bk_X10_draw_93 (post : Int32 → Hp → Prop) (v0 : Nat) (v1 : Int32) (v2 : Int32) (v3 : Int32) (v4 : Int32) (r_65 : Hp → Int32 → Prop) (X : Hp) (b93_5 : Int32) (b93_s0 : Int32) : Prop := (b93_s0 = 0 → bk_X10_draw_117 post v0 v1 v2 v3 v4 r_65 X b93_5) ∧ (¬ b93_s0 = 0 → ∃ fs36 : List Value, Hs X v0 (.inr (10, fs36)) ∧ wp_X10_thousandth (fun r30 X29 => ∃ (fs31 : List Value) (y32 : Nat), Hs X29 v0 (.inr (10, fs31)) ∧ fs31[13]? = some (.ref y32) ∧ ∃ (n33 : Nat) (f34 : Nat → Int32), Hs X29 y32 (.inl (0, n33, .inl f34)) ∧ vp_in b93_5 n33 ∧ ((f34 b93_5.toNatClampNeg) ≤ r30 → bk_X10_draw_117 post v0 v1 v2 v3 v4 r_65 X29 b93_5) ∧ (¬ (f34 b93_5.toNatClampNeg) ≤ r30 → post b93_5 X29))  X v0)
def bk_X10_draw_65 (post : Int32 → Hp → Prop) (v0 : Nat) (v1 : Int32) (v2 : Int32) (v3 : Int32) (v4 : Int32)  : Nat → Hp → Int32 → Prop
  | 0, _, _ => False
  | k + 1, X, b65_5 => ∃ (fs17 : List Value) (y18 : Int32), Hs X v0 (.inr (10, fs17)) ∧ fs17[14]? = some (.int y18) ∧ (y18 ≤ b65_5 → post (-6 : Int32) X) ∧ (¬ y18 ≤ b65_5 → ∃ fs27 : List Value, Hs X v0 (.inr (10, fs27)) ∧ wp_X10_thousandth (fun r21 X20 => ∃ (fs22 : List Value) (y23 : Nat), Hs X20 v0 (.inr (10, fs22)) ∧ fs22[12]? = some (.ref y23) ∧ ∃ (n24 : Nat) (f25 : Nat → Int32), Hs X20 y23 (.inl (0, n24, .inl f25)) ∧ vp_in b65_5 n24 ∧ ((f25 b65_5.toNatClampNeg) ≤ r21 → bk_X10_draw_93 post v0 v1 v2 v3 v4 (bk_X10_draw_65 post v0 v1 v2 v3 v4 k) X20 b65_5 (0 : Int32)) ∧ (¬ (f25 b65_5.toNatClampNeg) ≤ r21 → bk_X10_draw_93 post v0 v1 v2 v3 v4 (bk_X10_draw_65 post v0 v1 v2 v3 v4 k) X20 b65_5 (1 : Int32))) X v0)
def wp_X10_draw (post : Int32 → Hp → Prop) (X : Hp) (v0 : Nat) (v1 : Int32) (v2 : Int32) (v3 : Int32) (v4 : Int32) : Prop := wp_X10_isWay (fun r1 => (¬ r1 = 0 → wp_X10_isOwed (fun r3 => (r3 = 0 → post (-2 : Int32) X) ∧ (¬ r3 = 0 → wp_X10_isBattery (fun r5 => (r5 = 0 → post (-2 : Int32) X) ∧ (¬ r5 = 0 → wp_X10_in (fun r7 => (¬ r7 = 0 → ∃ fs16 : List Value, Hs X v0 (.inr (10, fs16)) ∧ wp_X10_fault (fun r9 => (r9 < 0 → ∃ fs15 : List Value, Hs X v0 (.inr (10, fs15)) ∧ wp_X10_judgeAll (fun X11 => ∃ (fs12 : List Value), Hs X11 v0 (.inr (10, fs12)) ∧ 22 < fs12.length ∧ ∀ X13 : Hp, X13 = hput X11 v0 (.inr (10, fs12.set 22 (.int v4))) → ∃ n14 : Nat, bk_X10_draw_65 post v0 v1 v2 v3 v4 n14 X13 (0 : Int32))  X v0 v1 v2 v3) ∧ (¬ r9 < 0 → post (-5 : Int32) X))  X v0) ∧ (r7 = 0 → post (-2 : Int32) X))  X (v4.toInt64) (0 : Int64) (9999 : Int64)))  X v3))  X v2) ∧ (r1 = 0 → post (-1 : Int32) X))  X v1
set_option maxHeartbeats 4000000 in
set_option maxRecDepth 100000 in
theorem c_X10_draw (l : Launch) (D : va_G) (kA : Nat → ClassId) (post : Int32 → Hp → Prop) (X : Hp) (sz : Nat) (v0 : Nat) (v1 : Int32) (v2 : Int32) (v3 : Int32) (v4 : Int32) (h : wp_X10_draw post X v0 v1 v2 v3 v4) : Met l yX10_draw (.code yX10_draw cX10_draw 7 (some .int) :: gd) (rmO 4 0 0 100) (va_Pc [Value.ref v0, Value.int v1, Value.int v2, Value.int v3, Value.int v4] (PreM D kA X sz)) (va_Qi post (PoM D kA X sz) (va_A (hw kA X) sz)) 0 0 (va_A (hw kA X) sz) := by
  unfold wp_X10_draw at h
  refine x_enM (by decide) (Nat.le_of_ble_eq_true rfl) ?_
  intro p e s m below meth c G hr hlk hin hsz hA S ls hl
  obtain ⟨hx, hb, hml, hown, hts, hE, hK⟩ := id G
  have hl : lv_has ls 7 [(0, .ref v0), (1, .int v1), (2, .int v2), (3, .int v3), (4, .int v4)] := hl
  obtain ⟨X0, hX0⟩ : ∃ Y : Hp, Y = X := ⟨_, rfl⟩
  subst hX0
  have J_65 : ∀ (n : Nat) (X : Hp) (b65_5 : Int32), ∀ (H : Heap) (locs : List Loc) (_ : bk_X10_draw_65 post v0 v1 v2 v3 v4  n X b65_5), Sx D kA (va_A (hw kA X0) sz) s.heap H locs X → ∀ ls, lv_has ls 7 [(0, .ref v0), (5, .int b65_5)] → W p l e (rmO 4 0 0 100) s m [Value.ref v0, Value.int v1, Value.int v2, Value.int v3, Value.int v4].toArray below meth c H locs 0 0 (MQ below (va_Qi post (PoM D kA X0 sz) (va_A (hw kA X0) sz)) [Value.ref v0, Value.int v1, Value.int v2, Value.int v3, Value.int v4].toArray s 0 0 (va_A (hw kA X0) sz)) (F0 m 65 ls []) := by
    intro n
    induction n with
    | zero =>
      intro X b65_5 H locs h S ls hl
      rw [bk_X10_draw_65] at h
      exact h.elim
    | succ n_65 ih_65 =>
      have J_117 : ∀ (X : Hp) (b117_5 : Int32), ∀ (H : Heap) (locs : List Loc) (_ : bk_X10_draw_117 post v0 v1 v2 v3 v4 (bk_X10_draw_65 post v0 v1 v2 v3 v4 n_65) X b117_5), Sx D kA (va_A (hw kA X0) sz) s.heap H locs X → ∀ ls, lv_has ls 7 [(0, .ref v0), (5, .int b117_5)] → W p l e (rmO 4 0 0 100) s m [Value.ref v0, Value.int v1, Value.int v2, Value.int v3, Value.int v4].toArray below meth c H locs 0 0 (MQ below (va_Qi post (PoM D kA X0 sz) (va_A (hw kA X0) sz)) [Value.ref v0, Value.int v1, Value.int v2, Value.int v3, Value.int v4].toArray s 0 0 (va_A (hw kA X0) sz)) (F0 m 117 ls []) := by
        intro X b117_5 H locs h S ls hl
        unfold bk_X10_draw_117 at h
        obtain ⟨x37, ex37⟩ : ∃ y : Int32, y = b117_5 + (1 : Int32) := ⟨_, rfl⟩
        have h := h x37 ex37
        refine lv_iinc (v := x37) (lv' := [(5, .int x37), (0, .ref v0)]) hx hb dX10_draw_117 hl (k := 1) rfl (by rw [ex37]; rfl) (by decide) rfl (fun ls hl => ?_)
        refine lv_goto (tgt := 65) hx hb dX10_draw_120 (by decide) ?_
        exact ih_65 _ _ _ _ h S ls (lv_sub hl [1, 0] rfl)
      have J_93 : ∀ (X : Hp) (b93_5 : Int32) (b93_s0 : Int32), ∀ (H : Heap) (locs : List Loc) (_ : bk_X10_draw_93 post v0 v1 v2 v3 v4 (bk_X10_draw_65 post v0 v1 v2 v3 v4 n_65) X b93_5 b93_s0), Sx D kA (va_A (hw kA X0) sz) s.heap H locs X → ∀ ls, lv_has ls 7 [(0, .ref v0), (5, .int b93_5)] → W p l e (rmO 4 0 0 100) s m [Value.ref v0, Value.int v1, Value.int v2, Value.int v3, Value.int v4].toArray below meth c H locs 0 0 (MQ below (va_Qi post (PoM D kA X0 sz) (va_A (hw kA X0) sz)) [Value.ref v0, Value.int v1, Value.int v2, Value.int v3, Value.int v4].toArray s 0 0 (va_A (hw kA X0) sz)) (F0 m 93 ls [.int b93_s0]) := by
        intro X b93_5 b93_s0 H locs h S ls hl
        unfold bk_X10_draw_93 at h
        refine lv_istore (lv' := [(6, .int b93_s0), (0, .ref v0), (5, .int b93_5)]) hx hb dX10_draw_93 hl (by decide) rfl (fun ls hl => ?_)
        refine lv_iload hx hb dX10_draw_95 (lv_at hl 0 rfl) ?_
        refine lv_if_eq (tgt := 117) hx hb dX10_draw_97 (by decide) (fun c28 => ?_) (fun c28 => ?_)
        · have h := h.1 c28
          exact J_117 _ _ _ _ h S ls (lv_sub hl [1, 2] rfl)
        · have h := h.2 c28
          refine lv_aload_n hx hb dX10_draw_100 rfl (lv_at hl 1 rfl) ?_
          obtain ⟨fs36, hfs36, h⟩ := h
          refine x_cMVi (As := []) (rest := []) G S hA hfs36 rfl rfl (c_X10_thousandth l D kA _ _ _ v0 h) cd_X10_thousandth ml_X10_225 ⟨(Nat.le_of_ble_eq_true rfl), (Nat.le_of_ble_eq_true rfl)⟩ rfl hl.1 rfl (Nat.le_of_ble_eq_true rfl) dX10_draw_101 ⟨Nat.zero_le _, Nat.zero_le _⟩ (fun r30 X H locs h S => ?_)
          refine lv_aload_n hx hb dX10_draw_104 rfl (lv_at hl 1 rfl) ?_
          obtain ⟨fs31, y32, hfs31, hvfs31, h⟩ := h
          refine x_get G S.1 hfs31 hvfs31 fl_X10_46 dX10_draw_105 ?_
          refine lv_iload hx hb dX10_draw_108 (lv_at hl 2 rfl) ?_
          obtain ⟨n33, f34, hf34, hif34, h⟩ := h
          refine x_iald G S.1 hf34 hif34 dX10_draw_110 ?_
          refine lv_icmp_ge (tgt := 117) hx hb dX10_draw_111 (by decide) (fun c35 => ?_) (fun c35 => ?_)
          · have h := h.1 c35
            exact J_117 _ _ _ _ h S ls (lv_sub hl [1, 2] rfl)
          · have h := h.2 c35
            refine lv_iload hx hb dX10_draw_114 (lv_at hl 2 rfl) ?_
            exact x_iretM G hr hlk S (Nat.le_refl _) (Nat.le_refl _) h dX10_draw_116
      intro X b65_5 H locs h S ls hl
      rw [bk_X10_draw_65] at h
      refine lv_iload hx hb dX10_draw_65 (lv_at hl 1 rfl) ?_
      refine lv_aload_n hx hb dX10_draw_67 rfl (lv_at hl 0 rfl) ?_
      obtain ⟨fs17, y18, hfs17, hvfs17, h⟩ := h
      refine x_get G S.1 hfs17 hvfs17 fl_X10_135 dX10_draw_68 ?_
      refine lv_icmp_ge (tgt := 123) hx hb dX10_draw_71 (by decide) (fun c19 => ?_) (fun c19 => ?_)
      · have h := h.1 c19
        refine lv_bipush (v := (-6 : Int32)) hx hb dX10_draw_123 (by decide) ?_
        exact x_iretM G hr hlk S (Nat.le_refl _) (Nat.le_refl _) h dX10_draw_125
      · have h := h.2 c19
        refine lv_aload_n hx hb dX10_draw_74 rfl (lv_at hl 0 rfl) ?_
        obtain ⟨fs27, hfs27, h⟩ := h
        refine x_cMVi (As := []) (rest := []) G S hA hfs27 rfl rfl (c_X10_thousandth l D kA _ _ _ v0 h) cd_X10_thousandth ml_X10_225 ⟨(Nat.le_of_ble_eq_true rfl), (Nat.le_of_ble_eq_true rfl)⟩ rfl hl.1 rfl (Nat.le_of_ble_eq_true rfl) dX10_draw_75 ⟨Nat.zero_le _, Nat.zero_le _⟩ (fun r21 X H locs h S => ?_)
        refine lv_aload_n hx hb dX10_draw_78 rfl (lv_at hl 0 rfl) ?_
        obtain ⟨fs22, y23, hfs22, hvfs22, h⟩ := h
        refine x_get G S.1 hfs22 hvfs22 fl_X10_43 dX10_draw_79 ?_
        refine lv_iload hx hb dX10_draw_82 (lv_at hl 1 rfl) ?_
        obtain ⟨n24, f25, hf25, hif25, h⟩ := h
        refine x_iald G S.1 hf25 hif25 dX10_draw_84 ?_
        refine lv_icmp_ge (tgt := 92) hx hb dX10_draw_85 (by decide) (fun c26 => ?_) (fun c26 => ?_)
        · have h := h.1 c26
          refine lv_iconst (v := (0 : Int32)) hx hb dX10_draw_92 (by decide) ?_
          exact J_93 _ _ _ _ _ h S ls (lv_sub hl [0, 1] rfl)
        · have h := h.2 c26
          refine lv_iconst (v := (1 : Int32)) hx hb dX10_draw_88 (by decide) ?_
          refine lv_goto (tgt := 93) hx hb dX10_draw_89 (by decide) ?_
          exact J_93 _ _ _ _ _ h S ls (lv_sub hl [0, 1] rfl)
  refine lv_iload_n hx hb dX10_draw_0 rfl (lv_at hl 1 rfl) ?_
  refine x_cRSi (As := [.int v1]) (rest := []) G S.1 (c_X10_isWay l D kA _ _ v1 h) cd_X10_isWay ml_X10_74 ⟨(Nat.le_of_ble_eq_true rfl), (Nat.le_of_ble_eq_true rfl)⟩ rfl hl.1 rfl (Nat.le_of_ble_eq_true rfl) dX10_draw_1 ⟨Nat.zero_le _, Nat.zero_le _⟩ (fun r1 h => ?_)
  refine lv_if_ne (tgt := 9) hx hb dX10_draw_4 (by decide) (fun c2 => ?_) (fun c2 => ?_)
  · have h := h.1 c2
    refine lv_iload_n hx hb dX10_draw_9 rfl (lv_at hl 2 rfl) ?_
    refine x_cRSi (As := [.int v2]) (rest := []) G S.1 (c_X10_isOwed l D kA _ _ v2 h) cd_X10_isOwed ml_X10_110 ⟨(Nat.le_of_ble_eq_true rfl), (Nat.le_of_ble_eq_true rfl)⟩ rfl hl.1 rfl (Nat.le_of_ble_eq_true rfl) dX10_draw_10 ⟨Nat.zero_le _, Nat.zero_le _⟩ (fun r3 h => ?_)
    refine lv_if_eq (tgt := 36) hx hb dX10_draw_13 (by decide) (fun c4 => ?_) (fun c4 => ?_)
    · have h := h.1 c4
      refine lv_bipush (v := (-2 : Int32)) hx hb dX10_draw_36 (by decide) ?_
      exact x_iretM G hr hlk S (Nat.le_refl _) (Nat.le_refl _) h dX10_draw_38
    · have h := h.2 c4
      refine lv_iload_n hx hb dX10_draw_16 rfl (lv_at hl 3 rfl) ?_
      refine x_cRSi (As := [.int v3]) (rest := []) G S.1 (c_X10_isBattery l D kA _ _ v3 h) cd_X10_isBattery ml_X10_161 ⟨(Nat.le_of_ble_eq_true rfl), (Nat.le_of_ble_eq_true rfl)⟩ rfl hl.1 rfl (Nat.le_of_ble_eq_true rfl) dX10_draw_17 ⟨Nat.zero_le _, Nat.zero_le _⟩ (fun r5 h => ?_)
      refine lv_if_eq (tgt := 36) hx hb dX10_draw_20 (by decide) (fun c6 => ?_) (fun c6 => ?_)
      · have h := h.1 c6
        refine lv_bipush (v := (-2 : Int32)) hx hb dX10_draw_36 (by decide) ?_
        exact x_iretM G hr hlk S (Nat.le_refl _) (Nat.le_refl _) h dX10_draw_38
      · have h := h.2 c6
        refine lv_iload hx hb dX10_draw_23 (lv_at hl 4 rfl) ?_
        refine lv_i2l (v := v4.toInt64) hx hb dX10_draw_25 rfl ?_
        refine lv_lconst (v := (0 : Int64)) hx hb dX10_draw_26 (by decide) ?_
        refine lv_ldc2 hx hb hown (hts _ kc_X10_223) dX10_draw_27 ?_
        refine x_cRSi (As := [.long (v4.toInt64), .long (0 : Int64), .long (9999 : Int64)]) (rest := []) G S.1 (c_X10_in l D kA _ _ (v4.toInt64) (0 : Int64) (9999 : Int64) h) cd_X10_in ml_X10_66 ⟨(Nat.le_of_ble_eq_true rfl), (Nat.le_of_ble_eq_true rfl)⟩ rfl hl.1 rfl (Nat.le_of_ble_eq_true rfl) dX10_draw_30 ⟨Nat.zero_le _, Nat.zero_le _⟩ (fun r7 h => ?_)
        refine lv_if_ne (tgt := 39) hx hb dX10_draw_33 (by decide) (fun c8 => ?_) (fun c8 => ?_)
        · have h := h.1 c8
          refine lv_aload_n hx hb dX10_draw_39 rfl (lv_at hl 0 rfl) ?_
          obtain ⟨fs16, hfs16, h⟩ := h
          refine x_cRVi (As := []) (rest := []) G S.1 hfs16 rfl rfl (c_X10_fault l D kA _ _ v0 h) cd_X10_fault ml_X10_166 ⟨(Nat.le_of_ble_eq_true rfl), (Nat.le_of_ble_eq_true rfl)⟩ rfl hl.1 rfl (Nat.le_of_ble_eq_true rfl) dX10_draw_40 ⟨Nat.zero_le _, Nat.zero_le _⟩ (fun r9 h => ?_)
          refine lv_if_lt (tgt := 49) hx hb dX10_draw_43 (by decide) (fun c10 => ?_) (fun c10 => ?_)
          · have h := h.1 c10
            refine lv_aload_n hx hb dX10_draw_49 rfl (lv_at hl 0 rfl) ?_
            refine lv_iload_n hx hb dX10_draw_50 rfl (lv_at hl 1 rfl) ?_
            refine lv_iload_n hx hb dX10_draw_51 rfl (lv_at hl 2 rfl) ?_
            refine lv_iload_n hx hb dX10_draw_52 rfl (lv_at hl 3 rfl) ?_
            obtain ⟨fs15, hfs15, h⟩ := h
            refine x_cMVv (As := [.int v1, .int v2, .int v3]) (rest := []) G S hA hfs15 rfl rfl (c_X10_judgeAll l D kA _ _ _ v0 v1 v2 v3 h) cd_X10_judgeAll ml_X10_170 ⟨(Nat.le_of_ble_eq_true rfl), (Nat.le_of_ble_eq_true rfl)⟩ rfl hl.1 rfl (Nat.le_of_ble_eq_true rfl) dX10_draw_53 ⟨Nat.zero_le _, Nat.zero_le _⟩ (fun X H locs h S => ?_)
            refine lv_aload_n hx hb dX10_draw_56 rfl (lv_at hl 0 rfl) ?_
            refine lv_iload hx hb dX10_draw_57 (lv_at hl 4 rfl) ?_
            obtain ⟨fs12, hfs12, hkfs12, h⟩ := h
            have h := h _ rfl
            refine x_put G S hfs12 hkfs12 rfl rfl fw_X10_219 dX10_draw_59 (fun H locs S => ?_)
            refine lv_iconst (v := (0 : Int32)) hx hb dX10_draw_62 (by decide) ?_
            refine lv_istore (lv' := [(5, .int (0 : Int32)), (0, .ref v0), (1, .int v1), (2, .int v2), (3, .int v3), (4, .int v4)]) hx hb dX10_draw_63 hl (by decide) rfl (fun ls hl => ?_)
            obtain ⟨n14, h⟩ := h
            exact J_65 n14 _ _ _ _ h S ls (lv_sub hl [1, 0] rfl)
          · have h := h.2 c10
            refine lv_bipush (v := (-5 : Int32)) hx hb dX10_draw_46 (by decide) ?_
            exact x_iretM G hr hlk S (Nat.le_refl _) (Nat.le_refl _) h dX10_draw_48
        · have h := h.2 c8
          refine lv_bipush (v := (-2 : Int32)) hx hb dX10_draw_36 (by decide) ?_
          exact x_iretM G hr hlk S (Nat.le_refl _) (Nat.le_refl _) h dX10_draw_38
  · have h := h.2 c2
    refine lv_iconst (v := (-1 : Int32)) hx hb dX10_draw_7 (by decide) ?_
    exact x_iretM G hr hlk S (Nat.le_refl _) (Nat.le_refl _) h dX10_draw_8
def bk_X10_pass_20 (post : Int32 → Hp → Prop) (v0 : Nat) (v1 : Int32)  (X : Hp) (b20_s0 : Int32) : Prop := ∃ (fs10 : List Value) (y11 : Nat), Hs X v0 (.inr (10, fs10)) ∧ fs10[23]? = some (.ref y11) ∧ ∃ (fs12 : List Value) (y13 : Int32), Hs X v0 (.inr (10, fs12)) ∧ fs12[25]? = some (.int y13) ∧ ∃ (n14 : Nat) (f15 : Nat → Int32), Hs X y11 (.inl (0, n14, .inl f15)) ∧ vp_in y13 n14 ∧ ∀ X16 : Hp, X16 = hput X y11 (.inl (0, n14, .inl (upd f15 y13.toNatClampNeg b20_s0))) → ∃ (fs17 : List Value) (y18 : Int32), Hs X16 v0 (.inr (10, fs17)) ∧ fs17[25]? = some (.int y18) ∧ ∃ (fs19 : List Value), Hs X16 v0 (.inr (10, fs19)) ∧ 25 < fs19.length ∧ ∀ X20 : Hp, X20 = hput X16 v0 (.inr (10, fs19.set 25 (.int (y18 + (1 : Int32))))) → post b20_s0 X20
def wp_X10_pass (post : Int32 → Hp → Prop) (X : Hp) (v0 : Nat) (v1 : Int32) : Prop := ∃ (fs1 : List Value) (y2 : Int32), Hs X v0 (.inr (10, fs1)) ∧ fs1[26]? = some (.int y2) ∧ (y2 = 0 → ∃ (fs4 : List Value) (y5 : Nat), Hs X v0 (.inr (10, fs4)) ∧ fs4[23]? = some (.ref y5) ∧ ∃ (fs6 : List Value) (y7 : Int32), Hs X v0 (.inr (10, fs6)) ∧ fs6[25]? = some (.int y7) ∧ ∃ (n8 : Nat) (f9 : Nat → Int32), Hs X y5 (.inl (0, n8, .inl f9)) ∧ vp_in y7 n8 ∧ bk_X10_pass_20 post v0 v1 X ((f9 y7.toNatClampNeg))) ∧ (¬ y2 = 0 → bk_X10_pass_20 post v0 v1 X v1)
set_option maxHeartbeats 4000000 in
set_option maxRecDepth 100000 in
theorem c_X10_pass (l : Launch) (D : va_G) (kA : Nat → ClassId) (post : Int32 → Hp → Prop) (X : Hp) (sz : Nat) (v0 : Nat) (v1 : Int32) (h : wp_X10_pass post X v0 v1) : Met l yX10_pass (.code yX10_pass cX10_pass 3 (some .int) :: gd) (rmO 0 0 0 0) (va_Pc [Value.ref v0, Value.int v1] (PreM D kA X sz)) (va_Qi post (PoM D kA X sz) (va_A (hw kA X) sz)) 0 0 (va_A (hw kA X) sz) := by
  unfold wp_X10_pass at h
  refine x_enM (by decide) (Nat.le_of_ble_eq_true rfl) ?_
  intro p e s m below meth c G hr hlk hin hsz hA S ls hl
  obtain ⟨hx, hb, hml, hown, hts, hE, hK⟩ := id G
  have hl : lv_has ls 3 [(0, .ref v0), (1, .int v1)] := hl
  obtain ⟨X0, hX0⟩ : ∃ Y : Hp, Y = X := ⟨_, rfl⟩
  subst hX0
  have J_20 : ∀ (X : Hp) (b20_s0 : Int32), ∀ (H : Heap) (locs : List Loc) (_ : bk_X10_pass_20 post v0 v1  X b20_s0), Sx D kA (va_A (hw kA X0) sz) s.heap H locs X → ∀ ls, lv_has ls 3 [(0, .ref v0)] → W p l e (rmO 0 0 0 0) s m [Value.ref v0, Value.int v1].toArray below meth c H locs 0 0 (MQ below (va_Qi post (PoM D kA X0 sz) (va_A (hw kA X0) sz)) [Value.ref v0, Value.int v1].toArray s 0 0 (va_A (hw kA X0) sz)) (F0 m 20 ls [.int b20_s0]) := by
    intro X b20_s0 H locs h S ls hl
    unfold bk_X10_pass_20 at h
    refine lv_istore_n (lv' := [(2, .int b20_s0), (0, .ref v0)]) hx hb dX10_pass_20 rfl hl (by decide) rfl (fun ls hl => ?_)
    refine lv_aload_n hx hb dX10_pass_21 rfl (lv_at hl 1 rfl) ?_
    obtain ⟨fs10, y11, hfs10, hvfs10, h⟩ := h
    refine x_get G S.1 hfs10 hvfs10 fl_X10_60 dX10_pass_22 ?_
    refine lv_aload_n hx hb dX10_pass_25 rfl (lv_at hl 1 rfl) ?_
    obtain ⟨fs12, y13, hfs12, hvfs12, h⟩ := h
    refine x_get G S.1 hfs12 hvfs12 fl_X10_232 dX10_pass_26 ?_
    refine lv_iload_n hx hb dX10_pass_29 rfl (lv_at hl 0 rfl) ?_
    obtain ⟨n14, f15, hf15, hif15, h⟩ := h
    have h := h _ rfl
    refine x_iast G S hf15 hif15 dX10_pass_30 (fun H locs S => ?_)
    refine lv_aload_n hx hb dX10_pass_31 rfl (lv_at hl 1 rfl) ?_
    refine lv_dup hx hb dX10_pass_32 rfl ?_
    obtain ⟨fs17, y18, hfs17, hvfs17, h⟩ := h
    refine x_get G S.1 hfs17 hvfs17 fl_X10_232 dX10_pass_33 ?_
    refine lv_iconst (v := (1 : Int32)) hx hb dX10_pass_36 (by decide) ?_
    refine lv_iadd hx hb dX10_pass_37 ?_
    obtain ⟨fs19, hfs19, hkfs19, h⟩ := h
    have h := h _ rfl
    refine x_put G S hfs19 hkfs19 rfl rfl fw_X10_232 dX10_pass_38 (fun H locs S => ?_)
    refine lv_iload_n hx hb dX10_pass_41 rfl (lv_at hl 0 rfl) ?_
    exact x_iretM G hr hlk S (Nat.le_refl _) (Nat.le_refl _) h dX10_pass_42
  refine lv_aload_n hx hb dX10_pass_0 rfl (lv_at hl 0 rfl) ?_
  obtain ⟨fs1, y2, hfs1, hvfs1, h⟩ := h
  refine x_get G S.1 hfs1 hvfs1 fl_X10_228 dX10_pass_1 ?_
  refine lv_if_eq (tgt := 11) hx hb dX10_pass_4 (by decide) (fun c3 => ?_) (fun c3 => ?_)
  · have h := h.1 c3
    refine lv_aload_n hx hb dX10_pass_11 rfl (lv_at hl 0 rfl) ?_
    obtain ⟨fs4, y5, hfs4, hvfs4, h⟩ := h
    refine x_get G S.1 hfs4 hvfs4 fl_X10_60 dX10_pass_12 ?_
    refine lv_aload_n hx hb dX10_pass_15 rfl (lv_at hl 0 rfl) ?_
    obtain ⟨fs6, y7, hfs6, hvfs6, h⟩ := h
    refine x_get G S.1 hfs6 hvfs6 fl_X10_232 dX10_pass_16 ?_
    obtain ⟨n8, f9, hf9, hif9, h⟩ := h
    refine x_iald G S.1 hf9 hif9 dX10_pass_19 ?_
    exact J_20 _ _ _ _ h S ls (lv_sub hl [0] rfl)
  · have h := h.2 c3
    refine lv_iload_n hx hb dX10_pass_7 rfl (lv_at hl 1 rfl) ?_
    refine lv_goto (tgt := 20) hx hb dX10_pass_8 (by decide) ?_
    exact J_20 _ _ _ _ h S ls (lv_sub hl [0] rfl)
def bk_X10_passAll_93 (post : Hp → Prop) (v0 : Nat)  : Nat → Hp → Int32 → Prop
  | 0, _, _ => False
  | k + 1, X, b93_1 => ((3 : Int32) ≤ b93_1 → post X) ∧ (¬ (3 : Int32) ≤ b93_1 → ∃ (fs57 : List Value) (y58 : Nat), Hs X v0 (.inr (10, fs57)) ∧ fs57[7]? = some (.ref y58) ∧ ∃ (fs59 : List Value) (y60 : Nat), Hs X v0 (.inr (10, fs59)) ∧ fs59[7]? = some (.ref y60) ∧ ∃ (n61 : Nat) (f62 : Nat → Int32), Hs X y60 (.inl (0, n61, .inl f62)) ∧ vp_in b93_1 n61 ∧ ∃ fs81 : List Value, Hs X v0 (.inr (10, fs81)) ∧ wp_X10_pass (fun r64 X63 => ∃ (n65 : Nat) (f66 : Nat → Int32), Hs X63 y58 (.inl (0, n65, .inl f66)) ∧ vp_in b93_1 n65 ∧ ∀ X67 : Hp, X67 = hput X63 y58 (.inl (0, n65, .inl (upd f66 b93_1.toNatClampNeg r64))) → ∃ (fs68 : List Value) (y69 : Nat), Hs X67 v0 (.inr (10, fs68)) ∧ fs68[8]? = some (.ref y69) ∧ ∃ (fs70 : List Value) (y71 : Nat), Hs X67 v0 (.inr (10, fs70)) ∧ fs70[8]? = some (.ref y71) ∧ ∃ (n72 : Nat) (f73 : Nat → Int32), Hs X67 y71 (.inl (0, n72, .inl f73)) ∧ vp_in b93_1 n72 ∧ ∃ fs80 : List Value, Hs X67 v0 (.inr (10, fs80)) ∧ wp_X10_pass (fun r75 X74 => ∃ (n76 : Nat) (f77 : Nat → Int32), Hs X74 y69 (.inl (0, n76, .inl f77)) ∧ vp_in b93_1 n76 ∧ ∀ X78 : Hp, X78 = hput X74 y69 (.inl (0, n76, .inl (upd f77 b93_1.toNatClampNeg r75))) → ∀ x79 : Int32, x79 = b93_1 + (1 : Int32) → (bk_X10_passAll_93 post v0 k) X78 x79) X67 v0 (f73 b93_1.toNatClampNeg)) X v0 (f62 b93_1.toNatClampNeg))
def bk_X10_passAll_64 (post : Hp → Prop) (v0 : Nat)  : Nat → Hp → Int32 → Prop
  | 0, _, _ => False
  | k + 1, X, b64_1 => ((2 : Int32) ≤ b64_1 → ∃ n42 : Nat, bk_X10_passAll_93 post v0 n42 X (0 : Int32)) ∧ (¬ (2 : Int32) ≤ b64_1 → ∃ (fs43 : List Value) (y44 : Nat), Hs X v0 (.inr (10, fs43)) ∧ fs43[3]? = some (.ref y44) ∧ ∃ (fs45 : List Value) (y46 : Nat), Hs X v0 (.inr (10, fs45)) ∧ fs45[3]? = some (.ref y46) ∧ ∃ (n47 : Nat) (f48 : Nat → Int32), Hs X y46 (.inl (0, n47, .inl f48)) ∧ vp_in b64_1 n47 ∧ ∃ fs55 : List Value, Hs X v0 (.inr (10, fs55)) ∧ wp_X10_pass (fun r50 X49 => ∃ (n51 : Nat) (f52 : Nat → Int32), Hs X49 y44 (.inl (0, n51, .inl f52)) ∧ vp_in b64_1 n51 ∧ ∀ X53 : Hp, X53 = hput X49 y44 (.inl (0, n51, .inl (upd f52 b64_1.toNatClampNeg r50))) → ∀ x54 : Int32, x54 = b64_1 + (1 : Int32) → (bk_X10_passAll_64 post v0 k) X53 x54) X v0 (f48 b64_1.toNatClampNeg))
def bk_X10_passAll_2 (post : Hp → Prop) (v0 : Nat)  : Nat → Hp → Int32 → Prop
  | 0, _, _ => False
  | k + 1, X, b2_1 => ((16 : Int32) ≤ b2_1 → ∃ n3 : Nat, bk_X10_passAll_64 post v0 n3 X (0 : Int32)) ∧ (¬ (16 : Int32) ≤ b2_1 → ∃ (fs4 : List Value) (y5 : Nat), Hs X v0 (.inr (10, fs4)) ∧ fs4[0]? = some (.ref y5) ∧ ∃ (fs6 : List Value) (y7 : Nat), Hs X v0 (.inr (10, fs6)) ∧ fs6[0]? = some (.ref y7) ∧ ∃ (n8 : Nat) (f9 : Nat → Int32), Hs X y7 (.inl (0, n8, .inl f9)) ∧ vp_in b2_1 n8 ∧ ∃ fs40 : List Value, Hs X v0 (.inr (10, fs40)) ∧ wp_X10_pass (fun r11 X10 => ∃ (n12 : Nat) (f13 : Nat → Int32), Hs X10 y5 (.inl (0, n12, .inl f13)) ∧ vp_in b2_1 n12 ∧ ∀ X14 : Hp, X14 = hput X10 y5 (.inl (0, n12, .inl (upd f13 b2_1.toNatClampNeg r11))) → ∃ (fs15 : List Value) (y16 : Nat), Hs X14 v0 (.inr (10, fs15)) ∧ fs15[1]? = some (.ref y16) ∧ ∃ (fs17 : List Value) (y18 : Nat), Hs X14 v0 (.inr (10, fs17)) ∧ fs17[1]? = some (.ref y18) ∧ ∃ (n19 : Nat) (f20 : Nat → Int32), Hs X14 y18 (.inl (0, n19, .inl f20)) ∧ vp_in b2_1 n19 ∧ ∃ fs39 : List Value, Hs X14 v0 (.inr (10, fs39)) ∧ wp_X10_pass (fun r22 X21 => ∃ (n23 : Nat) (f24 : Nat → Int32), Hs X21 y16 (.inl (0, n23, .inl f24)) ∧ vp_in b2_1 n23 ∧ ∀ X25 : Hp, X25 = hput X21 y16 (.inl (0, n23, .inl (upd f24 b2_1.toNatClampNeg r22))) → ∃ (fs26 : List Value) (y27 : Nat), Hs X25 v0 (.inr (10, fs26)) ∧ fs26[2]? = some (.ref y27) ∧ ∃ (fs28 : List Value) (y29 : Nat), Hs X25 v0 (.inr (10, fs28)) ∧ fs28[2]? = some (.ref y29) ∧ ∃ (n30 : Nat) (f31 : Nat → Int32), Hs X25 y29 (.inl (0, n30, .inl f31)) ∧ vp_in b2_1 n30 ∧ ∃ fs38 : List Value, Hs X25 v0 (.inr (10, fs38)) ∧ wp_X10_pass (fun r33 X32 => ∃ (n34 : Nat) (f35 : Nat → Int32), Hs X32 y27 (.inl (0, n34, .inl f35)) ∧ vp_in b2_1 n34 ∧ ∀ X36 : Hp, X36 = hput X32 y27 (.inl (0, n34, .inl (upd f35 b2_1.toNatClampNeg r33))) → ∀ x37 : Int32, x37 = b2_1 + (1 : Int32) → (bk_X10_passAll_2 post v0 k) X36 x37) X25 v0 (f31 b2_1.toNatClampNeg)) X14 v0 (f20 b2_1.toNatClampNeg)) X v0 (f9 b2_1.toNatClampNeg))
def wp_X10_passAll (post : Hp → Prop) (X : Hp) (v0 : Nat) : Prop := ∃ n1 : Nat, bk_X10_passAll_2 post v0 n1 X (0 : Int32)
set_option maxHeartbeats 4000000 in
set_option maxRecDepth 100000 in
theorem c_X10_passAll (l : Launch) (D : va_G) (kA : Nat → ClassId) (post : Hp → Prop) (X : Hp) (sz : Nat) (v0 : Nat) (h : wp_X10_passAll post X v0) : Met l yX10_passAll (.code yX10_passAll cX10_passAll 2 none :: gd) (rmO 1 0 0 22) (va_Pc [Value.ref v0] (PreM D kA X sz)) (va_Qv post (PoM D kA X sz) (va_A (hw kA X) sz)) 0 0 (va_A (hw kA X) sz) := by
  unfold wp_X10_passAll at h
  refine x_enM (by decide) (Nat.le_of_ble_eq_true rfl) ?_
  intro p e s m below meth c G hr hlk hin hsz hA S ls hl
  obtain ⟨hx, hb, hml, hown, hts, hE, hK⟩ := id G
  have hl : lv_has ls 2 [(0, .ref v0)] := hl
  obtain ⟨X0, hX0⟩ : ∃ Y : Hp, Y = X := ⟨_, rfl⟩
  subst hX0
  have J_93 : ∀ (n : Nat) (X : Hp) (b93_1 : Int32), ∀ (H : Heap) (locs : List Loc) (_ : bk_X10_passAll_93 post v0  n X b93_1), Sx D kA (va_A (hw kA X0) sz) s.heap H locs X → ∀ ls, lv_has ls 2 [(0, .ref v0), (1, .int b93_1)] → W p l e (rmO 1 0 0 22) s m [Value.ref v0].toArray below meth c H locs 0 0 (MQ below (va_Qv post (PoM D kA X0 sz) (va_A (hw kA X0) sz)) [Value.ref v0].toArray s 0 0 (va_A (hw kA X0) sz)) (F0 m 93 ls []) := by
    intro n
    induction n with
    | zero =>
      intro X b93_1 H locs h S ls hl
      rw [bk_X10_passAll_93] at h
      exact h.elim
    | succ n_93 ih_93 =>
      intro X b93_1 H locs h S ls hl
      rw [bk_X10_passAll_93] at h
      refine lv_iload_n hx hb dX10_passAll_93 rfl (lv_at hl 1 rfl) ?_
      refine lv_iconst (v := (3 : Int32)) hx hb dX10_passAll_94 (by decide) ?_
      refine lv_icmp_ge (tgt := 136) hx hb dX10_passAll_95 (by decide) (fun c56 => ?_) (fun c56 => ?_)
      · have h := h.1 c56
        exact x_vretM G hr hlk S (Nat.le_refl _) (Nat.le_refl _) h dX10_passAll_136
      · have h := h.2 c56
        refine lv_aload_n hx hb dX10_passAll_98 rfl (lv_at hl 0 rfl) ?_
        obtain ⟨fs57, y58, hfs57, hvfs57, h⟩ := h
        refine x_get G S.1 hfs57 hvfs57 fl_X10_31 dX10_passAll_99 ?_
        refine lv_iload_n hx hb dX10_passAll_102 rfl (lv_at hl 1 rfl) ?_
        refine lv_aload_n hx hb dX10_passAll_103 rfl (lv_at hl 0 rfl) ?_
        refine lv_aload_n hx hb dX10_passAll_104 rfl (lv_at hl 0 rfl) ?_
        obtain ⟨fs59, y60, hfs59, hvfs59, h⟩ := h
        refine x_get G S.1 hfs59 hvfs59 fl_X10_31 dX10_passAll_105 ?_
        refine lv_iload_n hx hb dX10_passAll_108 rfl (lv_at hl 1 rfl) ?_
        obtain ⟨n61, f62, hf62, hif62, h⟩ := h
        refine x_iald G S.1 hf62 hif62 dX10_passAll_109 ?_
        obtain ⟨fs81, hfs81, h⟩ := h
        refine x_cMVi (As := [.int (f62 b93_1.toNatClampNeg)]) (rest := [.int b93_1, .ref y58]) G S hA hfs81 rfl rfl (c_X10_pass l D kA _ _ _ v0 (f62 b93_1.toNatClampNeg) h) cd_X10_pass ml_X10_235 ⟨(Nat.le_of_ble_eq_true rfl), (Nat.le_of_ble_eq_true rfl)⟩ rfl hl.1 rfl (Nat.le_of_ble_eq_true rfl) dX10_passAll_110 ⟨Nat.zero_le _, Nat.zero_le _⟩ (fun r64 X H locs h S => ?_)
        obtain ⟨n65, f66, hf66, hif66, h⟩ := h
        have h := h _ rfl
        refine x_iast G S hf66 hif66 dX10_passAll_113 (fun H locs S => ?_)
        refine lv_aload_n hx hb dX10_passAll_114 rfl (lv_at hl 0 rfl) ?_
        obtain ⟨fs68, y69, hfs68, hvfs68, h⟩ := h
        refine x_get G S.1 hfs68 hvfs68 fl_X10_34 dX10_passAll_115 ?_
        refine lv_iload_n hx hb dX10_passAll_118 rfl (lv_at hl 1 rfl) ?_
        refine lv_aload_n hx hb dX10_passAll_119 rfl (lv_at hl 0 rfl) ?_
        refine lv_aload_n hx hb dX10_passAll_120 rfl (lv_at hl 0 rfl) ?_
        obtain ⟨fs70, y71, hfs70, hvfs70, h⟩ := h
        refine x_get G S.1 hfs70 hvfs70 fl_X10_34 dX10_passAll_121 ?_
        refine lv_iload_n hx hb dX10_passAll_124 rfl (lv_at hl 1 rfl) ?_
        obtain ⟨n72, f73, hf73, hif73, h⟩ := h
        refine x_iald G S.1 hf73 hif73 dX10_passAll_125 ?_
        obtain ⟨fs80, hfs80, h⟩ := h
        refine x_cMVi (As := [.int (f73 b93_1.toNatClampNeg)]) (rest := [.int b93_1, .ref y69]) G S hA hfs80 rfl rfl (c_X10_pass l D kA _ _ _ v0 (f73 b93_1.toNatClampNeg) h) cd_X10_pass ml_X10_235 ⟨(Nat.le_of_ble_eq_true rfl), (Nat.le_of_ble_eq_true rfl)⟩ rfl hl.1 rfl (Nat.le_of_ble_eq_true rfl) dX10_passAll_126 ⟨Nat.zero_le _, Nat.zero_le _⟩ (fun r75 X H locs h S => ?_)
        obtain ⟨n76, f77, hf77, hif77, h⟩ := h
        have h := h _ rfl
        refine x_iast G S hf77 hif77 dX10_passAll_129 (fun H locs S => ?_)
        obtain ⟨x79, ex79⟩ : ∃ y : Int32, y = b93_1 + (1 : Int32) := ⟨_, rfl⟩
        have h := h x79 ex79
        refine lv_iinc (v := x79) (lv' := [(1, .int x79), (0, .ref v0)]) hx hb dX10_passAll_130 hl (k := 1) rfl (by rw [ex79]; rfl) (by decide) rfl (fun ls hl => ?_)
        refine lv_goto (tgt := 93) hx hb dX10_passAll_133 (by decide) ?_
        exact ih_93 _ _ _ _ h S ls (lv_sub hl [1, 0] rfl)
  have J_64 : ∀ (n : Nat) (X : Hp) (b64_1 : Int32), ∀ (H : Heap) (locs : List Loc) (_ : bk_X10_passAll_64 post v0  n X b64_1), Sx D kA (va_A (hw kA X0) sz) s.heap H locs X → ∀ ls, lv_has ls 2 [(0, .ref v0), (1, .int b64_1)] → W p l e (rmO 1 0 0 22) s m [Value.ref v0].toArray below meth c H locs 0 0 (MQ below (va_Qv post (PoM D kA X0 sz) (va_A (hw kA X0) sz)) [Value.ref v0].toArray s 0 0 (va_A (hw kA X0) sz)) (F0 m 64 ls []) := by
    intro n
    induction n with
    | zero =>
      intro X b64_1 H locs h S ls hl
      rw [bk_X10_passAll_64] at h
      exact h.elim
    | succ n_64 ih_64 =>
      intro X b64_1 H locs h S ls hl
      rw [bk_X10_passAll_64] at h
      refine lv_iload_n hx hb dX10_passAll_64 rfl (lv_at hl 1 rfl) ?_
      refine lv_iconst (v := (2 : Int32)) hx hb dX10_passAll_65 (by decide) ?_
      refine lv_icmp_ge (tgt := 91) hx hb dX10_passAll_66 (by decide) (fun c41 => ?_) (fun c41 => ?_)
      · have h := h.1 c41
        refine lv_iconst (v := (0 : Int32)) hx hb dX10_passAll_91 (by decide) ?_
        refine lv_istore_n (lv' := [(1, .int (0 : Int32)), (0, .ref v0)]) hx hb dX10_passAll_92 rfl hl (by decide) rfl (fun ls hl => ?_)
        obtain ⟨n42, h⟩ := h
        exact J_93 n42 _ _ _ _ h S ls (lv_sub hl [1, 0] rfl)
      · have h := h.2 c41
        refine lv_aload_n hx hb dX10_passAll_69 rfl (lv_at hl 0 rfl) ?_
        obtain ⟨fs43, y44, hfs43, hvfs43, h⟩ := h
        refine x_get G S.1 hfs43 hvfs43 fl_X10_19 dX10_passAll_70 ?_
        refine lv_iload_n hx hb dX10_passAll_73 rfl (lv_at hl 1 rfl) ?_
        refine lv_aload_n hx hb dX10_passAll_74 rfl (lv_at hl 0 rfl) ?_
        refine lv_aload_n hx hb dX10_passAll_75 rfl (lv_at hl 0 rfl) ?_
        obtain ⟨fs45, y46, hfs45, hvfs45, h⟩ := h
        refine x_get G S.1 hfs45 hvfs45 fl_X10_19 dX10_passAll_76 ?_
        refine lv_iload_n hx hb dX10_passAll_79 rfl (lv_at hl 1 rfl) ?_
        obtain ⟨n47, f48, hf48, hif48, h⟩ := h
        refine x_iald G S.1 hf48 hif48 dX10_passAll_80 ?_
        obtain ⟨fs55, hfs55, h⟩ := h
        refine x_cMVi (As := [.int (f48 b64_1.toNatClampNeg)]) (rest := [.int b64_1, .ref y44]) G S hA hfs55 rfl rfl (c_X10_pass l D kA _ _ _ v0 (f48 b64_1.toNatClampNeg) h) cd_X10_pass ml_X10_235 ⟨(Nat.le_of_ble_eq_true rfl), (Nat.le_of_ble_eq_true rfl)⟩ rfl hl.1 rfl (Nat.le_of_ble_eq_true rfl) dX10_passAll_81 ⟨Nat.zero_le _, Nat.zero_le _⟩ (fun r50 X H locs h S => ?_)
        obtain ⟨n51, f52, hf52, hif52, h⟩ := h
        have h := h _ rfl
        refine x_iast G S hf52 hif52 dX10_passAll_84 (fun H locs S => ?_)
        obtain ⟨x54, ex54⟩ : ∃ y : Int32, y = b64_1 + (1 : Int32) := ⟨_, rfl⟩
        have h := h x54 ex54
        refine lv_iinc (v := x54) (lv' := [(1, .int x54), (0, .ref v0)]) hx hb dX10_passAll_85 hl (k := 1) rfl (by rw [ex54]; rfl) (by decide) rfl (fun ls hl => ?_)
        refine lv_goto (tgt := 64) hx hb dX10_passAll_88 (by decide) ?_
        exact ih_64 _ _ _ _ h S ls (lv_sub hl [1, 0] rfl)
  have J_2 : ∀ (n : Nat) (X : Hp) (b2_1 : Int32), ∀ (H : Heap) (locs : List Loc) (_ : bk_X10_passAll_2 post v0  n X b2_1), Sx D kA (va_A (hw kA X0) sz) s.heap H locs X → ∀ ls, lv_has ls 2 [(0, .ref v0), (1, .int b2_1)] → W p l e (rmO 1 0 0 22) s m [Value.ref v0].toArray below meth c H locs 0 0 (MQ below (va_Qv post (PoM D kA X0 sz) (va_A (hw kA X0) sz)) [Value.ref v0].toArray s 0 0 (va_A (hw kA X0) sz)) (F0 m 2 ls []) := by
    intro n
    induction n with
    | zero =>
      intro X b2_1 H locs h S ls hl
      rw [bk_X10_passAll_2] at h
      exact h.elim
    | succ n_2 ih_2 =>
      intro X b2_1 H locs h S ls hl
      rw [bk_X10_passAll_2] at h
      refine lv_iload_n hx hb dX10_passAll_2 rfl (lv_at hl 1 rfl) ?_
      refine lv_bipush (v := (16 : Int32)) hx hb dX10_passAll_3 (by decide) ?_
      refine lv_icmp_ge (tgt := 62) hx hb dX10_passAll_5 (by decide) (fun c2 => ?_) (fun c2 => ?_)
      · have h := h.1 c2
        refine lv_iconst (v := (0 : Int32)) hx hb dX10_passAll_62 (by decide) ?_
        refine lv_istore_n (lv' := [(1, .int (0 : Int32)), (0, .ref v0)]) hx hb dX10_passAll_63 rfl hl (by decide) rfl (fun ls hl => ?_)
        obtain ⟨n3, h⟩ := h
        exact J_64 n3 _ _ _ _ h S ls (lv_sub hl [1, 0] rfl)
      · have h := h.2 c2
        refine lv_aload_n hx hb dX10_passAll_8 rfl (lv_at hl 0 rfl) ?_
        obtain ⟨fs4, y5, hfs4, hvfs4, h⟩ := h
        refine x_get G S.1 hfs4 hvfs4 fl_X10_7 dX10_passAll_9 ?_
        refine lv_iload_n hx hb dX10_passAll_12 rfl (lv_at hl 1 rfl) ?_
        refine lv_aload_n hx hb dX10_passAll_13 rfl (lv_at hl 0 rfl) ?_
        refine lv_aload_n hx hb dX10_passAll_14 rfl (lv_at hl 0 rfl) ?_
        obtain ⟨fs6, y7, hfs6, hvfs6, h⟩ := h
        refine x_get G S.1 hfs6 hvfs6 fl_X10_7 dX10_passAll_15 ?_
        refine lv_iload_n hx hb dX10_passAll_18 rfl (lv_at hl 1 rfl) ?_
        obtain ⟨n8, f9, hf9, hif9, h⟩ := h
        refine x_iald G S.1 hf9 hif9 dX10_passAll_19 ?_
        obtain ⟨fs40, hfs40, h⟩ := h
        refine x_cMVi (As := [.int (f9 b2_1.toNatClampNeg)]) (rest := [.int b2_1, .ref y5]) G S hA hfs40 rfl rfl (c_X10_pass l D kA _ _ _ v0 (f9 b2_1.toNatClampNeg) h) cd_X10_pass ml_X10_235 ⟨(Nat.le_of_ble_eq_true rfl), (Nat.le_of_ble_eq_true rfl)⟩ rfl hl.1 rfl (Nat.le_of_ble_eq_true rfl) dX10_passAll_20 ⟨Nat.zero_le _, Nat.zero_le _⟩ (fun r11 X H locs h S => ?_)
        obtain ⟨n12, f13, hf13, hif13, h⟩ := h
        have h := h _ rfl
        refine x_iast G S hf13 hif13 dX10_passAll_23 (fun H locs S => ?_)
        refine lv_aload_n hx hb dX10_passAll_24 rfl (lv_at hl 0 rfl) ?_
        obtain ⟨fs15, y16, hfs15, hvfs15, h⟩ := h
        refine x_get G S.1 hfs15 hvfs15 fl_X10_13 dX10_passAll_25 ?_
        refine lv_iload_n hx hb dX10_passAll_28 rfl (lv_at hl 1 rfl) ?_
        refine lv_aload_n hx hb dX10_passAll_29 rfl (lv_at hl 0 rfl) ?_
        refine lv_aload_n hx hb dX10_passAll_30 rfl (lv_at hl 0 rfl) ?_
        obtain ⟨fs17, y18, hfs17, hvfs17, h⟩ := h
        refine x_get G S.1 hfs17 hvfs17 fl_X10_13 dX10_passAll_31 ?_
        refine lv_iload_n hx hb dX10_passAll_34 rfl (lv_at hl 1 rfl) ?_
        obtain ⟨n19, f20, hf20, hif20, h⟩ := h
        refine x_iald G S.1 hf20 hif20 dX10_passAll_35 ?_
        obtain ⟨fs39, hfs39, h⟩ := h
        refine x_cMVi (As := [.int (f20 b2_1.toNatClampNeg)]) (rest := [.int b2_1, .ref y16]) G S hA hfs39 rfl rfl (c_X10_pass l D kA _ _ _ v0 (f20 b2_1.toNatClampNeg) h) cd_X10_pass ml_X10_235 ⟨(Nat.le_of_ble_eq_true rfl), (Nat.le_of_ble_eq_true rfl)⟩ rfl hl.1 rfl (Nat.le_of_ble_eq_true rfl) dX10_passAll_36 ⟨Nat.zero_le _, Nat.zero_le _⟩ (fun r22 X H locs h S => ?_)
        obtain ⟨n23, f24, hf24, hif24, h⟩ := h
        have h := h _ rfl
        refine x_iast G S hf24 hif24 dX10_passAll_39 (fun H locs S => ?_)
        refine lv_aload_n hx hb dX10_passAll_40 rfl (lv_at hl 0 rfl) ?_
        obtain ⟨fs26, y27, hfs26, hvfs26, h⟩ := h
        refine x_get G S.1 hfs26 hvfs26 fl_X10_16 dX10_passAll_41 ?_
        refine lv_iload_n hx hb dX10_passAll_44 rfl (lv_at hl 1 rfl) ?_
        refine lv_aload_n hx hb dX10_passAll_45 rfl (lv_at hl 0 rfl) ?_
        refine lv_aload_n hx hb dX10_passAll_46 rfl (lv_at hl 0 rfl) ?_
        obtain ⟨fs28, y29, hfs28, hvfs28, h⟩ := h
        refine x_get G S.1 hfs28 hvfs28 fl_X10_16 dX10_passAll_47 ?_
        refine lv_iload_n hx hb dX10_passAll_50 rfl (lv_at hl 1 rfl) ?_
        obtain ⟨n30, f31, hf31, hif31, h⟩ := h
        refine x_iald G S.1 hf31 hif31 dX10_passAll_51 ?_
        obtain ⟨fs38, hfs38, h⟩ := h
        refine x_cMVi (As := [.int (f31 b2_1.toNatClampNeg)]) (rest := [.int b2_1, .ref y27]) G S hA hfs38 rfl rfl (c_X10_pass l D kA _ _ _ v0 (f31 b2_1.toNatClampNeg) h) cd_X10_pass ml_X10_235 ⟨(Nat.le_of_ble_eq_true rfl), (Nat.le_of_ble_eq_true rfl)⟩ rfl hl.1 rfl (Nat.le_of_ble_eq_true rfl) dX10_passAll_52 ⟨Nat.zero_le _, Nat.zero_le _⟩ (fun r33 X H locs h S => ?_)
        obtain ⟨n34, f35, hf35, hif35, h⟩ := h
        have h := h _ rfl
        refine x_iast G S hf35 hif35 dX10_passAll_55 (fun H locs S => ?_)
        obtain ⟨x37, ex37⟩ : ∃ y : Int32, y = b2_1 + (1 : Int32) := ⟨_, rfl⟩
        have h := h x37 ex37
        refine lv_iinc (v := x37) (lv' := [(1, .int x37), (0, .ref v0)]) hx hb dX10_passAll_56 hl (k := 1) rfl (by rw [ex37]; rfl) (by decide) rfl (fun ls hl => ?_)
        refine lv_goto (tgt := 2) hx hb dX10_passAll_59 (by decide) ?_
        exact ih_2 _ _ _ _ h S ls (lv_sub hl [1, 0] rfl)
  refine lv_iconst (v := (0 : Int32)) hx hb dX10_passAll_0 (by decide) ?_
  refine lv_istore_n (lv' := [(1, .int (0 : Int32)), (0, .ref v0)]) hx hb dX10_passAll_1 rfl hl (by decide) rfl (fun ls hl => ?_)
  obtain ⟨n1, h⟩ := h
  exact J_2 n1 _ _ _ _ h S ls (lv_sub hl [1, 0] rfl)
def wp_X10_image (post : Int32 → Hp → Prop) (X : Hp) (v0 : Nat) (v1 : Int32) : Prop := wp_X10_isEnd (fun r1 => (¬ r1 = 0 → ∃ (fs3 : List Value), Hs X v0 (.inr (10, fs3)) ∧ 25 < fs3.length ∧ ∀ X4 : Hp, X4 = hput X v0 (.inr (10, fs3.set 25 (.int ((60 : Int32) * v1)))) → ∃ (fs5 : List Value), Hs X4 v0 (.inr (10, fs5)) ∧ 26 < fs5.length ∧ ∀ X6 : Hp, X6 = hput X4 v0 (.inr (10, fs5.set 26 (.int (1 : Int32)))) → ∃ fs13 : List Value, Hs X6 v0 (.inr (10, fs13)) ∧ wp_X10_passAll (fun X7 => ∃ (fs8 : List Value) (y9 : Nat), Hs X7 v0 (.inr (10, fs8)) ∧ fs8[24]? = some (.ref y9) ∧ ∃ (n10 : Nat) (f11 : Nat → Int32), Hs X7 y9 (.inl (1, n10, .inl f11)) ∧ vp_in v1 n10 ∧ ∀ X12 : Hp, X12 = hput X7 y9 (.inl (1, n10, .inl (upd f11 v1.toNatClampNeg (vp_nar .boolean (1 : Int32))))) → post (1 : Int32) X12)  X6 v0) ∧ (r1 = 0 → post (-2 : Int32) X))  X v1
set_option maxHeartbeats 4000000 in
set_option maxRecDepth 100000 in
theorem c_X10_image (l : Launch) (D : va_G) (kA : Nat → ClassId) (post : Int32 → Hp → Prop) (X : Hp) (sz : Nat) (v0 : Nat) (v1 : Int32) (h : wp_X10_image post X v0 v1) : Met l yX10_image (.code yX10_image cX10_image 2 (some .int) :: gd) (rmO 2 0 0 45) (va_Pc [Value.ref v0, Value.int v1] (PreM D kA X sz)) (va_Qi post (PoM D kA X sz) (va_A (hw kA X) sz)) 0 0 (va_A (hw kA X) sz) := by
  unfold wp_X10_image at h
  refine x_enM (by decide) (Nat.le_of_ble_eq_true rfl) ?_
  intro p e s m below meth c G hr hlk hin hsz hA S ls hl
  obtain ⟨hx, hb, hml, hown, hts, hE, hK⟩ := id G
  have hl : lv_has ls 2 [(0, .ref v0), (1, .int v1)] := hl
  refine lv_iload_n hx hb dX10_image_0 rfl (lv_at hl 1 rfl) ?_
  refine x_cRSi (As := [.int v1]) (rest := []) G S.1 (c_X10_isEnd l D kA _ _ v1 h) cd_X10_isEnd ml_X10_80 ⟨(Nat.le_of_ble_eq_true rfl), (Nat.le_of_ble_eq_true rfl)⟩ rfl hl.1 rfl (Nat.le_of_ble_eq_true rfl) dX10_image_1 ⟨Nat.zero_le _, Nat.zero_le _⟩ (fun r1 h => ?_)
  refine lv_if_ne (tgt := 10) hx hb dX10_image_4 (by decide) (fun c2 => ?_) (fun c2 => ?_)
  · have h := h.1 c2
    refine lv_aload_n hx hb dX10_image_10 rfl (lv_at hl 0 rfl) ?_
    refine lv_bipush (v := (60 : Int32)) hx hb dX10_image_11 (by decide) ?_
    refine lv_iload_n hx hb dX10_image_13 rfl (lv_at hl 1 rfl) ?_
    refine lv_imul hx hb dX10_image_14 ?_
    obtain ⟨fs3, hfs3, hkfs3, h⟩ := h
    have h := h _ rfl
    refine x_put G S hfs3 hkfs3 rfl rfl fw_X10_232 dX10_image_15 (fun H locs S => ?_)
    refine lv_aload_n hx hb dX10_image_18 rfl (lv_at hl 0 rfl) ?_
    refine lv_iconst (v := (1 : Int32)) hx hb dX10_image_19 (by decide) ?_
    obtain ⟨fs5, hfs5, hkfs5, h⟩ := h
    have h := h _ rfl
    refine x_put G S hfs5 hkfs5 rfl rfl fw_X10_228 dX10_image_20 (fun H locs S => ?_)
    refine lv_aload_n hx hb dX10_image_23 rfl (lv_at hl 0 rfl) ?_
    obtain ⟨fs13, hfs13, h⟩ := h
    refine x_cMVv (As := []) (rest := []) G S hA hfs13 rfl rfl (c_X10_passAll l D kA _ _ _ v0 h) cd_X10_passAll ml_X10_238 ⟨(Nat.le_of_ble_eq_true rfl), (Nat.le_of_ble_eq_true rfl)⟩ rfl hl.1 rfl (Nat.le_of_ble_eq_true rfl) dX10_image_24 ⟨Nat.zero_le _, Nat.zero_le _⟩ (fun X H locs h S => ?_)
    refine lv_aload_n hx hb dX10_image_27 rfl (lv_at hl 0 rfl) ?_
    obtain ⟨fs8, y9, hfs8, hvfs8, h⟩ := h
    refine x_get G S.1 hfs8 hvfs8 fl_X10_63 dX10_image_28 ?_
    refine lv_iload_n hx hb dX10_image_31 rfl (lv_at hl 1 rfl) ?_
    refine lv_iconst (v := (1 : Int32)) hx hb dX10_image_32 (by decide) ?_
    obtain ⟨n10, f11, hf11, hif11, h⟩ := h
    have h := h _ rfl
    refine x_zast G S hf11 hif11 dX10_image_33 (fun H locs S => ?_)
    refine lv_iconst (v := (1 : Int32)) hx hb dX10_image_34 (by decide) ?_
    exact x_iretM G hr hlk S (Nat.le_refl _) (Nat.le_refl _) h dX10_image_35
  · have h := h.2 c2
    refine lv_bipush (v := (-2 : Int32)) hx hb dX10_image_7 (by decide) ?_
    exact x_iretM G hr hlk S (Nat.le_refl _) (Nat.le_refl _) h dX10_image_9
def wp_X10_restore (post : Int32 → Hp → Prop) (X : Hp) (v0 : Nat) (v1 : Int32) : Prop := wp_X10_isEnd (fun r1 => (¬ r1 = 0 → ∃ (fs3 : List Value) (y4 : Nat), Hs X v0 (.inr (10, fs3)) ∧ fs3[24]? = some (.ref y4) ∧ ∃ (n5 : Nat) (f6 : Nat → Int32), Hs X y4 (.inl (1, n5, .inl f6)) ∧ vp_in v1 n5 ∧ (¬ (f6 v1.toNatClampNeg) = 0 → ∃ (fs8 : List Value), Hs X v0 (.inr (10, fs8)) ∧ 25 < fs8.length ∧ ∀ X9 : Hp, X9 = hput X v0 (.inr (10, fs8.set 25 (.int ((60 : Int32) * v1)))) → ∃ (fs10 : List Value), Hs X9 v0 (.inr (10, fs10)) ∧ 26 < fs10.length ∧ ∀ X11 : Hp, X11 = hput X9 v0 (.inr (10, fs10.set 26 (.int (0 : Int32)))) → ∃ fs17 : List Value, Hs X11 v0 (.inr (10, fs17)) ∧ wp_X10_passAll (fun X12 => ∃ fs16 : List Value, Hs X12 v0 (.inr (10, fs16)) ∧ wp_X10_layHours (fun X13 => ∃ fs15 : List Value, Hs X13 v0 (.inr (10, fs15)) ∧ wp_X10_layHours (fun X14 => post (1 : Int32) X14)  X13 v0 (1 : Int32))  X12 v0 (0 : Int32))  X11 v0) ∧ ((f6 v1.toNatClampNeg) = 0 → post (-3 : Int32) X)) ∧ (r1 = 0 → post (-2 : Int32) X))  X v1
set_option maxHeartbeats 4000000 in
set_option maxRecDepth 100000 in
theorem c_X10_restore (l : Launch) (D : va_G) (kA : Nat → ClassId) (post : Int32 → Hp → Prop) (X : Hp) (sz : Nat) (v0 : Nat) (v1 : Int32) (h : wp_X10_restore post X v0 v1) : Met l yX10_restore (.code yX10_restore cX10_restore 2 (some .int) :: gd) (rmO 2 0 0 45) (va_Pc [Value.ref v0, Value.int v1] (PreM D kA X sz)) (va_Qi post (PoM D kA X sz) (va_A (hw kA X) sz)) 0 0 (va_A (hw kA X) sz) := by
  unfold wp_X10_restore at h
  refine x_enM (by decide) (Nat.le_of_ble_eq_true rfl) ?_
  intro p e s m below meth c G hr hlk hin hsz hA S ls hl
  obtain ⟨hx, hb, hml, hown, hts, hE, hK⟩ := id G
  have hl : lv_has ls 2 [(0, .ref v0), (1, .int v1)] := hl
  refine lv_iload_n hx hb dX10_restore_0 rfl (lv_at hl 1 rfl) ?_
  refine x_cRSi (As := [.int v1]) (rest := []) G S.1 (c_X10_isEnd l D kA _ _ v1 h) cd_X10_isEnd ml_X10_80 ⟨(Nat.le_of_ble_eq_true rfl), (Nat.le_of_ble_eq_true rfl)⟩ rfl hl.1 rfl (Nat.le_of_ble_eq_true rfl) dX10_restore_1 ⟨Nat.zero_le _, Nat.zero_le _⟩ (fun r1 h => ?_)
  refine lv_if_ne (tgt := 10) hx hb dX10_restore_4 (by decide) (fun c2 => ?_) (fun c2 => ?_)
  · have h := h.1 c2
    refine lv_aload_n hx hb dX10_restore_10 rfl (lv_at hl 0 rfl) ?_
    obtain ⟨fs3, y4, hfs3, hvfs3, h⟩ := h
    refine x_get G S.1 hfs3 hvfs3 fl_X10_63 dX10_restore_11 ?_
    refine lv_iload_n hx hb dX10_restore_14 rfl (lv_at hl 1 rfl) ?_
    obtain ⟨n5, f6, hf6, hif6, h⟩ := h
    refine x_zald G S.1 hf6 hif6 dX10_restore_15 ?_
    refine lv_if_ne (tgt := 22) hx hb dX10_restore_16 (by decide) (fun c7 => ?_) (fun c7 => ?_)
    · have h := h.1 c7
      refine lv_aload_n hx hb dX10_restore_22 rfl (lv_at hl 0 rfl) ?_
      refine lv_bipush (v := (60 : Int32)) hx hb dX10_restore_23 (by decide) ?_
      refine lv_iload_n hx hb dX10_restore_25 rfl (lv_at hl 1 rfl) ?_
      refine lv_imul hx hb dX10_restore_26 ?_
      obtain ⟨fs8, hfs8, hkfs8, h⟩ := h
      have h := h _ rfl
      refine x_put G S hfs8 hkfs8 rfl rfl fw_X10_232 dX10_restore_27 (fun H locs S => ?_)
      refine lv_aload_n hx hb dX10_restore_30 rfl (lv_at hl 0 rfl) ?_
      refine lv_iconst (v := (0 : Int32)) hx hb dX10_restore_31 (by decide) ?_
      obtain ⟨fs10, hfs10, hkfs10, h⟩ := h
      have h := h _ rfl
      refine x_put G S hfs10 hkfs10 rfl rfl fw_X10_228 dX10_restore_32 (fun H locs S => ?_)
      refine lv_aload_n hx hb dX10_restore_35 rfl (lv_at hl 0 rfl) ?_
      obtain ⟨fs17, hfs17, h⟩ := h
      refine x_cMVv (As := []) (rest := []) G S hA hfs17 rfl rfl (c_X10_passAll l D kA _ _ _ v0 h) cd_X10_passAll ml_X10_238 ⟨(Nat.le_of_ble_eq_true rfl), (Nat.le_of_ble_eq_true rfl)⟩ rfl hl.1 rfl (Nat.le_of_ble_eq_true rfl) dX10_restore_36 ⟨Nat.zero_le _, Nat.zero_le _⟩ (fun X H locs h S => ?_)
      refine lv_aload_n hx hb dX10_restore_39 rfl (lv_at hl 0 rfl) ?_
      refine lv_iconst (v := (0 : Int32)) hx hb dX10_restore_40 (by decide) ?_
      obtain ⟨fs16, hfs16, h⟩ := h
      refine x_cMVv (As := [.int (0 : Int32)]) (rest := []) G S hA hfs16 rfl rfl (c_X10_layHours l D kA _ _ _ v0 (0 : Int32) h) cd_X10_layHours ml_X10_83 ⟨(Nat.le_of_ble_eq_true rfl), (Nat.le_of_ble_eq_true rfl)⟩ rfl hl.1 rfl (Nat.le_of_ble_eq_true rfl) dX10_restore_41 ⟨Nat.zero_le _, Nat.zero_le _⟩ (fun X H locs h S => ?_)
      refine lv_aload_n hx hb dX10_restore_44 rfl (lv_at hl 0 rfl) ?_
      refine lv_iconst (v := (1 : Int32)) hx hb dX10_restore_45 (by decide) ?_
      obtain ⟨fs15, hfs15, h⟩ := h
      refine x_cMVv (As := [.int (1 : Int32)]) (rest := []) G S hA hfs15 rfl rfl (c_X10_layHours l D kA _ _ _ v0 (1 : Int32) h) cd_X10_layHours ml_X10_83 ⟨(Nat.le_of_ble_eq_true rfl), (Nat.le_of_ble_eq_true rfl)⟩ rfl hl.1 rfl (Nat.le_of_ble_eq_true rfl) dX10_restore_46 ⟨Nat.zero_le _, Nat.zero_le _⟩ (fun X H locs h S => ?_)
      refine lv_iconst (v := (1 : Int32)) hx hb dX10_restore_49 (by decide) ?_
      exact x_iretM G hr hlk S (Nat.le_refl _) (Nat.le_refl _) h dX10_restore_50
    · have h := h.2 c7
      refine lv_bipush (v := (-3 : Int32)) hx hb dX10_restore_19 (by decide) ?_
      exact x_iretM G hr hlk S (Nat.le_refl _) (Nat.le_refl _) h dX10_restore_21
  · have h := h.2 c2
    refine lv_bipush (v := (-2 : Int32)) hx hb dX10_restore_7 (by decide) ?_
    exact x_iretM G hr hlk S (Nat.le_refl _) (Nat.le_refl _) h dX10_restore_9
def wp_X10_told (post : Int32 → Prop) (X : Hp) (v0 : Nat) (v1 : Int32) : Prop := wp_X10_in (fun r1 => (r1 = 0 → wp_X10_in (fun r3 => (r3 = 0 → wp_X10_in (fun r5 => (r5 = 0 → wp_X10_in (fun r7 => (r7 = 0 → (¬ v1 = 0 → post (-2 : Int32)) ∧ (v1 = 0 → ∃ (fs10 : List Value) (y11 : Int32), Hs X v0 (.inr (10, fs10)) ∧ fs10[10]? = some (.int y11) ∧ post y11)) ∧ (¬ r7 = 0 → ∃ (fs12 : List Value) (y13 : Nat), Hs X v0 (.inr (10, fs12)) ∧ fs12[8]? = some (.ref y13) ∧ ∃ (n14 : Nat) (f15 : Nat → Int32), Hs X y13 (.inl (0, n14, .inl f15)) ∧ vp_in (v1 - (8 : Int32)) n14 ∧ post (f15 (v1 - (8 : Int32)).toNatClampNeg)))  X (v1.toInt64) (8 : Int64) (10 : Int64)) ∧ (¬ r5 = 0 → ∃ (fs16 : List Value) (y17 : Nat), Hs X v0 (.inr (10, fs16)) ∧ fs16[7]? = some (.ref y17) ∧ ∃ (n18 : Nat) (f19 : Nat → Int32), Hs X y17 (.inl (0, n18, .inl f19)) ∧ vp_in (v1 - (5 : Int32)) n18 ∧ post (f19 (v1 - (5 : Int32)).toNatClampNeg)))  X (v1.toInt64) (5 : Int64) (7 : Int64)) ∧ (¬ r3 = 0 → ∃ (fs20 : List Value) (y21 : Nat), Hs X v0 (.inr (10, fs20)) ∧ fs20[4]? = some (.ref y21) ∧ ∃ (n22 : Nat) (f23 : Nat → Int32), Hs X y21 (.inl (0, n22, .inl f23)) ∧ vp_in (v1 - (3 : Int32)) n22 ∧ post (f23 (v1 - (3 : Int32)).toNatClampNeg)))  X (v1.toInt64) (3 : Int64) (4 : Int64)) ∧ (¬ r1 = 0 → ∃ (fs24 : List Value) (y25 : Nat), Hs X v0 (.inr (10, fs24)) ∧ fs24[3]? = some (.ref y25) ∧ ∃ (n26 : Nat) (f27 : Nat → Int32), Hs X y25 (.inl (0, n26, .inl f27)) ∧ vp_in (v1 - (1 : Int32)) n26 ∧ post (f27 (v1 - (1 : Int32)).toNatClampNeg)))  X (v1.toInt64) (1 : Int64) (2 : Int64)
set_option maxHeartbeats 4000000 in
set_option maxRecDepth 100000 in
theorem c_X10_told (l : Launch) (D : va_G) (kA : Nat → ClassId) (post : Int32 → Prop) (X : Hp) (v0 : Nat) (v1 : Int32) (h : wp_X10_told post X v0 v1) : Met l yX10_told (.code yX10_told cX10_told 2 (some .int) :: gd) (rmO 1 0 0 25) (va_Pc [Value.ref v0, Value.int v1] (Pre D kA X)) (vp_Si post) 0 0 (fun _ => False) := by
  unfold wp_X10_told at h
  refine x_enR (by decide) (Nat.le_of_ble_eq_true rfl) ?_
  intro p e s m below meth c G hr hlk hP ls hl
  obtain ⟨hx, hb, hml, hown, hts, hE, hK⟩ := id G
  have hl : lv_has ls 2 [(0, .ref v0), (1, .int v1)] := hl
  refine lv_iload_n hx hb dX10_told_0 rfl (lv_at hl 1 rfl) ?_
  refine lv_i2l (v := v1.toInt64) hx hb dX10_told_1 rfl ?_
  refine lv_lconst (v := (1 : Int64)) hx hb dX10_told_2 (by decide) ?_
  refine lv_ldc2 hx hb hown (hts _ kc_X10_206) dX10_told_3 ?_
  refine x_cRSi (As := [.long (v1.toInt64), .long (1 : Int64), .long (2 : Int64)]) (rest := []) G hP (c_X10_in l D kA _ _ (v1.toInt64) (1 : Int64) (2 : Int64) h) cd_X10_in ml_X10_66 ⟨(Nat.le_of_ble_eq_true rfl), (Nat.le_of_ble_eq_true rfl)⟩ rfl hl.1 rfl (Nat.le_of_ble_eq_true rfl) dX10_told_6 ⟨Nat.zero_le _, Nat.zero_le _⟩ (fun r1 h => ?_)
  refine lv_if_eq (tgt := 21) hx hb dX10_told_9 (by decide) (fun c2 => ?_) (fun c2 => ?_)
  · have h := h.1 c2
    refine lv_iload_n hx hb dX10_told_21 rfl (lv_at hl 1 rfl) ?_
    refine lv_i2l (v := v1.toInt64) hx hb dX10_told_22 rfl ?_
    refine lv_ldc2 hx hb hown (hts _ kc_X10_87) dX10_told_23 ?_
    refine lv_ldc2 hx hb hown (hts _ kc_X10_113) dX10_told_26 ?_
    refine x_cRSi (As := [.long (v1.toInt64), .long (3 : Int64), .long (4 : Int64)]) (rest := []) G hP (c_X10_in l D kA _ _ (v1.toInt64) (3 : Int64) (4 : Int64) h) cd_X10_in ml_X10_66 ⟨(Nat.le_of_ble_eq_true rfl), (Nat.le_of_ble_eq_true rfl)⟩ rfl hl.1 rfl (Nat.le_of_ble_eq_true rfl) dX10_told_29 ⟨Nat.zero_le _, Nat.zero_le _⟩ (fun r3 h => ?_)
    refine lv_if_eq (tgt := 44) hx hb dX10_told_32 (by decide) (fun c4 => ?_) (fun c4 => ?_)
    · have h := h.1 c4
      refine lv_iload_n hx hb dX10_told_44 rfl (lv_at hl 1 rfl) ?_
      refine lv_i2l (v := v1.toInt64) hx hb dX10_told_45 rfl ?_
      refine lv_ldc2 hx hb hown (hts _ kc_X10_241) dX10_told_46 ?_
      refine lv_ldc2 hx hb hown (hts _ kc_X10_243) dX10_told_49 ?_
      refine x_cRSi (As := [.long (v1.toInt64), .long (5 : Int64), .long (7 : Int64)]) (rest := []) G hP (c_X10_in l D kA _ _ (v1.toInt64) (5 : Int64) (7 : Int64) h) cd_X10_in ml_X10_66 ⟨(Nat.le_of_ble_eq_true rfl), (Nat.le_of_ble_eq_true rfl)⟩ rfl hl.1 rfl (Nat.le_of_ble_eq_true rfl) dX10_told_52 ⟨Nat.zero_le _, Nat.zero_le _⟩ (fun r5 h => ?_)
      refine lv_if_eq (tgt := 67) hx hb dX10_told_55 (by decide) (fun c6 => ?_) (fun c6 => ?_)
      · have h := h.1 c6
        refine lv_iload_n hx hb dX10_told_67 rfl (lv_at hl 1 rfl) ?_
        refine lv_i2l (v := v1.toInt64) hx hb dX10_told_68 rfl ?_
        refine lv_ldc2 hx hb hown (hts _ kc_X10_245) dX10_told_69 ?_
        refine lv_ldc2 hx hb hown (hts _ kc_X10_247) dX10_told_72 ?_
        refine x_cRSi (As := [.long (v1.toInt64), .long (8 : Int64), .long (10 : Int64)]) (rest := []) G hP (c_X10_in l D kA _ _ (v1.toInt64) (8 : Int64) (10 : Int64) h) cd_X10_in ml_X10_66 ⟨(Nat.le_of_ble_eq_true rfl), (Nat.le_of_ble_eq_true rfl)⟩ rfl hl.1 rfl (Nat.le_of_ble_eq_true rfl) dX10_told_75 ⟨Nat.zero_le _, Nat.zero_le _⟩ (fun r7 h => ?_)
        refine lv_if_eq (tgt := 91) hx hb dX10_told_78 (by decide) (fun c8 => ?_) (fun c8 => ?_)
        · have h := h.1 c8
          refine lv_iload_n hx hb dX10_told_91 rfl (lv_at hl 1 rfl) ?_
          refine lv_if_ne (tgt := 102) hx hb dX10_told_92 (by decide) (fun c9 => ?_) (fun c9 => ?_)
          · have h := h.1 c9
            refine lv_bipush (v := (-2 : Int32)) hx hb dX10_told_102 (by decide) ?_
            exact x_iretR G hr hlk h dX10_told_104
          · have h := h.2 c9
            refine lv_aload_n hx hb dX10_told_95 rfl (lv_at hl 0 rfl) ?_
            obtain ⟨fs10, y11, hfs10, hvfs10, h⟩ := h
            refine x_get G hP hfs10 hvfs10 fl_X10_131 dX10_told_96 ?_
            refine lv_goto (tgt := 104) hx hb dX10_told_99 (by decide) ?_
            exact x_iretR G hr hlk h dX10_told_104
        · have h := h.2 c8
          refine lv_aload_n hx hb dX10_told_81 rfl (lv_at hl 0 rfl) ?_
          obtain ⟨fs12, y13, hfs12, hvfs12, h⟩ := h
          refine x_get G hP hfs12 hvfs12 fl_X10_34 dX10_told_82 ?_
          refine lv_iload_n hx hb dX10_told_85 rfl (lv_at hl 1 rfl) ?_
          refine lv_bipush (v := (8 : Int32)) hx hb dX10_told_86 (by decide) ?_
          refine lv_isub hx hb dX10_told_88 ?_
          obtain ⟨n14, f15, hf15, hif15, h⟩ := h
          refine x_iald G hP hf15 hif15 dX10_told_89 ?_
          exact x_iretR G hr hlk h dX10_told_90
      · have h := h.2 c6
        refine lv_aload_n hx hb dX10_told_58 rfl (lv_at hl 0 rfl) ?_
        obtain ⟨fs16, y17, hfs16, hvfs16, h⟩ := h
        refine x_get G hP hfs16 hvfs16 fl_X10_31 dX10_told_59 ?_
        refine lv_iload_n hx hb dX10_told_62 rfl (lv_at hl 1 rfl) ?_
        refine lv_iconst (v := (5 : Int32)) hx hb dX10_told_63 (by decide) ?_
        refine lv_isub hx hb dX10_told_64 ?_
        obtain ⟨n18, f19, hf19, hif19, h⟩ := h
        refine x_iald G hP hf19 hif19 dX10_told_65 ?_
        exact x_iretR G hr hlk h dX10_told_66
    · have h := h.2 c4
      refine lv_aload_n hx hb dX10_told_35 rfl (lv_at hl 0 rfl) ?_
      obtain ⟨fs20, y21, hfs20, hvfs20, h⟩ := h
      refine x_get G hP hfs20 hvfs20 fl_X10_22 dX10_told_36 ?_
      refine lv_iload_n hx hb dX10_told_39 rfl (lv_at hl 1 rfl) ?_
      refine lv_iconst (v := (3 : Int32)) hx hb dX10_told_40 (by decide) ?_
      refine lv_isub hx hb dX10_told_41 ?_
      obtain ⟨n22, f23, hf23, hif23, h⟩ := h
      refine x_iald G hP hf23 hif23 dX10_told_42 ?_
      exact x_iretR G hr hlk h dX10_told_43
  · have h := h.2 c2
    refine lv_aload_n hx hb dX10_told_12 rfl (lv_at hl 0 rfl) ?_
    obtain ⟨fs24, y25, hfs24, hvfs24, h⟩ := h
    refine x_get G hP hfs24 hvfs24 fl_X10_19 dX10_told_13 ?_
    refine lv_iload_n hx hb dX10_told_16 rfl (lv_at hl 1 rfl) ?_
    refine lv_iconst (v := (1 : Int32)) hx hb dX10_told_17 (by decide) ?_
    refine lv_isub hx hb dX10_told_18 ?_
    obtain ⟨n26, f27, hf27, hif27, h⟩ := h
    refine x_iald G hP hf27 hif27 dX10_told_19 ?_
    exact x_iretR G hr hlk h dX10_told_20
